set_option maxRecDepth 100000 in
set_option maxHeartbeats 4000000 in
theorem ok_X12_in {l : Launch} {D : va_G} {cA : Nat → ClassId} {ad : Nat → Nat} (hI : wI ad) {a1 : Int} {a2 : Int} {a3 : Int} {sg : Mem} {Q : Int → Prop} (hw : wp_X12_in a1 a2 a3 sg Q) : wMi l D cA ad yX12_in cX12_in 6 (some .boolean) 1 [.long (iL a1), .long (iL a2), .long (iL a3)] sg (fun z u => u = sg ∧ Q z) := by
  refine wk_ofZ (by decide) hI (Nat.le_of_ble_eq_true rfl) ?_
  intro p e s m below meth c A QQ ls C0 hret hl hP
  have hx := C0.1
  have hb := C0.2.1
  have hown := C0.2.2.2.1
  have htb := C0.2.2.2.2.1
  have hl : lv_has ls 6 [(0, .long (iL a1)), (2, .long (iL a2)), (4, .long (iL a3))] := hl
  refine (fun (key : ∀ (H : Heap) (locs : List Loc), wP D cA ad sg H → va_S (wA ad) s.heap H locs → W p l e (rmL 1) s m A below meth c H locs 0 0 QQ (F0 m 0 ls [])) => key _ _ hP va_S.rf) ?_
  intro H locs hP hS
  unfold wp_X12_in at hw
  refine lv_lload_n hx hb dX12_in_0 rfl (lv_at hl 0 rfl) ?_
  refine lv_lload_n hx hb dX12_in_1 rfl (lv_at hl 1 rfl) ?_
  have q1 := hw.1
  have hw := hw.2
  have q2 := hw.1
  have hw := hw.2
  refine wk_lcmp_lt hx hb q1 q2 (tgt := 17) dX12_in_2 dX12_in_3 (by decide) (fun hh => ?_) (fun hh => ?_)
  · have hw := hw.1 hh
    refine lv_iconst (v := iI 0) hx hb dX12_in_17 rfl ?_
    exact hret _ _ _ _ _ _ (by decide) ⟨rfl, hw⟩ hP hS dX12_in_18
  · have hw := hw.2 hh
    refine lv_lload_n hx hb dX12_in_6 rfl (lv_at hl 0 rfl) ?_
    refine lv_lload hx hb dX12_in_7 (lv_at hl 2 rfl) ?_
    have q3 := hw.1
    have hw := hw.2
    refine wk_lcmp_gt hx hb q1 q3 (tgt := 17) dX12_in_9 dX12_in_10 (by decide) (fun hh => ?_) (fun hh => ?_)
    · have hw := hw.1 hh
      refine lv_iconst (v := iI 0) hx hb dX12_in_17 rfl ?_
      exact hret _ _ _ _ _ _ (by decide) ⟨rfl, hw⟩ hP hS dX12_in_18
    · have hw := hw.2 hh
      refine lv_iconst (v := iI 1) hx hb dX12_in_13 rfl ?_
      refine lv_goto (tgt := 18) hx hb dX12_in_14 (by decide) ?_
      exact hret _ _ _ _ _ _ (by decide) ⟨rfl, hw⟩ hP hS dX12_in_18

set_option maxRecDepth 100000 in
set_option maxHeartbeats 4000000 in
theorem ok_X12_plain {l : Launch} {D : va_G} {cA : Nat → ClassId} {ad : Nat → Nat} (hI : wI ad) {sg : Mem} {Q : Mem → Prop} (hw : wp_X12_plain sg Q) : wMv l D cA ad yX12_plain cX12_plain 2 none 1 [.ref (ad 65)] sg Q := by
  refine wk_ofV (by decide) hI (Nat.le_of_ble_eq_true rfl) ?_
  intro p e s m below meth c A QQ ls C0 hret hl hP
  have hx := C0.1
  have hb := C0.2.1
  have hown := C0.2.2.2.1
  have htb := C0.2.2.2.2.1
  have hl : lv_has ls 2 [(0, .ref (ad 65))] := hl
  refine (fun (key : ∀ (H : Heap) (locs : List Loc), wP D cA ad sg H → va_S (wA ad) s.heap H locs → W p l e (rmL 1) s m A below meth c H locs 0 0 QQ (F0 m 0 ls [])) => key _ _ hP va_S.rf) ?_
  intro H locs hP hS
  unfold wp_X12_plain at hw
  refine lv_iconst (v := iI 0) hx hb dX12_plain_0 rfl ?_
  refine lv_istore_n (lv' := [(1, .int (iI 0)), (0, .ref (ad 65))]) hx hb dX12_plain_1 rfl hl (by decide) rfl (fun ls hl => ?_)
  obtain ⟨I2, hI2, hw⟩ := hw
  have kI2 : ∀ (k2 : Nat) (y1_1 : Int) (s2 : Mem) (H : Heap) (locs : List Loc) (ls : Array Slot), wP D cA ad s2 H → va_S (wA ad) s.heap H locs → lv_has ls 2 [(0, .ref (ad 65)), (1, .int (iI y1_1))] → I2 k2 y1_1 s2 → W p l e (rmL 1) s m A below meth c H locs 0 0 QQ (F0 m 2 ls []) := by
    intro k2
    induction k2 using Nat.strongRecOn with
    | _ k2 ih2 =>
      intro y1_1 s2 H locs ls hP hS hl hw
      have hw := hI2 k2 y1_1 s2 hw
      refine lv_iload_n hx hb dX12_plain_2 rfl (lv_at hl 1 rfl) ?_
      refine lv_bipush (v := iI 44) hx hb dX12_plain_3 (by decide +kernel) ?_
      have q3 := hw.1
      have hw := hw.2
      refine wk_icmp_ge hx hb q3 ⟨by decide, by decide⟩ (tgt := 21) dX12_plain_5 (by decide) (fun hh => ?_) (fun hh => ?_)
      · have hw := hw.1 hh
        refine lv_aload_n hx hb dX12_plain_21 rfl (lv_at hl 0 rfl) ?_
        refine wk_getR 66 C0 fl_X12_7 hP (by decide) sh_65 rfl dX12_plain_22 ?_
        refine lv_iconst (v := iI 3) hx hb dX12_plain_25 rfl ?_
        refine lv_iconst (v := iI 1) hx hb dX12_plain_26 rfl ?_
        refine wk_iast C0 hP hS (by decide) sh_66 (by decide) (by decide) (by decide) dX12_plain_27 (fun s4 H locs es4 hP hS => ?_)
        have hw := hw s4 es4
        exact hret _ _ _ _ _ hw hP hS dX12_plain_28
      · have hw := hw.2 hh
        refine lv_aload_n hx hb dX12_plain_8 rfl (lv_at hl 0 rfl) ?_
        refine wk_getR 66 C0 fl_X12_7 hP (by decide) sh_65 rfl dX12_plain_9 ?_
        refine lv_iload_n hx hb dX12_plain_12 rfl (lv_at hl 1 rfl) ?_
        refine lv_iconst (v := iI 0) hx hb dX12_plain_13 rfl ?_
        have q5 := hw.1
        have hw := hw.2
        refine wk_iast C0 hP hS (by decide) sh_66 q5.1 q5.2 (by decide) dX12_plain_14 (fun s6 H locs es6 hP hS => ?_)
        have hw := hw s6 es6
        refine wk_iinc (lv' := fun x1_7 => [(1, .int (iI x1_7)), (0, .ref (ad 65))]) hx hb dX12_plain_15 hl (k := 1) rfl (by decide) (fun _ => rfl) (fun x1_7 ls ex1_7 hl => ?_)
        have hw := hw x1_7 ex1_7
        refine lv_goto (tgt := 2) hx hb dX12_plain_18 (by decide) ?_
        obtain ⟨k8, hk8, hw⟩ := hw
        exact ih2 k8 hk8 x1_7 s6 _ _ _ hP hS (lv_sub hl [1, 0] rfl) hw
  obtain ⟨k9, hw⟩ := hw
  exact kI2 k9 0 sg _ _ _ hP hS (lv_sub hl [1, 0] rfl) hw

set_option maxRecDepth 100000 in
set_option maxHeartbeats 4000000 in
theorem ok_X12_feed {l : Launch} {D : va_G} {cA : Nat → ClassId} {ad : Nat → Nat} (hI : wI ad) {a1 : Int} {sg : Mem} {Q : Int → Mem → Prop} (hw : wp_X12_feed a1 sg Q) : wMi l D cA ad yX12_feed cX12_feed 2 (some .int) 2 [.ref (ad 65), .int (iI a1)] sg Q := by
  refine wk_ofI (by decide) hI (Nat.le_of_ble_eq_true rfl) ?_
  intro p e s m below meth c A QQ ls C0 hret hl hP
  have hx := C0.1
  have hb := C0.2.1
  have hown := C0.2.2.2.1
  have htb := C0.2.2.2.2.1
  have hl : lv_has ls 2 [(0, .ref (ad 65)), (1, .int (iI a1))] := hl
  refine (fun (key : ∀ (H : Heap) (locs : List Loc), wP D cA ad sg H → va_S (wA ad) s.heap H locs → W p l e (rmL 2) s m A below meth c H locs 0 0 QQ (F0 m 0 ls [])) => key _ _ hP va_S.rf) ?_
  intro H locs hP hS
  unfold wp_X12_feed at hw
  refine lv_iload_n hx hb dX12_feed_0 rfl (lv_at hl 1 rfl) ?_
  have q1 := hw.1
  have hw := hw.2
  refine wk_i2l hx hb q1 dX12_feed_1 ?_
  refine lv_lconst (v := iL 0) hx hb dX12_feed_2 rfl ?_
  refine lv_ldc2 (own := RX12) (v := iL 255) hx hb hown (htb _ kl_X12_65) dX12_feed_3 ?_
  refine wk_rip (wk_callS (rest := []) C0 cl_X12_67 (ok_X12_in hI hw) hP rfl rfl (Nat.le_of_ble_eq_true rfl) (wk_room (by decide) (by decide)) hl.1 dX12_feed_6 ⟨Nat.le_refl _, Nat.le_refl _⟩) hS (fun r2 H locs hw hP hS => ?_)
  have q3 := hw.1
  have hw := hw.2
  refine wk_if_ne hx hb q3 (tgt := 15) dX12_feed_9 (by decide) (fun hh => ?_) (fun hh => ?_)
  · have hw := hw.2 hh
    refine lv_aload_n hx hb dX12_feed_15 rfl (lv_at hl 0 rfl) ?_
    refine wk_getI C0 fl_X12_72 hP (by decide) sh_65 rfl dX12_feed_16 ?_
    refine lv_sipush (v := iI 200) hx hb dX12_feed_19 (by decide +kernel) ?_
    have q4 := hw.1
    have hw := hw.2
    refine wk_icmp_ne hx hb q4 ⟨by decide, by decide⟩ (tgt := 28) dX12_feed_22 (by decide) (fun hh => ?_) (fun hh => ?_)
    · have hw := hw.2 hh
      refine lv_aload_n hx hb dX12_feed_28 rfl (lv_at hl 0 rfl) ?_
      refine wk_getR 68 C0 fl_X12_16 hP (by decide) sh_65 rfl dX12_feed_29 ?_
      refine lv_aload_n hx hb dX12_feed_32 rfl (lv_at hl 0 rfl) ?_
      refine wk_getI C0 fl_X12_72 hP (by decide) sh_65 rfl dX12_feed_33 ?_
      refine lv_iload_n hx hb dX12_feed_36 rfl (lv_at hl 1 rfl) ?_
      have q5 := hw.1
      have hw := hw.2
      refine wk_iast C0 hP hS (by decide) sh_68 q5.1 q5.2 (by decide) dX12_feed_37 (fun s6 H locs es6 hP hS => ?_)
      have hw := hw s6 es6
      refine lv_aload_n hx hb dX12_feed_38 rfl (lv_at hl 0 rfl) ?_
      refine lv_dup hx hb dX12_feed_39 rfl ?_
      refine wk_getI C0 fl_X12_72 hP (by decide) sh_65 rfl dX12_feed_40 ?_
      refine lv_iconst (v := iI 1) hx hb dX12_feed_43 rfl ?_
      refine wk_iadd hx hb dX12_feed_44 ?_
      refine wk_putI C0 fl_X12_72 rfl rfl hP hS (by decide) sh_65 rfl dX12_feed_45 (fun s7 H locs es7 hP hS => ?_)
      have hw := hw s7 es7
      refine lv_aload_n hx hb dX12_feed_48 rfl (lv_at hl 0 rfl) ?_
      refine wk_getI C0 fl_X12_72 hP (by decide) sh_65 rfl dX12_feed_49 ?_
      exact hret _ _ _ _ _ _ hw hP hS dX12_feed_52
    · have hw := hw.1 hh
      refine lv_ldc (own := RX12) (v := iI (-1000000004)) hx hb hown (htb _ ki_X12_75) dX12_feed_25 ?_
      exact hret _ _ _ _ _ _ hw hP hS dX12_feed_27
  · have hw := hw.1 hh
    refine lv_ldc (own := RX12) (v := iI (-1000000002)) hx hb hown (htb _ ki_X12_71) dX12_feed_12 ?_
    exact hret _ _ _ _ _ _ hw hP hS dX12_feed_14

set_option maxRecDepth 100000 in
set_option maxHeartbeats 4000000 in
theorem ok_X12_here {l : Launch} {D : va_G} {cA : Nat → ClassId} {ad : Nat → Nat} (hI : wI ad) {sg : Mem} {Q : Int → Mem → Prop} (hw : wp_X12_here sg Q) : wMi l D cA ad yX12_here cX12_here 1 (some .int) 1 [.ref (ad 65)] sg Q := by
  refine wk_ofI (by decide) hI (Nat.le_of_ble_eq_true rfl) ?_
  intro p e s m below meth c A QQ ls C0 hret hl hP
  have hx := C0.1
  have hb := C0.2.1
  have hown := C0.2.2.2.1
  have htb := C0.2.2.2.2.1
  have hl : lv_has ls 1 [(0, .ref (ad 65))] := hl
  refine (fun (key : ∀ (H : Heap) (locs : List Loc), wP D cA ad sg H → va_S (wA ad) s.heap H locs → W p l e (rmL 1) s m A below meth c H locs 0 0 QQ (F0 m 0 ls [])) => key _ _ hP va_S.rf) ?_
  intro H locs hP hS
  unfold wp_X12_here at hw
  obtain ⟨I0, hI0, hw⟩ := hw
  have kI0 : ∀ (k0 : Nat) (s1 : Mem) (H : Heap) (locs : List Loc) (ls : Array Slot), wP D cA ad s1 H → va_S (wA ad) s.heap H locs → lv_has ls 1 [(0, .ref (ad 65))] → I0 k0 s1 → W p l e (rmL 1) s m A below meth c H locs 0 0 QQ (F0 m 0 ls []) := by
    intro k0
    induction k0 using Nat.strongRecOn with
    | _ k0 ih0 =>
      intro s1 H locs ls hP hS hl hw
      have hw := hI0 k0 s1 hw
      refine lv_aload_n hx hb dX12_here_0 rfl (lv_at hl 0 rfl) ?_
      refine wk_getI C0 fl_X12_76 hP (by decide) sh_65 rfl dX12_here_1 ?_
      refine lv_aload_n hx hb dX12_here_4 rfl (lv_at hl 0 rfl) ?_
      refine wk_getI C0 fl_X12_72 hP (by decide) sh_65 rfl dX12_here_5 ?_
      have q2 := hw.1
      have hw := hw.2
      have q3 := hw.1
      have hw := hw.2
      obtain ⟨X38, hX38, hw⟩ := hw
      have kX38 : ∀ (H : Heap) (locs : List Loc) (ls : Array Slot), wP D cA ad s1 H → va_S (wA ad) s.heap H locs → lv_has ls 1 [(0, .ref (ad 65))] → X38 → W p l e (rmL 1) s m A below meth c H locs 0 0 QQ (F0 m 38 ls []) := by
        intro H locs ls hP hS hl hw
        have hw := hX38 hw
        refine lv_aload_n hx hb dX12_here_38 rfl (lv_at hl 0 rfl) ?_
        refine wk_getI C0 fl_X12_76 hP (by decide) sh_65 rfl dX12_here_39 ?_
        refine lv_aload_n hx hb dX12_here_42 rfl (lv_at hl 0 rfl) ?_
        refine wk_getI C0 fl_X12_72 hP (by decide) sh_65 rfl dX12_here_43 ?_
        refine wk_icmp_ge hx hb q2 q3 (tgt := 61) dX12_here_46 (by decide) (fun hh => ?_) (fun hh => ?_)
        · have hw := hw.1 hh
          refine lv_iconst (v := iI (-1)) hx hb dX12_here_61 rfl ?_
          exact hret _ _ _ _ _ _ hw hP hS dX12_here_62
        · have hw := hw.2 hh
          refine lv_aload_n hx hb dX12_here_49 rfl (lv_at hl 0 rfl) ?_
          refine wk_getR 68 C0 fl_X12_16 hP (by decide) sh_65 rfl dX12_here_50 ?_
          refine lv_aload_n hx hb dX12_here_53 rfl (lv_at hl 0 rfl) ?_
          refine wk_getI C0 fl_X12_76 hP (by decide) sh_65 rfl dX12_here_54 ?_
          have q4 := hw.1
          have hw := hw.2
          refine wk_iald C0 hP (by decide) sh_68 q4.1 q4.2 (by decide) dX12_here_57 ?_
          refine lv_goto (tgt := 62) hx hb dX12_here_58 (by decide) ?_
          exact hret _ _ _ _ _ _ hw hP hS dX12_here_62
      refine wk_icmp_ge hx hb q2 q3 (tgt := 38) dX12_here_8 (by decide) (fun hh => ?_) (fun hh => ?_)
      · have hw := hw.1 hh
        exact kX38  _ _ _ hP hS (lv_sub hl [0] rfl) hw
      · have hw := hw.2 hh
        refine lv_aload_n hx hb dX12_here_11 rfl (lv_at hl 0 rfl) ?_
        refine wk_getR 68 C0 fl_X12_16 hP (by decide) sh_65 rfl dX12_here_12 ?_
        refine lv_aload_n hx hb dX12_here_15 rfl (lv_at hl 0 rfl) ?_
        refine wk_getI C0 fl_X12_76 hP (by decide) sh_65 rfl dX12_here_16 ?_
        have q5 := hw.1
        have hw := hw.2
        refine wk_iald C0 hP (by decide) sh_68 q5.1 q5.2 (by decide) dX12_here_19 ?_
        refine lv_bipush (v := iI 32) hx hb dX12_here_20 (by decide +kernel) ?_
        have q6 := hw.1
        have hw := hw.2
        refine wk_icmp_ne hx hb q6 ⟨by decide, by decide⟩ (tgt := 38) dX12_here_22 (by decide) (fun hh => ?_) (fun hh => ?_)
        · have hw := hw.2 hh
          exact kX38  _ _ _ hP hS (lv_sub hl [0] rfl) hw
        · have hw := hw.1 hh
          refine lv_aload_n hx hb dX12_here_25 rfl (lv_at hl 0 rfl) ?_
          refine lv_dup hx hb dX12_here_26 rfl ?_
          refine wk_getI C0 fl_X12_76 hP (by decide) sh_65 rfl dX12_here_27 ?_
          refine lv_iconst (v := iI 1) hx hb dX12_here_30 rfl ?_
          refine wk_iadd hx hb dX12_here_31 ?_
          refine wk_putI C0 fl_X12_76 rfl rfl hP hS (by decide) sh_65 rfl dX12_here_32 (fun s7 H locs es7 hP hS => ?_)
          have hw := hw s7 es7
          refine lv_goto (tgt := 0) hx hb dX12_here_35 (by decide) ?_
          obtain ⟨k8, hk8, hw⟩ := hw
          exact ih0 k8 hk8 s7 _ _ _ hP hS (lv_sub hl [0] rfl) hw
  obtain ⟨k9, hw⟩ := hw
  exact kI0 k9 sg _ _ _ hP hS (lv_sub hl [0] rfl) hw

set_option maxRecDepth 100000 in
set_option maxHeartbeats 4000000 in
theorem ok_X12_faults {l : Launch} {D : va_G} {cA : Nat → ClassId} {ad : Nat → Nat} (hI : wI ad) {a1 : Int} {a2 : Int} {sg : Mem} {Q : Mem → Prop} (hw : wp_X12_faults a1 a2 sg Q) : wMv l D cA ad yX12_faults cX12_faults 3 none 1 [.ref (ad 65), .int (iI a1), .int (iI a2)] sg Q := by
  refine wk_ofV (by decide) hI (Nat.le_of_ble_eq_true rfl) ?_
  intro p e s m below meth c A QQ ls C0 hret hl hP
  have hx := C0.1
  have hb := C0.2.1
  have hown := C0.2.2.2.1
  have htb := C0.2.2.2.2.1
  have hl : lv_has ls 3 [(0, .ref (ad 65)), (1, .int (iI a1)), (2, .int (iI a2))] := hl
  refine (fun (key : ∀ (H : Heap) (locs : List Loc), wP D cA ad sg H → va_S (wA ad) s.heap H locs → W p l e (rmL 1) s m A below meth c H locs 0 0 QQ (F0 m 0 ls [])) => key _ _ hP va_S.rf) ?_
  intro H locs hP hS
  unfold wp_X12_faults at hw
  refine lv_aload_n hx hb dX12_faults_0 rfl (lv_at hl 0 rfl) ?_
  refine wk_getI C0 fl_X12_79 hP (by decide) sh_65 rfl dX12_faults_1 ?_
  have q1 := hw.1
  have hw := hw.2
  refine wk_if_ne hx hb q1 (tgt := 17) dX12_faults_4 (by decide) (fun hh => ?_) (fun hh => ?_)
  · have hw := hw.2 hh
    exact hret _ _ _ _ _ hw hP hS dX12_faults_17
  · have hw := hw.1 hh
    refine lv_aload_n hx hb dX12_faults_7 rfl (lv_at hl 0 rfl) ?_
    refine lv_iload_n hx hb dX12_faults_8 rfl (lv_at hl 1 rfl) ?_
    refine wk_putI C0 fl_X12_79 rfl rfl hP hS (by decide) sh_65 rfl dX12_faults_9 (fun s2 H locs es2 hP hS => ?_)
    have hw := hw s2 es2
    refine lv_aload_n hx hb dX12_faults_12 rfl (lv_at hl 0 rfl) ?_
    refine lv_iload_n hx hb dX12_faults_13 rfl (lv_at hl 2 rfl) ?_
    refine wk_putI C0 fl_X12_55 rfl rfl hP hS (by decide) sh_65 rfl dX12_faults_14 (fun s3 H locs es3 hP hS => ?_)
    have hw := hw s3 es3
    exact hret _ _ _ _ _ hw hP hS dX12_faults_17

set_option maxRecDepth 100000 in
set_option maxHeartbeats 4000000 in
theorem ok_X12_number {l : Launch} {D : va_G} {cA : Nat → ClassId} {ad : Nat → Nat} (hI : wI ad) {a1 : Int} {a2 : Int} {sg : Mem} {Q : Int → Mem → Prop} (hw : wp_X12_number a1 a2 sg Q) : wMi l D cA ad yX12_number cX12_number 4 (some .int) 2 [.ref (ad 65), .int (iI a1), .int (iI a2)] sg Q := by
  refine wk_ofI (by decide) hI (Nat.le_of_ble_eq_true rfl) ?_
  intro p e s m below meth c A QQ ls C0 hret hl hP
  have hx := C0.1
  have hb := C0.2.1
  have hown := C0.2.2.2.1
  have htb := C0.2.2.2.2.1
  have hl : lv_has ls 4 [(0, .ref (ad 65)), (1, .int (iI a1)), (2, .int (iI a2))] := hl
  refine (fun (key : ∀ (H : Heap) (locs : List Loc), wP D cA ad sg H → va_S (wA ad) s.heap H locs → W p l e (rmL 2) s m A below meth c H locs 0 0 QQ (F0 m 0 ls [])) => key _ _ hP va_S.rf) ?_
  intro H locs hP hS
  unfold wp_X12_number at hw
  refine lv_aload_n hx hb dX12_number_0 rfl (lv_at hl 0 rfl) ?_
  refine wk_getI C0 fl_X12_79 hP (by decide) sh_65 rfl dX12_number_1 ?_
  have q1 := hw.1
  have hw := hw.2
  refine wk_if_eq hx hb q1 (tgt := 9) dX12_number_4 (by decide) (fun hh => ?_) (fun hh => ?_)
  · have hw := hw.1 hh
    refine lv_aload_n hx hb dX12_number_9 rfl (lv_at hl 0 rfl) ?_
    refine wk_ri (wk_callV (rest := []) C0 cl_X12_82 (ok_X12_here hI hw) hP (by decide) sh_65 rfl rfl rfl (Nat.le_of_ble_eq_true rfl) (wk_room (by decide) (by decide)) hl.1 dX12_number_10 ⟨Nat.le_refl _, Nat.le_refl _⟩) hS (fun r2 s3 H locs hw hP hS => ?_)
    have q4 := hw.1
    have hw := hw.2
    refine wk_i2l hx hb q4 dX12_number_13 ?_
    refine lv_ldc2 (own := RX12) (v := iL 48) hx hb hown (htb _ kl_X12_86) dX12_number_14 ?_
    refine lv_ldc2 (own := RX12) (v := iL 57) hx hb hown (htb _ kl_X12_88) dX12_number_17 ?_
    refine wk_rip (wk_callS (rest := []) C0 cl_X12_67 (ok_X12_in hI hw) hP rfl rfl (Nat.le_of_ble_eq_true rfl) (wk_room (by decide) (by decide)) hl.1 dX12_number_20 ⟨Nat.le_refl _, Nat.le_refl _⟩) hS (fun r5 H locs hw hP hS => ?_)
    have q6 := hw.1
    have hw := hw.2
    refine wk_if_ne hx hb q6 (tgt := 37) dX12_number_23 (by decide) (fun hh => ?_) (fun hh => ?_)
    · have hw := hw.2 hh
      refine lv_aload_n hx hb dX12_number_37 rfl (lv_at hl 0 rfl) ?_
      refine lv_aload_n hx hb dX12_number_38 rfl (lv_at hl 0 rfl) ?_
      refine wk_getI C0 fl_X12_76 hP (by decide) sh_65 rfl dX12_number_39 ?_
      refine wk_putI C0 fl_X12_94 rfl rfl hP hS (by decide) sh_65 rfl dX12_number_42 (fun s8 H locs es8 hP hS => ?_)
      have hw := hw s8 es8
      refine lv_iconst (v := iI 0) hx hb dX12_number_45 rfl ?_
      refine lv_istore_n (lv' := [(3, .int (iI 0)), (0, .ref (ad 65)), (1, .int (iI a1)), (2, .int (iI a2))]) hx hb dX12_number_46 rfl hl (by decide) rfl (fun ls hl => ?_)
      obtain ⟨I47, hI47, hw⟩ := hw
      have kI47 : ∀ (k47 : Nat) (y3_9 : Int) (s10 : Mem) (H : Heap) (locs : List Loc) (ls : Array Slot), wP D cA ad s10 H → va_S (wA ad) s.heap H locs → lv_has ls 4 [(0, .ref (ad 65)), (1, .int (iI a1)), (2, .int (iI a2)), (3, .int (iI y3_9))] → I47 k47 y3_9 s10 → W p l e (rmL 2) s m A below meth c H locs 0 0 QQ (F0 m 47 ls []) := by
        intro k47
        induction k47 using Nat.strongRecOn with
        | _ k47 ih47 =>
          intro y3_9 s10 H locs ls hP hS hl hw
          have hw := hI47 k47 y3_9 s10 hw
          refine lv_aload_n hx hb dX12_number_47 rfl (lv_at hl 0 rfl) ?_
          refine wk_getI C0 fl_X12_76 hP (by decide) sh_65 rfl dX12_number_48 ?_
          refine lv_aload_n hx hb dX12_number_51 rfl (lv_at hl 0 rfl) ?_
          refine wk_getI C0 fl_X12_72 hP (by decide) sh_65 rfl dX12_number_52 ?_
          have q11 := hw.1
          have hw := hw.2
          have q12 := hw.1
          have hw := hw.2
          obtain ⟨X130, hX130, hw⟩ := hw
          have kX130 : ∀ (H : Heap) (locs : List Loc) (ls : Array Slot), wP D cA ad s10 H → va_S (wA ad) s.heap H locs → lv_has ls 4 [(0, .ref (ad 65)), (1, .int (iI a1)), (2, .int (iI a2)), (3, .int (iI y3_9))] → X130 → W p l e (rmL 2) s m A below meth c H locs 0 0 QQ (F0 m 130 ls []) := by
            intro H locs ls hP hS hl hw
            have hw := hX130 hw
            refine lv_iload_n hx hb dX12_number_130 rfl (lv_at hl 3 rfl) ?_
            have q13 := hw.1
            have hw := hw.2
            refine wk_i2l hx hb q13 dX12_number_131 ?_
            refine lv_iload_n hx hb dX12_number_132 rfl (lv_at hl 1 rfl) ?_
            have q14 := hw.1
            have hw := hw.2
            refine wk_i2l hx hb q14 dX12_number_133 ?_
            refine lv_iload_n hx hb dX12_number_134 rfl (lv_at hl 2 rfl) ?_
            have q15 := hw.1
            have hw := hw.2
            refine wk_i2l hx hb q15 dX12_number_135 ?_
            refine wk_rip (wk_callS (rest := []) C0 cl_X12_67 (ok_X12_in hI hw) hP rfl rfl (Nat.le_of_ble_eq_true rfl) (wk_room (by decide) (by decide)) hl.1 dX12_number_136 ⟨Nat.le_refl _, Nat.le_refl _⟩) hS (fun r16 H locs hw hP hS => ?_)
            have q17 := hw.1
            have hw := hw.2
            refine wk_if_ne hx hb q17 (tgt := 151) dX12_number_139 (by decide) (fun hh => ?_) (fun hh => ?_)
            · have hw := hw.2 hh
              refine lv_iload_n hx hb dX12_number_151 rfl (lv_at hl 3 rfl) ?_
              exact hret _ _ _ _ _ _ hw hP hS dX12_number_152
            · have hw := hw.1 hh
              refine lv_aload_n hx hb dX12_number_142 rfl (lv_at hl 0 rfl) ?_
              refine lv_iconst (v := iI 2) hx hb dX12_number_143 rfl ?_
              refine lv_aload_n hx hb dX12_number_144 rfl (lv_at hl 0 rfl) ?_
              refine wk_getI C0 fl_X12_94 hP (by decide) sh_65 rfl dX12_number_145 ?_
              refine wk_rv (wk_callV (rest := []) C0 cl_X12_90 (ok_X12_faults hI hw) hP (by decide) sh_65 rfl rfl rfl (Nat.le_of_ble_eq_true rfl) (wk_room (by decide) (by decide)) hl.1 dX12_number_148 ⟨Nat.le_refl _, Nat.le_refl _⟩) hS (fun s18 H locs hw hP hS => ?_)
              refine lv_iload_n hx hb dX12_number_151 rfl (lv_at hl 3 rfl) ?_
              exact hret _ _ _ _ _ _ hw hP hS dX12_number_152
          refine wk_icmp_ge hx hb q11 q12 (tgt := 130) dX12_number_55 (by decide) (fun hh => ?_) (fun hh => ?_)
          · have hw := hw.1 hh
            exact kX130  _ _ _ hP hS (lv_sub hl [0, 1, 2, 3] rfl) hw
          · have hw := hw.2 hh
            refine lv_aload_n hx hb dX12_number_58 rfl (lv_at hl 0 rfl) ?_
            refine wk_getR 68 C0 fl_X12_16 hP (by decide) sh_65 rfl dX12_number_59 ?_
            refine lv_aload_n hx hb dX12_number_62 rfl (lv_at hl 0 rfl) ?_
            refine wk_getI C0 fl_X12_76 hP (by decide) sh_65 rfl dX12_number_63 ?_
            have q19 := hw.1
            have hw := hw.2
            refine wk_iald C0 hP (by decide) sh_68 q19.1 q19.2 (by decide) dX12_number_66 ?_
            have q20 := hw.1
            have hw := hw.2
            refine wk_i2l hx hb q20 dX12_number_67 ?_
            refine lv_ldc2 (own := RX12) (v := iL 48) hx hb hown (htb _ kl_X12_86) dX12_number_68 ?_
            refine lv_ldc2 (own := RX12) (v := iL 57) hx hb hown (htb _ kl_X12_88) dX12_number_71 ?_
            refine wk_rip (wk_callS (rest := []) C0 cl_X12_67 (ok_X12_in hI hw) hP rfl rfl (Nat.le_of_ble_eq_true rfl) (wk_room (by decide) (by decide)) hl.1 dX12_number_74 ⟨Nat.le_refl _, Nat.le_refl _⟩) hS (fun r21 H locs hw hP hS => ?_)
            have q22 := hw.1
            have hw := hw.2
            refine wk_if_eq hx hb q22 (tgt := 130) dX12_number_77 (by decide) (fun hh => ?_) (fun hh => ?_)
            · have hw := hw.1 hh
              exact kX130  _ _ _ hP hS (lv_sub hl [0, 1, 2, 3] rfl) hw
            · have hw := hw.2 hh
              refine lv_aload_n hx hb dX12_number_80 rfl (lv_at hl 0 rfl) ?_
              refine wk_getI C0 fl_X12_76 hP (by decide) sh_65 rfl dX12_number_81 ?_
              refine lv_aload_n hx hb dX12_number_84 rfl (lv_at hl 0 rfl) ?_
              refine wk_getI C0 fl_X12_94 hP (by decide) sh_65 rfl dX12_number_85 ?_
              refine wk_isub hx hb dX12_number_88 ?_
              refine lv_iconst (v := iI 2) hx hb dX12_number_89 rfl ?_
              have q23 := hw.1
              have hw := hw.2
              have kX116 : ∀ v24 : Int, v24 = (if (s10 65 4) - (s10 65 7) ≤ 2 then ((10 * y3_9) + (s10 68 (s10 65 4).toNat)) - 48 else 9999) → ∀ (ls : Array Slot), lv_has ls 4 [(0, .ref (ad 65)), (1, .int (iI a1)), (2, .int (iI a2))] → W p l e (rmL 2) s m A below meth c H locs 0 0 QQ (F0 m 116 ls [.int (iI v24)]) := by
                intro v24 ev24 ls hl
                have hw := hw v24 ev24
                refine lv_istore_n (lv' := [(3, .int (iI v24)), (0, .ref (ad 65)), (1, .int (iI a1)), (2, .int (iI a2))]) hx hb dX12_number_116 rfl hl (by decide) rfl (fun ls hl => ?_)
                refine lv_aload_n hx hb dX12_number_117 rfl (lv_at hl 1 rfl) ?_
                refine lv_dup hx hb dX12_number_118 rfl ?_
                refine wk_getI C0 fl_X12_76 hP (by decide) sh_65 rfl dX12_number_119 ?_
                refine lv_iconst (v := iI 1) hx hb dX12_number_122 rfl ?_
                refine wk_iadd hx hb dX12_number_123 ?_
                refine wk_putI C0 fl_X12_76 rfl rfl hP hS (by decide) sh_65 rfl dX12_number_124 (fun s25 H locs es25 hP hS => ?_)
                have hw := hw s25 es25
                refine lv_goto (tgt := 47) hx hb dX12_number_127 (by decide) ?_
                obtain ⟨k26, hk26, hw⟩ := hw
                exact ih47 k26 hk26 v24 s25 _ _ _ hP hS (lv_sub hl [1, 2, 3, 0] rfl) hw
              refine wk_icmp_le hx hb q23 ⟨by decide, by decide⟩ (tgt := 99) dX12_number_90 (by decide) (fun hh27 => ?_) (fun hh27 => ?_)
              · refine lv_bipush (v := iI 10) hx hb dX12_number_99 (by decide +kernel) ?_
                refine lv_iload_n hx hb dX12_number_101 rfl (lv_at hl 3 rfl) ?_
                refine wk_imul hx hb dX12_number_102 ?_
                refine lv_aload_n hx hb dX12_number_103 rfl (lv_at hl 0 rfl) ?_
                refine wk_getR 68 C0 fl_X12_16 hP (by decide) sh_65 rfl dX12_number_104 ?_
                refine lv_aload_n hx hb dX12_number_107 rfl (lv_at hl 0 rfl) ?_
                refine wk_getI C0 fl_X12_76 hP (by decide) sh_65 rfl dX12_number_108 ?_
                refine wk_iald C0 hP (by decide) sh_68 q19.1 q19.2 (by decide) dX12_number_111 ?_
                refine wk_iadd hx hb dX12_number_112 ?_
                refine lv_bipush (v := iI 48) hx hb dX12_number_113 (by decide +kernel) ?_
                refine wk_isub hx hb dX12_number_115 ?_
                exact kX116 (((10 * y3_9) + (s10 68 (s10 65 4).toNat)) - 48) (by rw [if_pos hh27]) ls (lv_sub hl [0, 1, 2] rfl)
              · refine lv_sipush (v := iI 9999) hx hb dX12_number_93 (by decide +kernel) ?_
                refine lv_goto (tgt := 116) hx hb dX12_number_96 (by decide) ?_
                exact kX116 9999 (by rw [if_neg hh27]) ls (lv_sub hl [0, 1, 2] rfl)
      obtain ⟨k28, hw⟩ := hw
      exact kI47 k28 0 s8 _ _ _ hP hS (lv_sub hl [1, 2, 3, 0] rfl) hw
    · have hw := hw.1 hh
      refine lv_aload_n hx hb dX12_number_26 rfl (lv_at hl 0 rfl) ?_
      refine lv_iconst (v := iI 1) hx hb dX12_number_27 rfl ?_
      refine lv_aload_n hx hb dX12_number_28 rfl (lv_at hl 0 rfl) ?_
      refine wk_getI C0 fl_X12_76 hP (by decide) sh_65 rfl dX12_number_29 ?_
      refine wk_rv (wk_callV (rest := []) C0 cl_X12_90 (ok_X12_faults hI hw) hP (by decide) sh_65 rfl rfl rfl (Nat.le_of_ble_eq_true rfl) (wk_room (by decide) (by decide)) hl.1 dX12_number_32 ⟨Nat.le_refl _, Nat.le_refl _⟩) hS (fun s7 H locs hw hP hS => ?_)
      refine lv_iload_n hx hb dX12_number_35 rfl (lv_at hl 1 rfl) ?_
      exact hret _ _ _ _ _ _ hw hP hS dX12_number_36
  · have hw := hw.2 hh
    refine lv_iload_n hx hb dX12_number_7 rfl (lv_at hl 1 rfl) ?_
    exact hret _ _ _ _ _ _ hw hP hS dX12_number_8

set_option maxRecDepth 100000 in
set_option maxHeartbeats 4000000 in
theorem ok_X12_readHeat {l : Launch} {D : va_G} {cA : Nat → ClassId} {ad : Nat → Nat} (hI : wI ad) {sg : Mem} {Q : Mem → Prop} (hw : wp_X12_readHeat sg Q) : wMv l D cA ad yX12_readHeat cX12_readHeat 3 none 3 [.ref (ad 65)] sg Q := by
  refine wk_ofV (by decide) hI (Nat.le_of_ble_eq_true rfl) ?_
  intro p e s m below meth c A QQ ls C0 hret hl hP
  have hx := C0.1
  have hb := C0.2.1
  have hown := C0.2.2.2.1
  have htb := C0.2.2.2.2.1
  have hl : lv_has ls 3 [(0, .ref (ad 65))] := hl
  refine (fun (key : ∀ (H : Heap) (locs : List Loc), wP D cA ad sg H → va_S (wA ad) s.heap H locs → W p l e (rmL 3) s m A below meth c H locs 0 0 QQ (F0 m 0 ls [])) => key _ _ hP va_S.rf) ?_
  intro H locs hP hS
  unfold wp_X12_readHeat at hw
  refine lv_aload_n hx hb dX12_readHeat_0 rfl (lv_at hl 0 rfl) ?_
  refine lv_iconst (v := iI 0) hx hb dX12_readHeat_1 rfl ?_
  refine lv_aload_n hx hb dX12_readHeat_2 rfl (lv_at hl 0 rfl) ?_
  refine wk_getR 66 C0 fl_X12_7 hP (by decide) sh_65 rfl dX12_readHeat_3 ?_
  refine lv_iconst (v := iI 0) hx hb dX12_readHeat_6 rfl ?_
  refine wk_iald C0 hP (by decide) sh_66 (by decide) (by decide) (by decide) dX12_readHeat_7 ?_
  rw [show (0 : Int).toNat = 0 from rfl]
  refine lv_iconst (v := iI 1) hx hb dX12_readHeat_8 rfl ?_
  refine wk_isub hx hb dX12_readHeat_9 ?_
  refine wk_ri (wk_callV (rest := []) C0 cl_X12_97 (ok_X12_number hI hw) hP (by decide) sh_65 rfl rfl rfl (Nat.le_of_ble_eq_true rfl) (wk_room (by decide) (by decide)) hl.1 dX12_readHeat_10 ⟨Nat.le_refl _, Nat.le_refl _⟩) hS (fun r1 s2 H locs hw hP hS => ?_)
  refine lv_istore_n (lv' := [(1, .int (iI r1)), (0, .ref (ad 65))]) hx hb dX12_readHeat_13 rfl hl (by decide) rfl (fun ls hl => ?_)
  refine lv_aload_n hx hb dX12_readHeat_14 rfl (lv_at hl 1 rfl) ?_
  refine wk_getI C0 fl_X12_79 hP (by decide) sh_65 rfl dX12_readHeat_15 ?_
  have q3 := hw.1
  have hw := hw.2
  obtain ⟨X44, hX44, hw⟩ := hw
  have kX44 : ∀ (s4 : Mem) (H : Heap) (locs : List Loc) (ls : Array Slot), wP D cA ad s4 H → va_S (wA ad) s.heap H locs → lv_has ls 3 [(0, .ref (ad 65)), (1, .int (iI r1))] → X44 s4 → W p l e (rmL 3) s m A below meth c H locs 0 0 QQ (F0 m 44 ls []) := by
    intro s4 H locs ls hP hS hl hw
    have hw := hX44 s4 hw
    refine lv_aload_n hx hb dX12_readHeat_44 rfl (lv_at hl 0 rfl) ?_
    refine lv_iconst (v := iI 0) hx hb dX12_readHeat_45 rfl ?_
    refine lv_bipush (v := iI 9) hx hb dX12_readHeat_46 (by decide +kernel) ?_
    refine wk_ri (wk_callV (rest := []) C0 cl_X12_97 (ok_X12_number hI hw) hP (by decide) sh_65 rfl rfl rfl (Nat.le_of_ble_eq_true rfl) (wk_room (by decide) (by decide)) hl.1 dX12_readHeat_48 ⟨Nat.le_refl _, Nat.le_refl _⟩) hS (fun r5 s6 H locs hw hP hS => ?_)
    refine lv_istore_n (lv' := [(2, .int (iI r5)), (0, .ref (ad 65)), (1, .int (iI r1))]) hx hb dX12_readHeat_51 rfl hl (by decide) rfl (fun ls hl => ?_)
    refine lv_aload_n hx hb dX12_readHeat_52 rfl (lv_at hl 1 rfl) ?_
    refine wk_getI C0 fl_X12_79 hP (by decide) sh_65 rfl dX12_readHeat_53 ?_
    have q7 := hw.1
    have hw := hw.2
    refine wk_if_ne hx hb q7 (tgt := 81) dX12_readHeat_56 (by decide) (fun hh => ?_) (fun hh => ?_)
    · have hw := hw.2 hh
      exact hret _ _ _ _ _ hw hP hS dX12_readHeat_81
    · have hw := hw.1 hh
      refine lv_aload_n hx hb dX12_readHeat_59 rfl (lv_at hl 1 rfl) ?_
      refine wk_getR 66 C0 fl_X12_7 hP (by decide) sh_65 rfl dX12_readHeat_60 ?_
      refine lv_bipush (v := iI 6) hx hb dX12_readHeat_63 (by decide +kernel) ?_
      refine lv_iload_n hx hb dX12_readHeat_65 rfl (lv_at hl 2 rfl) ?_
      refine wk_iadd hx hb dX12_readHeat_66 ?_
      refine lv_iload_n hx hb dX12_readHeat_67 rfl (lv_at hl 0 rfl) ?_
      have q8 := hw.1
      have hw := hw.2
      refine wk_iast C0 hP hS (by decide) sh_66 q8.1 q8.2 (by decide) dX12_readHeat_68 (fun s9 H locs es9 hP hS => ?_)
      have hw := hw s9 es9
      refine lv_aload_n hx hb dX12_readHeat_69 rfl (lv_at hl 1 rfl) ?_
      refine wk_getR 66 C0 fl_X12_7 hP (by decide) sh_65 rfl dX12_readHeat_70 ?_
      refine lv_iconst (v := iI 5) hx hb dX12_readHeat_73 rfl ?_
      refine lv_dup2_11 hx hb dX12_readHeat_74 rfl rfl ?_
      refine wk_iald C0 hP (by decide) sh_66 (by decide) (by decide) (by decide) dX12_readHeat_75 ?_
      rw [show (5 : Int).toNat = 5 from rfl]
      refine lv_iconst (v := iI 1) hx hb dX12_readHeat_76 rfl ?_
      refine lv_iload_n hx hb dX12_readHeat_77 rfl (lv_at hl 2 rfl) ?_
      refine wk_ishl hx hb dX12_readHeat_78 ?_
      refine wk_ior hx hb dX12_readHeat_79 ?_
      refine wk_iast C0 hP hS (by decide) sh_66 (by decide) (by decide) (by decide) dX12_readHeat_80 (fun s10 H locs es10 hP hS => ?_)
      have hw := hw s10 es10
      exact hret _ _ _ _ _ hw hP hS dX12_readHeat_81
  refine wk_if_ne hx hb q3 (tgt := 44) dX12_readHeat_18 (by decide) (fun hh => ?_) (fun hh => ?_)
  · have hw := hw.2 hh
    exact kX44 s2 _ _ _ hP hS (lv_sub hl [1, 0] rfl) hw
  · have hw := hw.1 hh
    refine lv_aload_n hx hb dX12_readHeat_21 rfl (lv_at hl 1 rfl) ?_
    refine wk_getR 66 C0 fl_X12_7 hP (by decide) sh_65 rfl dX12_readHeat_22 ?_
    refine lv_iconst (v := iI 5) hx hb dX12_readHeat_25 rfl ?_
    refine wk_iald C0 hP (by decide) sh_66 (by decide) (by decide) (by decide) dX12_readHeat_26 ?_
    rw [show (5 : Int).toNat = 5 from rfl]
    refine lv_iload_n hx hb dX12_readHeat_27 rfl (lv_at hl 0 rfl) ?_
    refine wk_ishr hx hb dX12_readHeat_28 ?_
    refine lv_iconst (v := iI 1) hx hb dX12_readHeat_29 rfl ?_
    refine wk_iand hx hb dX12_readHeat_30 ?_
    refine lv_iconst (v := iI 1) hx hb dX12_readHeat_31 rfl ?_
    have q11 := hw.1
    have hw := hw.2
    refine wk_icmp_ne hx hb q11 ⟨by decide, by decide⟩ (tgt := 44) dX12_readHeat_32 (by decide) (fun hh => ?_) (fun hh => ?_)
    · have hw := hw.2 hh
      exact kX44 s2 _ _ _ hP hS (lv_sub hl [1, 0] rfl) hw
    · have hw := hw.1 hh
      refine lv_aload_n hx hb dX12_readHeat_35 rfl (lv_at hl 1 rfl) ?_
      refine lv_iconst (v := iI 4) hx hb dX12_readHeat_36 rfl ?_
      refine lv_aload_n hx hb dX12_readHeat_37 rfl (lv_at hl 1 rfl) ?_
      refine wk_getI C0 fl_X12_94 hP (by decide) sh_65 rfl dX12_readHeat_38 ?_
      refine wk_rv (wk_callV (rest := []) C0 cl_X12_90 (ok_X12_faults hI hw) hP (by decide) sh_65 rfl rfl rfl (Nat.le_of_ble_eq_true rfl) (wk_room (by decide) (by decide)) hl.1 dX12_readHeat_41 ⟨Nat.le_refl _, Nat.le_refl _⟩) hS (fun s12 H locs hw hP hS => ?_)
      exact kX44 s12 _ _ _ hP hS (lv_sub hl [1, 0] rfl) hw

set_option maxRecDepth 100000 in
set_option maxHeartbeats 4000000 in
theorem ok_X12_readSleeper {l : Launch} {D : va_G} {cA : Nat → ClassId} {ad : Nat → Nat} (hI : wI ad) {sg : Mem} {Q : Mem → Prop} (hw : wp_X12_readSleeper sg Q) : wMv l D cA ad yX12_readSleeper cX12_readSleeper 2 none 3 [.ref (ad 65)] sg Q := by
  refine wk_ofV (by decide) hI (Nat.le_of_ble_eq_true rfl) ?_
  intro p e s m below meth c A QQ ls C0 hret hl hP
  have hx := C0.1
  have hb := C0.2.1
  have hown := C0.2.2.2.1
  have htb := C0.2.2.2.2.1
  have hl : lv_has ls 2 [(0, .ref (ad 65))] := hl
  refine (fun (key : ∀ (H : Heap) (locs : List Loc), wP D cA ad sg H → va_S (wA ad) s.heap H locs → W p l e (rmL 3) s m A below meth c H locs 0 0 QQ (F0 m 0 ls [])) => key _ _ hP va_S.rf) ?_
  intro H locs hP hS
  unfold wp_X12_readSleeper at hw
  refine lv_bipush (v := iI 12) hx hb dX12_readSleeper_0 (by decide +kernel) ?_
  refine lv_iconst (v := iI 4) hx hb dX12_readSleeper_2 rfl ?_
  refine lv_aload_n hx hb dX12_readSleeper_3 rfl (lv_at hl 0 rfl) ?_
  refine wk_getR 66 C0 fl_X12_7 hP (by decide) sh_65 rfl dX12_readSleeper_4 ?_
  refine lv_iconst (v := iI 2) hx hb dX12_readSleeper_7 rfl ?_
  refine wk_iald C0 hP (by decide) sh_66 (by decide) (by decide) (by decide) dX12_readSleeper_8 ?_
  rw [show (2 : Int).toNat = 2 from rfl]
  refine wk_imul hx hb dX12_readSleeper_9 ?_
  refine wk_iadd hx hb dX12_readSleeper_10 ?_
  refine wk_top (fun x1_1 ex1_1 => ?_)
  have hw := hw x1_1 ex1_1
  refine lv_istore_n (lv' := [(1, .int (iI x1_1)), (0, .ref (ad 65))]) hx hb dX12_readSleeper_11 rfl hl (by decide) rfl (fun ls hl => ?_)
  refine lv_aload_n hx hb dX12_readSleeper_12 rfl (lv_at hl 1 rfl) ?_
  refine wk_getR 66 C0 fl_X12_7 hP (by decide) sh_65 rfl dX12_readSleeper_13 ?_
  refine lv_iload_n hx hb dX12_readSleeper_16 rfl (lv_at hl 0 rfl) ?_
  refine lv_aload_n hx hb dX12_readSleeper_17 rfl (lv_at hl 1 rfl) ?_
  refine lv_iconst (v := iI 1) hx hb dX12_readSleeper_18 rfl ?_
  refine lv_bipush (v := iI 99) hx hb dX12_readSleeper_19 (by decide +kernel) ?_
  refine wk_ri (wk_callV (rest := [.int (iI x1_1), .ref (ad 66)]) C0 cl_X12_97 (ok_X12_number hI hw) hP (by decide) sh_65 rfl rfl rfl (Nat.le_of_ble_eq_true rfl) (wk_room (by decide) (by decide)) hl.1 dX12_readSleeper_21 ⟨Nat.le_refl _, Nat.le_refl _⟩) hS (fun r2 s3 H locs hw hP hS => ?_)
  have q4 := hw.1
  have hw := hw.2
  refine wk_iast C0 hP hS (by decide) sh_66 q4.1 q4.2 (by decide) dX12_readSleeper_24 (fun s5 H locs es5 hP hS => ?_)
  have hw := hw s5 es5
  refine lv_aload_n hx hb dX12_readSleeper_25 rfl (lv_at hl 1 rfl) ?_
  refine wk_getR 66 C0 fl_X12_7 hP (by decide) sh_65 rfl dX12_readSleeper_26 ?_
  refine lv_iload_n hx hb dX12_readSleeper_29 rfl (lv_at hl 0 rfl) ?_
  refine lv_iconst (v := iI 1) hx hb dX12_readSleeper_30 rfl ?_
  refine wk_iadd hx hb dX12_readSleeper_31 ?_
  refine lv_aload_n hx hb dX12_readSleeper_32 rfl (lv_at hl 1 rfl) ?_
  refine lv_iconst (v := iI 0) hx hb dX12_readSleeper_33 rfl ?_
  refine lv_bipush (v := iI 9) hx hb dX12_readSleeper_34 (by decide +kernel) ?_
  refine wk_ri (wk_callV (rest := [.int (iI (x1_1 + 1)), .ref (ad 66)]) C0 cl_X12_97 (ok_X12_number hI hw) hP (by decide) sh_65 rfl rfl rfl (Nat.le_of_ble_eq_true rfl) (wk_room (by decide) (by decide)) hl.1 dX12_readSleeper_36 ⟨Nat.le_refl _, Nat.le_refl _⟩) hS (fun r6 s7 H locs hw hP hS => ?_)
  have q8 := hw.1
  have hw := hw.2
  refine wk_iast C0 hP hS (by decide) sh_66 q8.1 q8.2 (by decide) dX12_readSleeper_39 (fun s9 H locs es9 hP hS => ?_)
  have hw := hw s9 es9
  refine lv_aload_n hx hb dX12_readSleeper_40 rfl (lv_at hl 1 rfl) ?_
  refine wk_getR 66 C0 fl_X12_7 hP (by decide) sh_65 rfl dX12_readSleeper_41 ?_
  refine lv_iload_n hx hb dX12_readSleeper_44 rfl (lv_at hl 0 rfl) ?_
  refine lv_iconst (v := iI 2) hx hb dX12_readSleeper_45 rfl ?_
  refine wk_iadd hx hb dX12_readSleeper_46 ?_
  refine lv_aload_n hx hb dX12_readSleeper_47 rfl (lv_at hl 1 rfl) ?_
  refine lv_iconst (v := iI 0) hx hb dX12_readSleeper_48 rfl ?_
  refine lv_bipush (v := iI 20) hx hb dX12_readSleeper_49 (by decide +kernel) ?_
  refine wk_ri (wk_callV (rest := [.int (iI (x1_1 + 2)), .ref (ad 66)]) C0 cl_X12_97 (ok_X12_number hI hw) hP (by decide) sh_65 rfl rfl rfl (Nat.le_of_ble_eq_true rfl) (wk_room (by decide) (by decide)) hl.1 dX12_readSleeper_51 ⟨Nat.le_refl _, Nat.le_refl _⟩) hS (fun r10 s11 H locs hw hP hS => ?_)
  have q12 := hw.1
  have hw := hw.2
  refine wk_iast C0 hP hS (by decide) sh_66 q12.1 q12.2 (by decide) dX12_readSleeper_54 (fun s13 H locs es13 hP hS => ?_)
  have hw := hw s13 es13
  refine lv_aload_n hx hb dX12_readSleeper_55 rfl (lv_at hl 1 rfl) ?_
  refine wk_getR 66 C0 fl_X12_7 hP (by decide) sh_65 rfl dX12_readSleeper_56 ?_
  refine lv_iload_n hx hb dX12_readSleeper_59 rfl (lv_at hl 0 rfl) ?_
  refine lv_iconst (v := iI 3) hx hb dX12_readSleeper_60 rfl ?_
  refine wk_iadd hx hb dX12_readSleeper_61 ?_
  refine lv_aload_n hx hb dX12_readSleeper_62 rfl (lv_at hl 1 rfl) ?_
  refine lv_iconst (v := iI 0) hx hb dX12_readSleeper_63 rfl ?_
  refine lv_bipush (v := iI 98) hx hb dX12_readSleeper_64 (by decide +kernel) ?_
  refine wk_ri (wk_callV (rest := [.int (iI (x1_1 + 3)), .ref (ad 66)]) C0 cl_X12_97 (ok_X12_number hI hw) hP (by decide) sh_65 rfl rfl rfl (Nat.le_of_ble_eq_true rfl) (wk_room (by decide) (by decide)) hl.1 dX12_readSleeper_66 ⟨Nat.le_refl _, Nat.le_refl _⟩) hS (fun r14 s15 H locs hw hP hS => ?_)
  have q16 := hw.1
  have hw := hw.2
  refine wk_iast C0 hP hS (by decide) sh_66 q16.1 q16.2 (by decide) dX12_readSleeper_69 (fun s17 H locs es17 hP hS => ?_)
  have hw := hw s17 es17
  refine lv_aload_n hx hb dX12_readSleeper_70 rfl (lv_at hl 1 rfl) ?_
  refine wk_getI C0 fl_X12_79 hP (by decide) sh_65 rfl dX12_readSleeper_71 ?_
  have q18 := hw.1
  have hw := hw.2
  obtain ⟨X103, hX103, hw⟩ := hw
  have kX103 : ∀ (s19 : Mem) (H : Heap) (locs : List Loc) (ls : Array Slot), wP D cA ad s19 H → va_S (wA ad) s.heap H locs → lv_has ls 2 [(0, .ref (ad 65))] → X103 s19 → W p l e (rmL 3) s m A below meth c H locs 0 0 QQ (F0 m 103 ls []) := by
    intro s19 H locs ls hP hS hl hw
    have hw := hX103 s19 hw
    refine lv_aload_n hx hb dX12_readSleeper_103 rfl (lv_at hl 0 rfl) ?_
    refine wk_getR 66 C0 fl_X12_7 hP (by decide) sh_65 rfl dX12_readSleeper_104 ?_
    refine lv_iconst (v := iI 2) hx hb dX12_readSleeper_107 rfl ?_
    refine lv_dup2_11 hx hb dX12_readSleeper_108 rfl rfl ?_
    refine wk_iald C0 hP (by decide) sh_66 (by decide) (by decide) (by decide) dX12_readSleeper_109 ?_
    rw [show (2 : Int).toNat = 2 from rfl]
    refine lv_iconst (v := iI 1) hx hb dX12_readSleeper_110 rfl ?_
    refine wk_iadd hx hb dX12_readSleeper_111 ?_
    refine wk_iast C0 hP hS (by decide) sh_66 (by decide) (by decide) (by decide) dX12_readSleeper_112 (fun s20 H locs es20 hP hS => ?_)
    have hw := hw s20 es20
    exact hret _ _ _ _ _ hw hP hS dX12_readSleeper_113
  refine wk_if_ne hx hb q18 (tgt := 103) dX12_readSleeper_74 (by decide) (fun hh => ?_) (fun hh => ?_)
  · have hw := hw.2 hh
    exact kX103 s17 _ _ _ hP hS (lv_sub hl [1] rfl) hw
  · have hw := hw.1 hh
    refine lv_aload_n hx hb dX12_readSleeper_77 rfl (lv_at hl 1 rfl) ?_
    refine wk_getR 66 C0 fl_X12_7 hP (by decide) sh_65 rfl dX12_readSleeper_78 ?_
    refine lv_iload_n hx hb dX12_readSleeper_81 rfl (lv_at hl 0 rfl) ?_
    refine lv_iconst (v := iI 3) hx hb dX12_readSleeper_82 rfl ?_
    refine wk_iadd hx hb dX12_readSleeper_83 ?_
    refine wk_iald C0 hP (by decide) sh_66 q16.1 q16.2 (by decide) dX12_readSleeper_84 ?_
    refine lv_aload_n hx hb dX12_readSleeper_85 rfl (lv_at hl 1 rfl) ?_
    refine wk_getR 66 C0 fl_X12_7 hP (by decide) sh_65 rfl dX12_readSleeper_86 ?_
    refine lv_iload_n hx hb dX12_readSleeper_89 rfl (lv_at hl 0 rfl) ?_
    refine wk_iald C0 hP (by decide) sh_66 q4.1 q4.2 (by decide) dX12_readSleeper_90 ?_
    have q21 := hw.1
    have hw := hw.2
    have q22 := hw.1
    have hw := hw.2
    refine wk_icmp_lt hx hb q21 q22 (tgt := 103) dX12_readSleeper_91 (by decide) (fun hh => ?_) (fun hh => ?_)
    · have hw := hw.1 hh
      exact kX103 s17 _ _ _ hP hS (lv_sub hl [1] rfl) hw
    · have hw := hw.2 hh
      refine lv_aload_n hx hb dX12_readSleeper_94 rfl (lv_at hl 1 rfl) ?_
      refine lv_iconst (v := iI 4) hx hb dX12_readSleeper_95 rfl ?_
      refine lv_aload_n hx hb dX12_readSleeper_96 rfl (lv_at hl 1 rfl) ?_
      refine wk_getI C0 fl_X12_94 hP (by decide) sh_65 rfl dX12_readSleeper_97 ?_
      refine wk_rv (wk_callV (rest := []) C0 cl_X12_90 (ok_X12_faults hI hw) hP (by decide) sh_65 rfl rfl rfl (Nat.le_of_ble_eq_true rfl) (wk_room (by decide) (by decide)) hl.1 dX12_readSleeper_100 ⟨Nat.le_refl _, Nat.le_refl _⟩) hS (fun s23 H locs hw hP hS => ?_)
      exact kX103 s23 _ _ _ hP hS (lv_sub hl [1] rfl) hw

set_option maxRecDepth 100000 in
set_option maxHeartbeats 4000000 in
theorem ok_X12_readLaw {l : Launch} {D : va_G} {cA : Nat → ClassId} {ad : Nat → Nat} (hI : wI ad) {sg : Mem} {Q : Mem → Prop} (hw : wp_X12_readLaw sg Q) : wMv l D cA ad yX12_readLaw cX12_readLaw 1 none 3 [.ref (ad 65)] sg Q := by
  refine wk_ofV (by decide) hI (Nat.le_of_ble_eq_true rfl) ?_
  intro p e s m below meth c A QQ ls C0 hret hl hP
  have hx := C0.1
  have hb := C0.2.1
  have hown := C0.2.2.2.1
  have htb := C0.2.2.2.2.1
  have hl : lv_has ls 1 [(0, .ref (ad 65))] := hl
  refine (fun (key : ∀ (H : Heap) (locs : List Loc), wP D cA ad sg H → va_S (wA ad) s.heap H locs → W p l e (rmL 3) s m A below meth c H locs 0 0 QQ (F0 m 0 ls [])) => key _ _ hP va_S.rf) ?_
  intro H locs hP hS
  unfold wp_X12_readLaw at hw
  refine lv_aload_n hx hb dX12_readLaw_0 rfl (lv_at hl 0 rfl) ?_
  refine wk_getR 66 C0 fl_X12_7 hP (by decide) sh_65 rfl dX12_readLaw_1 ?_
  refine lv_iconst (v := iI 4) hx hb dX12_readLaw_4 rfl ?_
  refine lv_iconst (v := iI 1) hx hb dX12_readLaw_5 rfl ?_
  refine wk_iast C0 hP hS (by decide) sh_66 (by decide) (by decide) (by decide) dX12_readLaw_6 (fun s1 H locs es1 hP hS => ?_)
  have hw := hw s1 es1
  refine lv_aload_n hx hb dX12_readLaw_7 rfl (lv_at hl 0 rfl) ?_
  refine wk_getR 66 C0 fl_X12_7 hP (by decide) sh_65 rfl dX12_readLaw_8 ?_
  refine lv_bipush (v := iI 36) hx hb dX12_readLaw_11 (by decide +kernel) ?_
  refine lv_aload_n hx hb dX12_readLaw_13 rfl (lv_at hl 0 rfl) ?_
  refine lv_iconst (v := iI 0) hx hb dX12_readLaw_14 rfl ?_
  refine lv_iconst (v := iI 3) hx hb dX12_readLaw_15 rfl ?_
  refine wk_ri (wk_callV (rest := [.int (iI 36), .ref (ad 66)]) C0 cl_X12_97 (ok_X12_number hI hw) hP (by decide) sh_65 rfl rfl rfl (Nat.le_of_ble_eq_true rfl) (wk_room (by decide) (by decide)) hl.1 dX12_readLaw_16 ⟨Nat.le_refl _, Nat.le_refl _⟩) hS (fun r2 s3 H locs hw hP hS => ?_)
  refine wk_iast C0 hP hS (by decide) sh_66 (by decide) (by decide) (by decide) dX12_readLaw_19 (fun s4 H locs es4 hP hS => ?_)
  have hw := hw s4 es4
  refine lv_aload_n hx hb dX12_readLaw_20 rfl (lv_at hl 0 rfl) ?_
  refine wk_getR 66 C0 fl_X12_7 hP (by decide) sh_65 rfl dX12_readLaw_21 ?_
  refine lv_iconst (v := iI 3) hx hb dX12_readLaw_24 rfl ?_
  refine lv_iconst (v := iI 1) hx hb dX12_readLaw_25 rfl ?_
  refine wk_iast C0 hP hS (by decide) sh_66 (by decide) (by decide) (by decide) dX12_readLaw_26 (fun s5 H locs es5 hP hS => ?_)
  have hw := hw s5 es5
  obtain ⟨I27, hI27, hw⟩ := hw
  have kI27 : ∀ (k27 : Nat) (s6 : Mem) (H : Heap) (locs : List Loc) (ls : Array Slot), wP D cA ad s6 H → va_S (wA ad) s.heap H locs → lv_has ls 1 [(0, .ref (ad 65))] → I27 k27 s6 → W p l e (rmL 3) s m A below meth c H locs 0 0 QQ (F0 m 27 ls []) := by
    intro k27
    induction k27 using Nat.strongRecOn with
    | _ k27 ih27 =>
      intro s6 H locs ls hP hS hl hw
      have hw := hI27 k27 s6 hw
      refine lv_aload_n hx hb dX12_readLaw_27 rfl (lv_at hl 0 rfl) ?_
      refine wk_getI C0 fl_X12_79 hP (by decide) sh_65 rfl dX12_readLaw_28 ?_
      have q7 := hw.1
      have hw := hw.2
      refine wk_if_ne hx hb q7 (tgt := 97) dX12_readLaw_31 (by decide) (fun hh => ?_) (fun hh => ?_)
      · have hw := hw.2 hh
        exact hret _ _ _ _ _ hw hP hS dX12_readLaw_97
      · have hw := hw.1 hh
        refine lv_aload_n hx hb dX12_readLaw_34 rfl (lv_at hl 0 rfl) ?_
        refine wk_getR 66 C0 fl_X12_7 hP (by decide) sh_65 rfl dX12_readLaw_35 ?_
        refine lv_iconst (v := iI 3) hx hb dX12_readLaw_38 rfl ?_
        refine wk_iald C0 hP (by decide) sh_66 (by decide) (by decide) (by decide) dX12_readLaw_39 ?_
        rw [show (3 : Int).toNat = 3 from rfl]
        refine lv_bipush (v := iI 8) hx hb dX12_readLaw_40 (by decide +kernel) ?_
        have q8 := hw.1
        have hw := hw.2
        refine wk_icmp_ge hx hb q8 ⟨by decide, by decide⟩ (tgt := 97) dX12_readLaw_42 (by decide) (fun hh => ?_) (fun hh => ?_)
        · have hw := hw.1 hh
          exact hret _ _ _ _ _ hw hP hS dX12_readLaw_97
        · have hw := hw.2 hh
          refine lv_aload_n hx hb dX12_readLaw_45 rfl (lv_at hl 0 rfl) ?_
          refine wk_ri (wk_callV (rest := []) C0 cl_X12_82 (ok_X12_here hI hw) hP (by decide) sh_65 rfl rfl rfl (Nat.le_of_ble_eq_true rfl) (wk_room (by decide) (by decide)) hl.1 dX12_readLaw_46 ⟨Nat.le_refl _, Nat.le_refl _⟩) hS (fun r9 s10 H locs hw hP hS => ?_)
          refine lv_bipush (v := iI 44) hx hb dX12_readLaw_49 (by decide +kernel) ?_
          have q11 := hw.1
          have hw := hw.2
          refine wk_icmp_ne hx hb q11 ⟨by decide, by decide⟩ (tgt := 97) dX12_readLaw_51 (by decide) (fun hh => ?_) (fun hh => ?_)
          · have hw := hw.2 hh
            exact hret _ _ _ _ _ hw hP hS dX12_readLaw_97
          · have hw := hw.1 hh
            refine lv_aload_n hx hb dX12_readLaw_54 rfl (lv_at hl 0 rfl) ?_
            refine lv_dup hx hb dX12_readLaw_55 rfl ?_
            refine wk_getI C0 fl_X12_76 hP (by decide) sh_65 rfl dX12_readLaw_56 ?_
            refine lv_iconst (v := iI 1) hx hb dX12_readLaw_59 rfl ?_
            refine wk_iadd hx hb dX12_readLaw_60 ?_
            refine wk_putI C0 fl_X12_76 rfl rfl hP hS (by decide) sh_65 rfl dX12_readLaw_61 (fun s12 H locs es12 hP hS => ?_)
            have hw := hw s12 es12
            refine lv_aload_n hx hb dX12_readLaw_64 rfl (lv_at hl 0 rfl) ?_
            refine wk_getR 66 C0 fl_X12_7 hP (by decide) sh_65 rfl dX12_readLaw_65 ?_
            refine lv_bipush (v := iI 36) hx hb dX12_readLaw_68 (by decide +kernel) ?_
            refine lv_aload_n hx hb dX12_readLaw_70 rfl (lv_at hl 0 rfl) ?_
            refine wk_getR 66 C0 fl_X12_7 hP (by decide) sh_65 rfl dX12_readLaw_71 ?_
            refine lv_iconst (v := iI 3) hx hb dX12_readLaw_74 rfl ?_
            refine wk_iald C0 hP (by decide) sh_66 (by decide) (by decide) (by decide) dX12_readLaw_75 ?_
            rw [show (3 : Int).toNat = 3 from rfl]
            refine wk_iadd hx hb dX12_readLaw_76 ?_
            refine lv_aload_n hx hb dX12_readLaw_77 rfl (lv_at hl 0 rfl) ?_
            refine lv_iconst (v := iI 0) hx hb dX12_readLaw_78 rfl ?_
            refine lv_iconst (v := iI 3) hx hb dX12_readLaw_79 rfl ?_
            refine wk_ri (wk_callV (rest := [.int (iI (36 + (s12 66 3))), .ref (ad 66)]) C0 cl_X12_97 (ok_X12_number hI hw) hP (by decide) sh_65 rfl rfl rfl (Nat.le_of_ble_eq_true rfl) (wk_room (by decide) (by decide)) hl.1 dX12_readLaw_80 ⟨Nat.le_refl _, Nat.le_refl _⟩) hS (fun r13 s14 H locs hw hP hS => ?_)
            have q15 := hw.1
            have hw := hw.2
            refine wk_iast C0 hP hS (by decide) sh_66 q15.1 q15.2 (by decide) dX12_readLaw_83 (fun s16 H locs es16 hP hS => ?_)
            have hw := hw s16 es16
            refine lv_aload_n hx hb dX12_readLaw_84 rfl (lv_at hl 0 rfl) ?_
            refine wk_getR 66 C0 fl_X12_7 hP (by decide) sh_65 rfl dX12_readLaw_85 ?_
            refine lv_iconst (v := iI 3) hx hb dX12_readLaw_88 rfl ?_
            refine lv_dup2_11 hx hb dX12_readLaw_89 rfl rfl ?_
            refine wk_iald C0 hP (by decide) sh_66 (by decide) (by decide) (by decide) dX12_readLaw_90 ?_
            rw [show (3 : Int).toNat = 3 from rfl]
            refine lv_iconst (v := iI 1) hx hb dX12_readLaw_91 rfl ?_
            refine wk_iadd hx hb dX12_readLaw_92 ?_
            refine wk_iast C0 hP hS (by decide) sh_66 (by decide) (by decide) (by decide) dX12_readLaw_93 (fun s17 H locs es17 hP hS => ?_)
            have hw := hw s17 es17
            refine lv_goto (tgt := 27) hx hb dX12_readLaw_94 (by decide) ?_
            obtain ⟨k18, hk18, hw⟩ := hw
            exact ih27 k18 hk18 s17 _ _ _ hP hS (lv_sub hl [0] rfl) hw
  obtain ⟨k19, hw⟩ := hw
  exact kI27 k19 s5 _ _ _ hP hS (lv_sub hl [0] rfl) hw

set_option maxRecDepth 100000 in
set_option maxHeartbeats 4000000 in
theorem ok_X12_clause {l : Launch} {D : va_G} {cA : Nat → ClassId} {ad : Nat → Nat} (hI : wI ad) {sg : Mem} {Q : Mem → Prop} (hw : wp_X12_clause sg Q) : wMv l D cA ad yX12_clause cX12_clause 4 none 4 [.ref (ad 65)] sg Q := by
  refine wk_ofV (by decide) hI (Nat.le_of_ble_eq_true rfl) ?_
  intro p e s m below meth c A QQ ls C0 hret hl hP
  have hx := C0.1
  have hb := C0.2.1
  have hown := C0.2.2.2.1
  have htb := C0.2.2.2.2.1
  have hl : lv_has ls 4 [(0, .ref (ad 65))] := hl
  refine (fun (key : ∀ (H : Heap) (locs : List Loc), wP D cA ad sg H → va_S (wA ad) s.heap H locs → W p l e (rmL 4) s m A below meth c H locs 0 0 QQ (F0 m 0 ls [])) => key _ _ hP va_S.rf) ?_
  intro H locs hP hS
  unfold wp_X12_clause at hw
  refine lv_aload_n hx hb dX12_clause_0 rfl (lv_at hl 0 rfl) ?_
  refine wk_ri (wk_callV (rest := []) C0 cl_X12_82 (ok_X12_here hI hw) hP (by decide) sh_65 rfl rfl rfl (Nat.le_of_ble_eq_true rfl) (wk_room (by decide) (by decide)) hl.1 dX12_clause_1 ⟨Nat.le_refl _, Nat.le_refl _⟩) hS (fun r1 s2 H locs hw hP hS => ?_)
  refine lv_istore_n (lv' := [(1, .int (iI r1)), (0, .ref (ad 65))]) hx hb dX12_clause_4 rfl hl (by decide) rfl (fun ls hl => ?_)
  refine lv_aload_n hx hb dX12_clause_5 rfl (lv_at hl 1 rfl) ?_
  refine wk_getI C0 fl_X12_76 hP (by decide) sh_65 rfl dX12_clause_6 ?_
  refine wk_top (fun x2_3 ex2_3 => ?_)
  have hw := hw x2_3 ex2_3
  refine lv_istore_n (lv' := [(2, .int (iI x2_3)), (1, .int (iI r1)), (0, .ref (ad 65))]) hx hb dX12_clause_9 rfl hl (by decide) rfl (fun ls hl => ?_)
  refine lv_aload_n hx hb dX12_clause_10 rfl (lv_at hl 2 rfl) ?_
  refine wk_getR 66 C0 fl_X12_7 hP (by decide) sh_65 rfl dX12_clause_11 ?_
  refine lv_iconst (v := iI 0) hx hb dX12_clause_14 rfl ?_
  refine wk_iald C0 hP (by decide) sh_66 (by decide) (by decide) (by decide) dX12_clause_15 ?_
  rw [show (0 : Int).toNat = 0 from rfl]
  have q4 := hw.1
  have hw := hw.2
  have kX24 : ∀ v5 : Int, v5 = (if s2 66 0 = 0 then 1 else 0) → ∀ (ls : Array Slot), lv_has ls 4 [(0, .ref (ad 65)), (1, .int (iI r1)), (2, .int (iI x2_3))] → W p l e (rmL 4) s m A below meth c H locs 0 0 QQ (F0 m 24 ls [.int (iI v5)]) := by
    intro v5 ev5 ls hl
    have hw := hw v5 ev5
    refine lv_istore_n (lv' := [(3, .int (iI v5)), (0, .ref (ad 65)), (1, .int (iI r1)), (2, .int (iI x2_3))]) hx hb dX12_clause_24 rfl hl (by decide) rfl (fun ls hl => ?_)
    refine lv_iload_n hx hb dX12_clause_25 rfl (lv_at hl 2 rfl) ?_
    refine lv_bipush (v := iI 98) hx hb dX12_clause_26 (by decide +kernel) ?_
    have q6 := hw.1
    have hw := hw.2
    obtain ⟨X82, hX82, hw⟩ := hw
    have kX82 : ∀ (s7 : Mem) (H : Heap) (locs : List Loc) (ls : Array Slot), wP D cA ad s7 H → va_S (wA ad) s.heap H locs → lv_has ls 4 [(0, .ref (ad 65)), (1, .int (iI r1)), (2, .int (iI x2_3)), (3, .int (iI v5))] → X82 s7 → W p l e (rmL 4) s m A below meth c H locs 0 0 QQ (F0 m 82 ls []) := by
      intro s7 H locs ls hP hS hl hw
      have hw := hX82 s7 hw
      refine lv_iload_n hx hb dX12_clause_82 rfl (lv_at hl 1 rfl) ?_
      refine lv_bipush (v := iI 98) hx hb dX12_clause_83 (by decide +kernel) ?_
      obtain ⟨X120, hX120, hw⟩ := hw
      have kX120 : ∀ (s8 : Mem) (H : Heap) (locs : List Loc) (ls : Array Slot), wP D cA ad s8 H → va_S (wA ad) s.heap H locs → lv_has ls 4 [(0, .ref (ad 65)), (1, .int (iI r1))] → X120 s8 → W p l e (rmL 4) s m A below meth c H locs 0 0 QQ (F0 m 120 ls []) := by
        intro s8 H locs ls hP hS hl hw
        have hw := hX120 s8 hw
        refine lv_aload_n hx hb dX12_clause_120 rfl (lv_at hl 0 rfl) ?_
        refine wk_getI C0 fl_X12_79 hP (by decide) sh_65 rfl dX12_clause_121 ?_
        have q9 := hw.1
        have hw := hw.2
        refine wk_if_eq hx hb q9 (tgt := 128) dX12_clause_124 (by decide) (fun hh => ?_) (fun hh => ?_)
        · have hw := hw.1 hh
          refine lv_aload_n hx hb dX12_clause_128 rfl (lv_at hl 0 rfl) ?_
          refine lv_dup hx hb dX12_clause_129 rfl ?_
          refine wk_getI C0 fl_X12_76 hP (by decide) sh_65 rfl dX12_clause_130 ?_
          refine lv_iconst (v := iI 1) hx hb dX12_clause_133 rfl ?_
          refine wk_iadd hx hb dX12_clause_134 ?_
          refine wk_putI C0 fl_X12_76 rfl rfl hP hS (by decide) sh_65 rfl dX12_clause_135 (fun s10 H locs es10 hP hS => ?_)
          have hw := hw s10 es10
          refine lv_iload_n hx hb dX12_clause_138 rfl (lv_at hl 1 rfl) ?_
          refine lv_bipush (v := iI 98) hx hb dX12_clause_139 (by decide +kernel) ?_
          obtain ⟨X202, hX202, hw⟩ := hw
          have kX202 : ∀ (s11 : Mem) (H : Heap) (locs : List Loc) (ls : Array Slot), wP D cA ad s11 H → va_S (wA ad) s.heap H locs → lv_has ls 4 [(0, .ref (ad 65))] → X202 s11 → W p l e (rmL 4) s m A below meth c H locs 0 0 QQ (F0 m 202 ls []) := by
            intro s11 H locs ls hP hS hl hw
            have hw := hX202 s11 hw
            refine lv_aload_n hx hb dX12_clause_202 rfl (lv_at hl 0 rfl) ?_
            refine wk_getI C0 fl_X12_79 hP (by decide) sh_65 rfl dX12_clause_203 ?_
            have q12 := hw.1
            have hw := hw.2
            obtain ⟨X227, hX227, hw⟩ := hw
            have kX227 : ∀ (s13 : Mem) (H : Heap) (locs : List Loc) (ls : Array Slot), wP D cA ad s13 H → va_S (wA ad) s.heap H locs → lv_has ls 4 [(0, .ref (ad 65))] → X227 s13 → W p l e (rmL 4) s m A below meth c H locs 0 0 QQ (F0 m 227 ls []) := by
              intro s13 H locs ls hP hS hl hw
              have hw := hX227 s13 hw
              refine lv_aload_n hx hb dX12_clause_227 rfl (lv_at hl 0 rfl) ?_
              refine lv_dup hx hb dX12_clause_228 rfl ?_
              refine wk_getI C0 fl_X12_76 hP (by decide) sh_65 rfl dX12_clause_229 ?_
              refine lv_iconst (v := iI 1) hx hb dX12_clause_232 rfl ?_
              refine wk_iadd hx hb dX12_clause_233 ?_
              refine wk_putI C0 fl_X12_76 rfl rfl hP hS (by decide) sh_65 rfl dX12_clause_234 (fun s14 H locs es14 hP hS => ?_)
              have hw := hw s14 es14
              exact hret _ _ _ _ _ hw hP hS dX12_clause_237
            refine wk_if_ne hx hb q12 (tgt := 227) dX12_clause_206 (by decide) (fun hh => ?_) (fun hh => ?_)
            · have hw := hw.2 hh
              exact kX227 s11 _ _ _ hP hS (lv_sub hl [0] rfl) hw
            · have hw := hw.1 hh
              refine lv_aload_n hx hb dX12_clause_209 rfl (lv_at hl 0 rfl) ?_
              refine wk_ri (wk_callV (rest := []) C0 cl_X12_82 (ok_X12_here hI hw) hP (by decide) sh_65 rfl rfl rfl (Nat.le_of_ble_eq_true rfl) (wk_room (by decide) (by decide)) hl.1 dX12_clause_210 ⟨Nat.le_refl _, Nat.le_refl _⟩) hS (fun r15 s16 H locs hw hP hS => ?_)
              refine lv_bipush (v := iI 59) hx hb dX12_clause_213 (by decide +kernel) ?_
              have q17 := hw.1
              have hw := hw.2
              refine wk_icmp_eq hx hb q17 ⟨by decide, by decide⟩ (tgt := 227) dX12_clause_215 (by decide) (fun hh => ?_) (fun hh => ?_)
              · have hw := hw.1 hh
                exact kX227 s16 _ _ _ hP hS (lv_sub hl [0] rfl) hw
              · have hw := hw.2 hh
                refine lv_aload_n hx hb dX12_clause_218 rfl (lv_at hl 0 rfl) ?_
                refine lv_iconst (v := iI 1) hx hb dX12_clause_219 rfl ?_
                refine lv_aload_n hx hb dX12_clause_220 rfl (lv_at hl 0 rfl) ?_
                refine wk_getI C0 fl_X12_76 hP (by decide) sh_65 rfl dX12_clause_221 ?_
                refine wk_rv (wk_callV (rest := []) C0 cl_X12_90 (ok_X12_faults hI hw) hP (by decide) sh_65 rfl rfl rfl (Nat.le_of_ble_eq_true rfl) (wk_room (by decide) (by decide)) hl.1 dX12_clause_224 ⟨Nat.le_refl _, Nat.le_refl _⟩) hS (fun s18 H locs hw hP hS => ?_)
                exact kX227 s18 _ _ _ hP hS (lv_sub hl [0] rfl) hw
          refine wk_icmp_ne hx hb q6 ⟨by decide, by decide⟩ (tgt := 172) dX12_clause_141 (by decide) (fun hh => ?_) (fun hh => ?_)
          · have hw := hw.2 hh
            refine lv_iload_n hx hb dX12_clause_172 rfl (lv_at hl 1 rfl) ?_
            refine lv_bipush (v := iI 104) hx hb dX12_clause_173 (by decide +kernel) ?_
            refine wk_icmp_ne hx hb q6 ⟨by decide, by decide⟩ (tgt := 185) dX12_clause_175 (by decide) (fun hh => ?_) (fun hh => ?_)
            · have hw := hw.2 hh
              refine lv_iload_n hx hb dX12_clause_185 rfl (lv_at hl 1 rfl) ?_
              refine lv_bipush (v := iI 115) hx hb dX12_clause_186 (by decide +kernel) ?_
              refine wk_icmp_ne hx hb q6 ⟨by decide, by decide⟩ (tgt := 198) dX12_clause_188 (by decide) (fun hh => ?_) (fun hh => ?_)
              · have hw := hw.2 hh
                refine lv_aload_n hx hb dX12_clause_198 rfl (lv_at hl 0 rfl) ?_
                refine wk_rv (wk_callV (rest := []) C0 cl_X12_107 (ok_X12_readLaw hI hw) hP (by decide) sh_65 rfl rfl rfl (Nat.le_of_ble_eq_true rfl) (wk_room (by decide) (by decide)) hl.1 dX12_clause_199 ⟨Nat.le_refl _, Nat.le_refl _⟩) hS (fun s27 H locs hw hP hS => ?_)
                exact kX202 s27 _ _ _ hP hS (lv_sub hl [0] rfl) hw
              · have hw := hw.1 hh
                refine lv_aload_n hx hb dX12_clause_191 rfl (lv_at hl 0 rfl) ?_
                refine wk_rv (wk_callV (rest := []) C0 cl_X12_104 (ok_X12_readSleeper hI hw) hP (by decide) sh_65 rfl rfl rfl (Nat.le_of_ble_eq_true rfl) (wk_room (by decide) (by decide)) hl.1 dX12_clause_192 ⟨Nat.le_refl _, Nat.le_refl _⟩) hS (fun s26 H locs hw hP hS => ?_)
                refine lv_goto (tgt := 202) hx hb dX12_clause_195 (by decide) ?_
                exact kX202 s26 _ _ _ hP hS (lv_sub hl [0] rfl) hw
            · have hw := hw.1 hh
              refine lv_aload_n hx hb dX12_clause_178 rfl (lv_at hl 0 rfl) ?_
              refine wk_rv (wk_callV (rest := []) C0 cl_X12_101 (ok_X12_readHeat hI hw) hP (by decide) sh_65 rfl rfl rfl (Nat.le_of_ble_eq_true rfl) (wk_room (by decide) (by decide)) hl.1 dX12_clause_179 ⟨Nat.le_refl _, Nat.le_refl _⟩) hS (fun s25 H locs hw hP hS => ?_)
              refine lv_goto (tgt := 202) hx hb dX12_clause_182 (by decide) ?_
              exact kX202 s25 _ _ _ hP hS (lv_sub hl [0] rfl) hw
          · have hw := hw.1 hh
            refine lv_aload_n hx hb dX12_clause_144 rfl (lv_at hl 0 rfl) ?_
            refine wk_getR 66 C0 fl_X12_7 hP (by decide) sh_65 rfl dX12_clause_145 ?_
            refine lv_iconst (v := iI 0) hx hb dX12_clause_148 rfl ?_
            refine lv_aload_n hx hb dX12_clause_149 rfl (lv_at hl 0 rfl) ?_
            refine lv_iconst (v := iI 2) hx hb dX12_clause_150 rfl ?_
            refine lv_bipush (v := iI 6) hx hb dX12_clause_151 (by decide +kernel) ?_
            refine wk_ri (wk_callV (rest := [.int (iI 0), .ref (ad 66)]) C0 cl_X12_97 (ok_X12_number hI hw) hP (by decide) sh_65 rfl rfl rfl (Nat.le_of_ble_eq_true rfl) (wk_room (by decide) (by decide)) hl.1 dX12_clause_153 ⟨Nat.le_refl _, Nat.le_refl _⟩) hS (fun r19 s20 H locs hw hP hS => ?_)
            refine wk_iast C0 hP hS (by decide) sh_66 (by decide) (by decide) (by decide) dX12_clause_156 (fun s21 H locs es21 hP hS => ?_)
            have hw := hw s21 es21
            refine lv_aload_n hx hb dX12_clause_157 rfl (lv_at hl 0 rfl) ?_
            refine wk_getR 66 C0 fl_X12_7 hP (by decide) sh_65 rfl dX12_clause_158 ?_
            refine lv_iconst (v := iI 1) hx hb dX12_clause_161 rfl ?_
            refine lv_aload_n hx hb dX12_clause_162 rfl (lv_at hl 0 rfl) ?_
            refine lv_iconst (v := iI 0) hx hb dX12_clause_163 rfl ?_
            refine lv_iconst (v := iI 1) hx hb dX12_clause_164 rfl ?_
            refine wk_ri (wk_callV (rest := [.int (iI 1), .ref (ad 66)]) C0 cl_X12_97 (ok_X12_number hI hw) hP (by decide) sh_65 rfl rfl rfl (Nat.le_of_ble_eq_true rfl) (wk_room (by decide) (by decide)) hl.1 dX12_clause_165 ⟨Nat.le_refl _, Nat.le_refl _⟩) hS (fun r22 s23 H locs hw hP hS => ?_)
            refine wk_iast C0 hP hS (by decide) sh_66 (by decide) (by decide) (by decide) dX12_clause_168 (fun s24 H locs es24 hP hS => ?_)
            have hw := hw s24 es24
            refine lv_goto (tgt := 202) hx hb dX12_clause_169 (by decide) ?_
            exact kX202 s24 _ _ _ hP hS (lv_sub hl [0] rfl) hw
        · have hw := hw.2 hh
          exact hret _ _ _ _ _ hw hP hS dX12_clause_127
      refine wk_icmp_eq hx hb q6 ⟨by decide, by decide⟩ (tgt := 120) dX12_clause_85 (by decide) (fun hh => ?_) (fun hh => ?_)
      · have hw := hw.1 hh
        exact kX120 s7 _ _ _ hP hS (lv_sub hl [0, 1] rfl) hw
      · have hw := hw.2 hh
        refine lv_iload_n hx hb dX12_clause_88 rfl (lv_at hl 3 rfl) ?_
        have q28 := hw.1
        have hw := hw.2
        obtain ⟨X110, hX110, hw⟩ := hw
        have kX110 : ∀ (H : Heap) (locs : List Loc) (ls : Array Slot), wP D cA ad s7 H → va_S (wA ad) s.heap H locs → lv_has ls 4 [(0, .ref (ad 65)), (1, .int (iI r1)), (2, .int (iI x2_3))] → X110 → W p l e (rmL 4) s m A below meth c H locs 0 0 QQ (F0 m 110 ls []) := by
          intro H locs ls hP hS hl hw
          have hw := hX110 hw
          refine lv_aload_n hx hb dX12_clause_110 rfl (lv_at hl 0 rfl) ?_
          refine lv_iconst (v := iI 1) hx hb dX12_clause_111 rfl ?_
          refine wk_putI C0 fl_X12_79 rfl rfl hP hS (by decide) sh_65 rfl dX12_clause_112 (fun s29 H locs es29 hP hS => ?_)
          have hw := hw s29 es29
          refine lv_aload_n hx hb dX12_clause_115 rfl (lv_at hl 0 rfl) ?_
          refine lv_iload_n hx hb dX12_clause_116 rfl (lv_at hl 2 rfl) ?_
          refine wk_putI C0 fl_X12_55 rfl rfl hP hS (by decide) sh_65 rfl dX12_clause_117 (fun s30 H locs es30 hP hS => ?_)
          have hw := hw s30 es30
          exact kX120 s30 _ _ _ hP hS (lv_sub hl [0, 1] rfl) hw
        refine wk_if_ne hx hb q28 (tgt := 110) dX12_clause_89 (by decide) (fun hh => ?_) (fun hh => ?_)
        · have hw := hw.2 hh
          exact kX110  _ _ _ hP hS (lv_sub hl [0, 1, 2] rfl) hw
        · have hw := hw.1 hh
          refine lv_iload_n hx hb dX12_clause_92 rfl (lv_at hl 1 rfl) ?_
          refine lv_bipush (v := iI 104) hx hb dX12_clause_93 (by decide +kernel) ?_
          refine wk_icmp_eq hx hb q6 ⟨by decide, by decide⟩ (tgt := 120) dX12_clause_95 (by decide) (fun hh => ?_) (fun hh => ?_)
          · have hw := hw.1 hh
            exact kX120 s7 _ _ _ hP hS (lv_sub hl [0, 1] rfl) hw
          · have hw := hw.2 hh
            refine lv_iload_n hx hb dX12_clause_98 rfl (lv_at hl 1 rfl) ?_
            refine lv_bipush (v := iI 115) hx hb dX12_clause_99 (by decide +kernel) ?_
            refine wk_icmp_eq hx hb q6 ⟨by decide, by decide⟩ (tgt := 120) dX12_clause_101 (by decide) (fun hh => ?_) (fun hh => ?_)
            · have hw := hw.1 hh
              exact kX120 s7 _ _ _ hP hS (lv_sub hl [0, 1] rfl) hw
            · have hw := hw.2 hh
              refine lv_iload_n hx hb dX12_clause_104 rfl (lv_at hl 1 rfl) ?_
              refine lv_bipush (v := iI 114) hx hb dX12_clause_105 (by decide +kernel) ?_
              refine wk_icmp_eq hx hb q6 ⟨by decide, by decide⟩ (tgt := 120) dX12_clause_107 (by decide) (fun hh => ?_) (fun hh => ?_)
              · have hw := hw.1 hh
                exact kX120 s7 _ _ _ hP hS (lv_sub hl [0, 1] rfl) hw
              · have hw := hw.2 hh
                exact kX110  _ _ _ hP hS (lv_sub hl [0, 1, 2] rfl) hw
    obtain ⟨X76, hX76, hw⟩ := hw
    have kX76 : ∀ (H : Heap) (locs : List Loc) (ls : Array Slot), wP D cA ad s2 H → va_S (wA ad) s.heap H locs → lv_has ls 4 [(0, .ref (ad 65)), (1, .int (iI r1)), (2, .int (iI x2_3)), (3, .int (iI v5))] → X76 → W p l e (rmL 4) s m A below meth c H locs 0 0 QQ (F0 m 76 ls []) := by
      intro H locs ls hP hS hl hw
      have hw := hX76 hw
      refine lv_aload_n hx hb dX12_clause_76 rfl (lv_at hl 0 rfl) ?_
      refine lv_iconst (v := iI 3) hx hb dX12_clause_77 rfl ?_
      refine lv_iload_n hx hb dX12_clause_78 rfl (lv_at hl 2 rfl) ?_
      refine wk_rv (wk_callV (rest := []) C0 cl_X12_90 (ok_X12_faults hI hw) hP (by decide) sh_65 rfl rfl rfl (Nat.le_of_ble_eq_true rfl) (wk_room (by decide) (by decide)) hl.1 dX12_clause_79 ⟨Nat.le_refl _, Nat.le_refl _⟩) hS (fun s31 H locs hw hP hS => ?_)
      exact kX82 s31 _ _ _ hP hS (lv_sub hl [0, 1, 2, 3] rfl) hw
    obtain ⟨X35, hX35, hw⟩ := hw
    have kX35 : ∀ (H : Heap) (locs : List Loc) (ls : Array Slot), wP D cA ad s2 H → va_S (wA ad) s.heap H locs → lv_has ls 4 [(0, .ref (ad 65)), (1, .int (iI r1)), (2, .int (iI x2_3)), (3, .int (iI v5))] → X35 → W p l e (rmL 4) s m A below meth c H locs 0 0 QQ (F0 m 35 ls []) := by
      intro H locs ls hP hS hl hw
      have hw := hX35 hw
      refine lv_iload_n hx hb dX12_clause_35 rfl (lv_at hl 1 rfl) ?_
      refine lv_bipush (v := iI 114) hx hb dX12_clause_36 (by decide +kernel) ?_
      obtain ⟨X51, hX51, hw⟩ := hw
      have kX51 : ∀ (H : Heap) (locs : List Loc) (ls : Array Slot), wP D cA ad s2 H → va_S (wA ad) s.heap H locs → lv_has ls 4 [(0, .ref (ad 65)), (1, .int (iI r1)), (2, .int (iI x2_3)), (3, .int (iI v5))] → X51 → W p l e (rmL 4) s m A below meth c H locs 0 0 QQ (F0 m 51 ls []) := by
        intro H locs ls hP hS hl hw
        have hw := hX51 hw
        refine lv_iload_n hx hb dX12_clause_51 rfl (lv_at hl 1 rfl) ?_
        refine lv_bipush (v := iI 115) hx hb dX12_clause_52 (by decide +kernel) ?_
        refine wk_icmp_ne hx hb q6 ⟨by decide, by decide⟩ (tgt := 82) dX12_clause_54 (by decide) (fun hh => ?_) (fun hh => ?_)
        · have hw := hw.2 hh
          exact kX82 s2 _ _ _ hP hS (lv_sub hl [0, 1, 2, 3] rfl) hw
        · have hw := hw.1 hh
          refine lv_iload_n hx hb dX12_clause_57 rfl (lv_at hl 3 rfl) ?_
          have q32 := hw.1
          have hw := hw.2
          refine wk_if_ne hx hb q32 (tgt := 82) dX12_clause_58 (by decide) (fun hh => ?_) (fun hh => ?_)
          · have hw := hw.2 hh
            exact kX82 s2 _ _ _ hP hS (lv_sub hl [0, 1, 2, 3] rfl) hw
          · have hw := hw.1 hh
            refine lv_aload_n hx hb dX12_clause_61 rfl (lv_at hl 0 rfl) ?_
            refine wk_getR 66 C0 fl_X12_7 hP (by decide) sh_65 rfl dX12_clause_62 ?_
            refine lv_iconst (v := iI 2) hx hb dX12_clause_65 rfl ?_
            refine wk_iald C0 hP (by decide) sh_66 (by decide) (by decide) (by decide) dX12_clause_66 ?_
            rw [show (2 : Int).toNat = 2 from rfl]
            refine lv_aload_n hx hb dX12_clause_67 rfl (lv_at hl 0 rfl) ?_
            refine wk_getR 66 C0 fl_X12_7 hP (by decide) sh_65 rfl dX12_clause_68 ?_
            refine lv_iconst (v := iI 0) hx hb dX12_clause_71 rfl ?_
            refine wk_iald C0 hP (by decide) sh_66 (by decide) (by decide) (by decide) dX12_clause_72 ?_
            rw [show (0 : Int).toNat = 0 from rfl]
            have q33 := hw.1
            have hw := hw.2
            refine wk_icmp_ne hx hb q33 q4 (tgt := 82) dX12_clause_73 (by decide) (fun hh => ?_) (fun hh => ?_)
            · have hw := hw.2 hh
              exact kX82 s2 _ _ _ hP hS (lv_sub hl [0, 1, 2, 3] rfl) hw
            · have hw := hw.1 hh
              exact kX76  _ _ _ hP hS (lv_sub hl [0, 1, 2, 3] rfl) hw
      refine wk_icmp_ne hx hb q6 ⟨by decide, by decide⟩ (tgt := 51) dX12_clause_38 (by decide) (fun hh => ?_) (fun hh => ?_)
      · have hw := hw.2 hh
        exact kX51  _ _ _ hP hS (lv_sub hl [0, 1, 2, 3] rfl) hw
      · have hw := hw.1 hh
        refine lv_aload_n hx hb dX12_clause_41 rfl (lv_at hl 0 rfl) ?_
        refine wk_getR 66 C0 fl_X12_7 hP (by decide) sh_65 rfl dX12_clause_42 ?_
        refine lv_iconst (v := iI 4) hx hb dX12_clause_45 rfl ?_
        refine wk_iald C0 hP (by decide) sh_66 (by decide) (by decide) (by decide) dX12_clause_46 ?_
        rw [show (4 : Int).toNat = 4 from rfl]
        refine lv_iconst (v := iI 1) hx hb dX12_clause_47 rfl ?_
        have q34 := hw.1
        have hw := hw.2
        refine wk_icmp_eq hx hb q34 ⟨by decide, by decide⟩ (tgt := 76) dX12_clause_48 (by decide) (fun hh => ?_) (fun hh => ?_)
        · have hw := hw.1 hh
          exact kX76  _ _ _ hP hS (lv_sub hl [0, 1, 2, 3] rfl) hw
        · have hw := hw.2 hh
          exact kX51  _ _ _ hP hS (lv_sub hl [0, 1, 2, 3] rfl) hw
    refine wk_icmp_ne hx hb q6 ⟨by decide, by decide⟩ (tgt := 35) dX12_clause_28 (by decide) (fun hh => ?_) (fun hh => ?_)
    · have hw := hw.2 hh
      exact kX35  _ _ _ hP hS (lv_sub hl [1, 2, 3, 0] rfl) hw
    · have hw := hw.1 hh
      refine lv_iload_n hx hb dX12_clause_31 rfl (lv_at hl 0 rfl) ?_
      have q35 := hw.1
      have hw := hw.2
      refine wk_if_eq hx hb q35 (tgt := 76) dX12_clause_32 (by decide) (fun hh => ?_) (fun hh => ?_)
      · have hw := hw.1 hh
        exact kX76  _ _ _ hP hS (lv_sub hl [1, 2, 3, 0] rfl) hw
      · have hw := hw.2 hh
        exact kX35  _ _ _ hP hS (lv_sub hl [1, 2, 3, 0] rfl) hw
  refine wk_if_ne hx hb q4 (tgt := 23) dX12_clause_16 (by decide) (fun hh36 => ?_) (fun hh36 => ?_)
  · refine lv_iconst (v := iI 0) hx hb dX12_clause_23 rfl ?_
    exact kX24 0 (by rw [if_neg hh36]) ls (lv_sub hl [2, 1, 0] rfl)
  · refine lv_iconst (v := iI 1) hx hb dX12_clause_19 rfl ?_
    refine lv_goto (tgt := 24) hx hb dX12_clause_20 (by decide) ?_
    exact kX24 1 (by rw [if_pos hh36]) ls (lv_sub hl [2, 1, 0] rfl)

set_option maxRecDepth 100000 in
set_option maxHeartbeats 4000000 in
theorem ok_X12_starts {l : Launch} {D : va_G} {cA : Nat → ClassId} {ad : Nat → Nat} (hI : wI ad) {sg : Mem} {Q : Mem → Prop} (hw : wp_X12_starts sg Q) : wMv l D cA ad yX12_starts cX12_starts 2 none 1 [.ref (ad 65)] sg Q := by
  refine wk_ofV (by decide) hI (Nat.le_of_ble_eq_true rfl) ?_
  intro p e s m below meth c A QQ ls C0 hret hl hP
  have hx := C0.1
  have hb := C0.2.1
  have hown := C0.2.2.2.1
  have htb := C0.2.2.2.2.1
  have hl : lv_has ls 2 [(0, .ref (ad 65))] := hl
  refine (fun (key : ∀ (H : Heap) (locs : List Loc), wP D cA ad sg H → va_S (wA ad) s.heap H locs → W p l e (rmL 1) s m A below meth c H locs 0 0 QQ (F0 m 0 ls [])) => key _ _ hP va_S.rf) ?_
  intro H locs hP hS
  unfold wp_X12_starts at hw
  refine lv_iconst (v := iI 0) hx hb dX12_starts_0 rfl ?_
  refine lv_istore_n (lv' := [(1, .int (iI 0)), (0, .ref (ad 65))]) hx hb dX12_starts_1 rfl hl (by decide) rfl (fun ls hl => ?_)
  obtain ⟨I2, hI2, hw⟩ := hw
  have kI2 : ∀ (k2 : Nat) (y1_1 : Int) (s2 : Mem) (H : Heap) (locs : List Loc) (ls : Array Slot), wP D cA ad s2 H → va_S (wA ad) s.heap H locs → lv_has ls 2 [(0, .ref (ad 65)), (1, .int (iI y1_1))] → I2 k2 y1_1 s2 → W p l e (rmL 1) s m A below meth c H locs 0 0 QQ (F0 m 2 ls []) := by
    intro k2
    induction k2 using Nat.strongRecOn with
    | _ k2 ih2 =>
      intro y1_1 s2 H locs ls hP hS hl hw
      have hw := hI2 k2 y1_1 s2 hw
      refine lv_iload_n hx hb dX12_starts_2 rfl (lv_at hl 1 rfl) ?_
      refine lv_bipush (v := iI 44) hx hb dX12_starts_3 (by decide +kernel) ?_
      have q3 := hw.1
      have hw := hw.2
      refine wk_icmp_ge hx hb q3 ⟨by decide, by decide⟩ (tgt := 26) dX12_starts_5 (by decide) (fun hh => ?_) (fun hh => ?_)
      · have hw := hw.1 hh
        refine lv_aload_n hx hb dX12_starts_26 rfl (lv_at hl 0 rfl) ?_
        refine wk_getR 69 C0 fl_X12_19 hP (by decide) sh_65 rfl dX12_starts_27 ?_
        refine lv_iconst (v := iI 0) hx hb dX12_starts_30 rfl ?_
        refine lv_iconst (v := iI 0) hx hb dX12_starts_31 rfl ?_
        refine wk_iast C0 hP hS (by decide) sh_69 (by decide) (by decide) (by decide) dX12_starts_32 (fun s4 H locs es4 hP hS => ?_)
        have hw := hw s4 es4
        refine lv_iconst (v := iI 0) hx hb dX12_starts_33 rfl ?_
        refine lv_istore_n (lv' := [(1, .int (iI 0)), (0, .ref (ad 65))]) hx hb dX12_starts_34 rfl hl (by decide) rfl (fun ls hl => ?_)
        obtain ⟨I35, hI35, hw⟩ := hw
        have kI35 : ∀ (k35 : Nat) (y1_5 : Int) (s6 : Mem) (H : Heap) (locs : List Loc) (ls : Array Slot), wP D cA ad s6 H → va_S (wA ad) s.heap H locs → lv_has ls 2 [(0, .ref (ad 65)), (1, .int (iI y1_5))] → I35 k35 y1_5 s6 → W p l e (rmL 1) s m A below meth c H locs 0 0 QQ (F0 m 35 ls []) := by
          intro k35
          induction k35 using Nat.strongRecOn with
          | _ k35 ih35 =>
            intro y1_5 s6 H locs ls hP hS hl hw
            have hw := hI35 k35 y1_5 s6 hw
            refine lv_iload_n hx hb dX12_starts_35 rfl (lv_at hl 1 rfl) ?_
            refine lv_bipush (v := iI 6) hx hb dX12_starts_36 (by decide +kernel) ?_
            have q7 := hw.1
            have hw := hw.2
            refine wk_icmp_ge hx hb q7 ⟨by decide, by decide⟩ (tgt := 104) dX12_starts_38 (by decide) (fun hh => ?_) (fun hh => ?_)
            · have hw := hw.1 hh
              refine lv_aload_n hx hb dX12_starts_104 rfl (lv_at hl 0 rfl) ?_
              refine lv_iconst (v := iI 0) hx hb dX12_starts_105 rfl ?_
              refine wk_putI C0 fl_X12_113 rfl rfl hP hS (by decide) sh_65 rfl dX12_starts_106 (fun s8 H locs es8 hP hS => ?_)
              have hw := hw s8 es8
              refine lv_aload_n hx hb dX12_starts_109 rfl (lv_at hl 0 rfl) ?_
              refine lv_iconst (v := iI 0) hx hb dX12_starts_110 rfl ?_
              refine wk_putI C0 fl_X12_116 rfl rfl hP hS (by decide) sh_65 rfl dX12_starts_111 (fun s9 H locs es9 hP hS => ?_)
              have hw := hw s9 es9
              refine lv_aload_n hx hb dX12_starts_114 rfl (lv_at hl 0 rfl) ?_
              refine lv_iconst (v := iI 0) hx hb dX12_starts_115 rfl ?_
              refine wk_putI C0 fl_X12_119 rfl rfl hP hS (by decide) sh_65 rfl dX12_starts_116 (fun s10 H locs es10 hP hS => ?_)
              have hw := hw s10 es10
              refine lv_aload_n hx hb dX12_starts_119 rfl (lv_at hl 0 rfl) ?_
              refine wk_getR 80 C0 fl_X12_52 hP (by decide) sh_65 rfl dX12_starts_120 ?_
              refine lv_iconst (v := iI 0) hx hb dX12_starts_123 rfl ?_
              refine lv_iconst (v := iI 0) hx hb dX12_starts_124 rfl ?_
              refine wk_iast C0 hP hS (by decide) sh_80 (by decide) (by decide) (by decide) dX12_starts_125 (fun s11 H locs es11 hP hS => ?_)
              have hw := hw s11 es11
              refine lv_aload_n hx hb dX12_starts_126 rfl (lv_at hl 0 rfl) ?_
              refine wk_getR 80 C0 fl_X12_52 hP (by decide) sh_65 rfl dX12_starts_127 ?_
              refine lv_bipush (v := iI 15) hx hb dX12_starts_130 (by decide +kernel) ?_
              refine lv_iconst (v := iI 0) hx hb dX12_starts_132 rfl ?_
              refine wk_iast C0 hP hS (by decide) sh_80 (by decide) (by decide) (by decide) dX12_starts_133 (fun s12 H locs es12 hP hS => ?_)
              have hw := hw s12 es12
              exact hret _ _ _ _ _ hw hP hS dX12_starts_134
            · have hw := hw.2 hh
              refine lv_aload_n hx hb dX12_starts_41 rfl (lv_at hl 0 rfl) ?_
              refine wk_getR 69 C0 fl_X12_19 hP (by decide) sh_65 rfl dX12_starts_42 ?_
              refine lv_iconst (v := iI 1) hx hb dX12_starts_45 rfl ?_
              refine lv_iload_n hx hb dX12_starts_46 rfl (lv_at hl 1 rfl) ?_
              refine wk_iadd hx hb dX12_starts_47 ?_
              refine lv_iload_n hx hb dX12_starts_48 rfl (lv_at hl 1 rfl) ?_
              refine lv_aload_n hx hb dX12_starts_49 rfl (lv_at hl 0 rfl) ?_
              refine wk_getR 67 C0 fl_X12_13 hP (by decide) sh_65 rfl dX12_starts_50 ?_
              refine lv_iconst (v := iI 2) hx hb dX12_starts_53 rfl ?_
              refine wk_iald C0 hP (by decide) sh_67 (by decide) (by decide) (by decide) dX12_starts_54 ?_
              rw [show (2 : Int).toNat = 2 from rfl]
              have q13 := hw.1
              have hw := hw.2
              have kX63 : ∀ v14 : Int, v14 = (if s6 67 2 ≤ y1_5 then (-1) else y1_5) → ∀ (ls : Array Slot), lv_has ls 2 [(0, .ref (ad 65)), (1, .int (iI y1_5))] → W p l e (rmL 1) s m A below meth c H locs 0 0 QQ (F0 m 63 ls [.int (iI v14), .int (iI (1 + y1_5)), .ref (ad 69)]) := by
                intro v14 ev14 ls hl
                have hw := hw v14 ev14
                have q15 := hw.1
                have hw := hw.2
                refine wk_iast C0 hP hS (by decide) sh_69 q15.1 q15.2 (by decide) dX12_starts_63 (fun s16 H locs es16 hP hS => ?_)
                have hw := hw s16 es16
                refine lv_aload_n hx hb dX12_starts_64 rfl (lv_at hl 0 rfl) ?_
                refine wk_getR 69 C0 fl_X12_19 hP (by decide) sh_65 rfl dX12_starts_65 ?_
                refine lv_bipush (v := iI 7) hx hb dX12_starts_68 (by decide +kernel) ?_
                refine lv_iload_n hx hb dX12_starts_70 rfl (lv_at hl 1 rfl) ?_
                refine wk_iadd hx hb dX12_starts_71 ?_
                refine lv_iload_n hx hb dX12_starts_72 rfl (lv_at hl 1 rfl) ?_
                refine lv_aload_n hx hb dX12_starts_73 rfl (lv_at hl 0 rfl) ?_
                refine wk_getR 67 C0 fl_X12_13 hP (by decide) sh_65 rfl dX12_starts_74 ?_
                refine lv_iconst (v := iI 2) hx hb dX12_starts_77 rfl ?_
                refine wk_iald C0 hP (by decide) sh_67 (by decide) (by decide) (by decide) dX12_starts_78 ?_
                rw [show (2 : Int).toNat = 2 from rfl]
                have q17 := hw.1
                have hw := hw.2
                have hs := hw.1
                have hw := hw.2
                have kX97 : ∀ v19 : Int, v19 = (if s16 67 2 ≤ y1_5 then 0 else s16 67 (12 + (4 * y1_5)).toNat) → ∀ (ls : Array Slot), lv_has ls 2 [(0, .ref (ad 65)), (1, .int (iI y1_5))] → W p l e (rmL 1) s m A below meth c H locs 0 0 QQ (F0 m 97 ls [.int (iI v19), .int (iI (7 + y1_5)), .ref (ad 69)]) := by
                  intro v19 ev19 ls hl
                  have hw := hw v19 ev19
                  have q20 := hw.1
                  have hw := hw.2
                  refine wk_iast C0 hP hS (by decide) sh_69 q20.1 q20.2 (by decide) dX12_starts_97 (fun s21 H locs es21 hP hS => ?_)
                  have hw := hw s21 es21
                  refine wk_iinc (lv' := fun x1_22 => [(1, .int (iI x1_22)), (0, .ref (ad 65))]) hx hb dX12_starts_98 hl (k := 1) rfl (by decide) (fun _ => rfl) (fun x1_22 ls ex1_22 hl => ?_)
                  have hw := hw x1_22 ex1_22
                  refine lv_goto (tgt := 35) hx hb dX12_starts_101 (by decide) ?_
                  obtain ⟨k23, hk23, hw⟩ := hw
                  exact ih35 k23 hk23 x1_22 s21 _ _ _ hP hS (lv_sub hl [1, 0] rfl) hw
                refine wk_icmp_ge hx hb q7 q17 (tgt := 96) dX12_starts_79 (by decide) (fun hh24 => ?_) (fun hh24 => ?_)
                · refine lv_iconst (v := iI 0) hx hb dX12_starts_96 rfl ?_
                  exact kX97 0 (by rw [if_pos hh24]) ls (lv_sub hl [0, 1] rfl)
                · have hs := hs.2 hh24
                  refine lv_aload_n hx hb dX12_starts_82 rfl (lv_at hl 0 rfl) ?_
                  refine wk_getR 67 C0 fl_X12_13 hP (by decide) sh_65 rfl dX12_starts_83 ?_
                  refine lv_bipush (v := iI 12) hx hb dX12_starts_86 (by decide +kernel) ?_
                  refine lv_iconst (v := iI 4) hx hb dX12_starts_88 rfl ?_
                  refine lv_iload_n hx hb dX12_starts_89 rfl (lv_at hl 1 rfl) ?_
                  refine wk_imul hx hb dX12_starts_90 ?_
                  refine wk_iadd hx hb dX12_starts_91 ?_
                  have q18 := hs
                  refine wk_iald C0 hP (by decide) sh_67 q18.1 q18.2 (by decide) dX12_starts_92 ?_
                  refine lv_goto (tgt := 97) hx hb dX12_starts_93 (by decide) ?_
                  exact kX97 (s16 67 (12 + (4 * y1_5)).toNat) (by rw [if_neg hh24]) ls (lv_sub hl [0, 1] rfl)
              refine wk_icmp_ge hx hb q7 q13 (tgt := 62) dX12_starts_55 (by decide) (fun hh25 => ?_) (fun hh25 => ?_)
              · refine lv_iconst (v := iI (-1)) hx hb dX12_starts_62 rfl ?_
                exact kX63 (-1) (by rw [if_pos hh25]) ls (lv_sub hl [0, 1] rfl)
              · refine lv_iload_n hx hb dX12_starts_58 rfl (lv_at hl 1 rfl) ?_
                refine lv_goto (tgt := 63) hx hb dX12_starts_59 (by decide) ?_
                exact kX63 y1_5 (by rw [if_neg hh25]) ls (lv_sub hl [0, 1] rfl)
        obtain ⟨k26, hw⟩ := hw
        exact kI35 k26 0 s4 _ _ _ hP hS (lv_sub hl [1, 0] rfl) hw
      · have hw := hw.2 hh
        refine lv_aload_n hx hb dX12_starts_8 rfl (lv_at hl 0 rfl) ?_
        refine wk_getR 67 C0 fl_X12_13 hP (by decide) sh_65 rfl dX12_starts_9 ?_
        refine lv_iload_n hx hb dX12_starts_12 rfl (lv_at hl 1 rfl) ?_
        refine lv_aload_n hx hb dX12_starts_13 rfl (lv_at hl 0 rfl) ?_
        refine wk_getR 66 C0 fl_X12_7 hP (by decide) sh_65 rfl dX12_starts_14 ?_
        refine lv_iload_n hx hb dX12_starts_17 rfl (lv_at hl 1 rfl) ?_
        have q27 := hw.1
        have hw := hw.2
        refine wk_iald C0 hP (by decide) sh_66 q27.1 q27.2 (by decide) dX12_starts_18 ?_
        refine wk_iast C0 hP hS (by decide) sh_67 q27.1 q27.2 (by decide) dX12_starts_19 (fun s28 H locs es28 hP hS => ?_)
        have hw := hw s28 es28
        refine wk_iinc (lv' := fun x1_29 => [(1, .int (iI x1_29)), (0, .ref (ad 65))]) hx hb dX12_starts_20 hl (k := 1) rfl (by decide) (fun _ => rfl) (fun x1_29 ls ex1_29 hl => ?_)
        have hw := hw x1_29 ex1_29
        refine lv_goto (tgt := 2) hx hb dX12_starts_23 (by decide) ?_
        obtain ⟨k30, hk30, hw⟩ := hw
        exact ih2 k30 hk30 x1_29 s28 _ _ _ hP hS (lv_sub hl [1, 0] rfl) hw
  obtain ⟨k31, hw⟩ := hw
  exact kI2 k31 0 sg _ _ _ hP hS (lv_sub hl [1, 0] rfl) hw

set_option maxRecDepth 100000 in
set_option maxHeartbeats 4000000 in
theorem ok_X12_bed {l : Launch} {D : va_G} {cA : Nat → ClassId} {ad : Nat → Nat} (hI : wI ad) {sg : Mem} {Q : Int → Mem → Prop} (hw : wp_X12_bed sg Q) : wMi l D cA ad yX12_bed cX12_bed 1 (some .int) 5 [.ref (ad 65)] sg Q := by
  refine wk_ofI (by decide) hI (Nat.le_of_ble_eq_true rfl) ?_
  intro p e s m below meth c A QQ ls C0 hret hl hP
  have hx := C0.1
  have hb := C0.2.1
  have hown := C0.2.2.2.1
  have htb := C0.2.2.2.2.1
  have hl : lv_has ls 1 [(0, .ref (ad 65))] := hl
  refine (fun (key : ∀ (H : Heap) (locs : List Loc), wP D cA ad sg H → va_S (wA ad) s.heap H locs → W p l e (rmL 5) s m A below meth c H locs 0 0 QQ (F0 m 0 ls [])) => key _ _ hP va_S.rf) ?_
  intro H locs hP hS
  unfold wp_X12_bed at hw
  refine lv_aload_n hx hb dX12_bed_0 rfl (lv_at hl 0 rfl) ?_
  refine lv_iconst (v := iI 0) hx hb dX12_bed_1 rfl ?_
  refine wk_putI C0 fl_X12_76 rfl rfl hP hS (by decide) sh_65 rfl dX12_bed_2 (fun s1 H locs es1 hP hS => ?_)
  have hw := hw s1 es1
  refine lv_aload_n hx hb dX12_bed_5 rfl (lv_at hl 0 rfl) ?_
  refine lv_iconst (v := iI 0) hx hb dX12_bed_6 rfl ?_
  refine wk_putI C0 fl_X12_79 rfl rfl hP hS (by decide) sh_65 rfl dX12_bed_7 (fun s2 H locs es2 hP hS => ?_)
  have hw := hw s2 es2
  refine lv_aload_n hx hb dX12_bed_10 rfl (lv_at hl 0 rfl) ?_
  refine lv_iconst (v := iI (-1)) hx hb dX12_bed_11 rfl ?_
  refine wk_putI C0 fl_X12_55 rfl rfl hP hS (by decide) sh_65 rfl dX12_bed_12 (fun s3 H locs es3 hP hS => ?_)
  have hw := hw s3 es3
  refine lv_aload_n hx hb dX12_bed_15 rfl (lv_at hl 0 rfl) ?_
  refine wk_rv (wk_callV (rest := []) C0 cl_X12_59 (ok_X12_plain hI hw) hP (by decide) sh_65 rfl rfl rfl (Nat.le_of_ble_eq_true rfl) (wk_room (by decide) (by decide)) hl.1 dX12_bed_16 ⟨Nat.le_refl _, Nat.le_refl _⟩) hS (fun s4 H locs hw hP hS => ?_)
  obtain ⟨I19, hI19, hw⟩ := hw
  have kI19 : ∀ (k19 : Nat) (s5 : Mem) (H : Heap) (locs : List Loc) (ls : Array Slot), wP D cA ad s5 H → va_S (wA ad) s.heap H locs → lv_has ls 1 [(0, .ref (ad 65))] → I19 k19 s5 → W p l e (rmL 5) s m A below meth c H locs 0 0 QQ (F0 m 19 ls []) := by
    intro k19
    induction k19 using Nat.strongRecOn with
    | _ k19 ih19 =>
      intro s5 H locs ls hP hS hl hw
      have hw := hI19 k19 s5 hw
      refine lv_aload_n hx hb dX12_bed_19 rfl (lv_at hl 0 rfl) ?_
      refine wk_getI C0 fl_X12_79 hP (by decide) sh_65 rfl dX12_bed_20 ?_
      have q6 := hw.1
      have hw := hw.2
      obtain ⟨X40, hX40, hw⟩ := hw
      have kX40 : ∀ (s7 : Mem) (H : Heap) (locs : List Loc) (ls : Array Slot), wP D cA ad s7 H → va_S (wA ad) s.heap H locs → lv_has ls 1 [(0, .ref (ad 65))] → X40 s7 → W p l e (rmL 5) s m A below meth c H locs 0 0 QQ (F0 m 40 ls []) := by
        intro s7 H locs ls hP hS hl hw
        have hw := hX40 s7 hw
        refine lv_aload_n hx hb dX12_bed_40 rfl (lv_at hl 0 rfl) ?_
        refine lv_iconst (v := iI 0) hx hb dX12_bed_41 rfl ?_
        refine wk_putI C0 fl_X12_72 rfl rfl hP hS (by decide) sh_65 rfl dX12_bed_42 (fun s8 H locs es8 hP hS => ?_)
        have hw := hw s8 es8
        refine lv_aload_n hx hb dX12_bed_45 rfl (lv_at hl 0 rfl) ?_
        refine wk_getI C0 fl_X12_79 hP (by decide) sh_65 rfl dX12_bed_46 ?_
        have q9 := hw.1
        have hw := hw.2
        refine wk_if_eq hx hb q9 (tgt := 60) dX12_bed_49 (by decide) (fun hh => ?_) (fun hh => ?_)
        · have hw := hw.1 hh
          refine lv_aload_n hx hb dX12_bed_60 rfl (lv_at hl 0 rfl) ?_
          refine wk_rv (wk_callV (rest := []) C0 cl_X12_62 (ok_X12_starts hI hw) hP (by decide) sh_65 rfl rfl rfl (Nat.le_of_ble_eq_true rfl) (wk_room (by decide) (by decide)) hl.1 dX12_bed_61 ⟨Nat.le_refl _, Nat.le_refl _⟩) hS (fun s10 H locs hw hP hS => ?_)
          refine lv_aload_n hx hb dX12_bed_64 rfl (lv_at hl 0 rfl) ?_
          refine wk_getR 67 C0 fl_X12_13 hP (by decide) sh_65 rfl dX12_bed_65 ?_
          refine lv_iconst (v := iI 2) hx hb dX12_bed_68 rfl ?_
          refine wk_iald C0 hP (by decide) sh_67 (by decide) (by decide) (by decide) dX12_bed_69 ?_
          rw [show (2 : Int).toNat = 2 from rfl]
          exact hret _ _ _ _ _ _ hw hP hS dX12_bed_70
        · have hw := hw.2 hh
          refine lv_bipush (v := iI (-10)) hx hb dX12_bed_52 (by decide +kernel) ?_
          refine lv_aload_n hx hb dX12_bed_54 rfl (lv_at hl 0 rfl) ?_
          refine wk_getI C0 fl_X12_79 hP (by decide) sh_65 rfl dX12_bed_55 ?_
          refine wk_isub hx hb dX12_bed_58 ?_
          exact hret _ _ _ _ _ _ hw hP hS dX12_bed_59
      refine wk_if_ne hx hb q6 (tgt := 40) dX12_bed_23 (by decide) (fun hh => ?_) (fun hh => ?_)
      · have hw := hw.2 hh
        exact kX40 s5 _ _ _ hP hS (lv_sub hl [0] rfl) hw
      · have hw := hw.1 hh
        refine lv_aload_n hx hb dX12_bed_26 rfl (lv_at hl 0 rfl) ?_
        refine wk_ri (wk_callV (rest := []) C0 cl_X12_82 (ok_X12_here hI hw) hP (by decide) sh_65 rfl rfl rfl (Nat.le_of_ble_eq_true rfl) (wk_room (by decide) (by decide)) hl.1 dX12_bed_27 ⟨Nat.le_refl _, Nat.le_refl _⟩) hS (fun r11 s12 H locs hw hP hS => ?_)
        have q13 := hw.1
        have hw := hw.2
        refine wk_if_lt hx hb q13 (tgt := 40) dX12_bed_30 (by decide) (fun hh => ?_) (fun hh => ?_)
        · have hw := hw.1 hh
          exact kX40 s12 _ _ _ hP hS (lv_sub hl [0] rfl) hw
        · have hw := hw.2 hh
          refine lv_aload_n hx hb dX12_bed_33 rfl (lv_at hl 0 rfl) ?_
          refine wk_rv (wk_callV (rest := []) C0 cl_X12_110 (ok_X12_clause hI hw) hP (by decide) sh_65 rfl rfl rfl (Nat.le_of_ble_eq_true rfl) (wk_room (by decide) (by decide)) hl.1 dX12_bed_34 ⟨Nat.le_refl _, Nat.le_refl _⟩) hS (fun s14 H locs hw hP hS => ?_)
          refine lv_goto (tgt := 19) hx hb dX12_bed_37 (by decide) ?_
          obtain ⟨k15, hk15, hw⟩ := hw
          exact ih19 k15 hk15 s14 _ _ _ hP hS (lv_sub hl [0] rfl) hw
  obtain ⟨k16, hw⟩ := hw
  exact kI19 k16 s4 _ _ _ hP hS (lv_sub hl [0] rfl) hw

set_option maxRecDepth 100000 in
set_option maxHeartbeats 4000000 in
theorem ok_X12_fault {l : Launch} {D : va_G} {cA : Nat → ClassId} {ad : Nat → Nat} (hI : wI ad) {sg : Mem} {Q : Int → Prop} (hw : wp_X12_fault sg Q) : wMi l D cA ad yX12_fault cX12_fault 1 (some .int) 1 [.ref (ad 65)] sg (fun z u => u = sg ∧ Q z) := by
  refine wk_ofI (by decide) hI (Nat.le_of_ble_eq_true rfl) ?_
  intro p e s m below meth c A QQ ls C0 hret hl hP
  have hx := C0.1
  have hb := C0.2.1
  have hown := C0.2.2.2.1
  have htb := C0.2.2.2.2.1
  have hl : lv_has ls 1 [(0, .ref (ad 65))] := hl
  refine (fun (key : ∀ (H : Heap) (locs : List Loc), wP D cA ad sg H → va_S (wA ad) s.heap H locs → W p l e (rmL 1) s m A below meth c H locs 0 0 QQ (F0 m 0 ls [])) => key _ _ hP va_S.rf) ?_
  intro H locs hP hS
  unfold wp_X12_fault at hw
  refine lv_aload_n hx hb dX12_fault_0 rfl (lv_at hl 0 rfl) ?_
  refine wk_getI C0 fl_X12_55 hP (by decide) sh_65 rfl dX12_fault_1 ?_
  exact hret _ _ _ _ _ _ ⟨rfl, hw⟩ hP hS dX12_fault_4

set_option maxRecDepth 100000 in
set_option maxHeartbeats 4000000 in
theorem ok_X12_isPlace {l : Launch} {D : va_G} {cA : Nat → ClassId} {ad : Nat → Nat} (hI : wI ad) {a1 : Int} {sg : Mem} {Q : Int → Prop} (hw : wp_X12_isPlace a1 sg Q) : wMi l D cA ad yX12_isPlace cX12_isPlace 2 (some .boolean) 2 [.ref (ad 65), .int (iI a1)] sg (fun z u => u = sg ∧ Q z) := by
  refine wk_ofZ (by decide) hI (Nat.le_of_ble_eq_true rfl) ?_
  intro p e s m below meth c A QQ ls C0 hret hl hP
  have hx := C0.1
  have hb := C0.2.1
  have hown := C0.2.2.2.1
  have htb := C0.2.2.2.2.1
  have hl : lv_has ls 2 [(0, .ref (ad 65)), (1, .int (iI a1))] := hl
  refine (fun (key : ∀ (H : Heap) (locs : List Loc), wP D cA ad sg H → va_S (wA ad) s.heap H locs → W p l e (rmL 2) s m A below meth c H locs 0 0 QQ (F0 m 0 ls [])) => key _ _ hP va_S.rf) ?_
  intro H locs hP hS
  unfold wp_X12_isPlace at hw
  refine lv_iload_n hx hb dX12_isPlace_0 rfl (lv_at hl 1 rfl) ?_
  have q1 := hw.1
  have hw := hw.2
  refine wk_i2l hx hb q1 dX12_isPlace_1 ?_
  refine lv_lconst (v := iL 0) hx hb dX12_isPlace_2 rfl ?_
  refine lv_aload_n hx hb dX12_isPlace_3 rfl (lv_at hl 0 rfl) ?_
  refine wk_getR 67 C0 fl_X12_13 hP (by decide) sh_65 rfl dX12_isPlace_4 ?_
  refine lv_iconst (v := iI 0) hx hb dX12_isPlace_7 rfl ?_
  refine wk_iald C0 hP (by decide) sh_67 (by decide) (by decide) (by decide) dX12_isPlace_8 ?_
  rw [show (0 : Int).toNat = 0 from rfl]
  refine lv_iconst (v := iI 1) hx hb dX12_isPlace_9 rfl ?_
  refine wk_isub hx hb dX12_isPlace_10 ?_
  have q2 := hw.1
  have hw := hw.2
  refine wk_i2l hx hb q2 dX12_isPlace_11 ?_
  refine wk_rip (wk_callS (rest := []) C0 cl_X12_67 (ok_X12_in hI hw) hP rfl rfl (Nat.le_of_ble_eq_true rfl) (wk_room (by decide) (by decide)) hl.1 dX12_isPlace_12 ⟨Nat.le_refl _, Nat.le_refl _⟩) hS (fun r3 H locs hw hP hS => ?_)
  have qz := hw.1
  have hw := hw.2
  exact hret _ _ _ _ _ _ qz ⟨rfl, hw⟩ hP hS dX12_isPlace_15

set_option maxRecDepth 100000 in
set_option maxHeartbeats 4000000 in
theorem ok_X12_isSleeper {l : Launch} {D : va_G} {cA : Nat → ClassId} {ad : Nat → Nat} (hI : wI ad) {a1 : Int} {sg : Mem} {Q : Int → Prop} (hw : wp_X12_isSleeper a1 sg Q) : wMi l D cA ad yX12_isSleeper cX12_isSleeper 2 (some .boolean) 2 [.ref (ad 65), .int (iI a1)] sg (fun z u => u = sg ∧ Q z) := by
  refine wk_ofZ (by decide) hI (Nat.le_of_ble_eq_true rfl) ?_
  intro p e s m below meth c A QQ ls C0 hret hl hP
  have hx := C0.1
  have hb := C0.2.1
  have hown := C0.2.2.2.1
  have htb := C0.2.2.2.2.1
  have hl : lv_has ls 2 [(0, .ref (ad 65)), (1, .int (iI a1))] := hl
  refine (fun (key : ∀ (H : Heap) (locs : List Loc), wP D cA ad sg H → va_S (wA ad) s.heap H locs → W p l e (rmL 2) s m A below meth c H locs 0 0 QQ (F0 m 0 ls [])) => key _ _ hP va_S.rf) ?_
  intro H locs hP hS
  unfold wp_X12_isSleeper at hw
  refine lv_iload_n hx hb dX12_isSleeper_0 rfl (lv_at hl 1 rfl) ?_
  have q1 := hw.1
  have hw := hw.2
  refine wk_i2l hx hb q1 dX12_isSleeper_1 ?_
  refine lv_lconst (v := iL 0) hx hb dX12_isSleeper_2 rfl ?_
  refine lv_aload_n hx hb dX12_isSleeper_3 rfl (lv_at hl 0 rfl) ?_
  refine wk_getR 67 C0 fl_X12_13 hP (by decide) sh_65 rfl dX12_isSleeper_4 ?_
  refine lv_iconst (v := iI 2) hx hb dX12_isSleeper_7 rfl ?_
  refine wk_iald C0 hP (by decide) sh_67 (by decide) (by decide) (by decide) dX12_isSleeper_8 ?_
  rw [show (2 : Int).toNat = 2 from rfl]
  refine lv_iconst (v := iI 1) hx hb dX12_isSleeper_9 rfl ?_
  refine wk_isub hx hb dX12_isSleeper_10 ?_
  have q2 := hw.1
  have hw := hw.2
  refine wk_i2l hx hb q2 dX12_isSleeper_11 ?_
  refine wk_rip (wk_callS (rest := []) C0 cl_X12_67 (ok_X12_in hI hw) hP rfl rfl (Nat.le_of_ble_eq_true rfl) (wk_room (by decide) (by decide)) hl.1 dX12_isSleeper_12 ⟨Nat.le_refl _, Nat.le_refl _⟩) hS (fun r3 H locs hw hP hS => ?_)
  have qz := hw.1
  have hw := hw.2
  exact hret _ _ _ _ _ _ qz ⟨rfl, hw⟩ hP hS dX12_isSleeper_15

set_option maxRecDepth 100000 in
set_option maxHeartbeats 4000000 in
theorem ok_X12_gives {l : Launch} {D : va_G} {cA : Nat → ClassId} {ad : Nat → Nat} (hI : wI ad) {a1 : Int} {sg : Mem} {Q : Int → Prop} (hw : wp_X12_gives a1 sg Q) : wMi l D cA ad yX12_gives cX12_gives 2 (some .int) 1 [.ref (ad 65), .int (iI a1)] sg (fun z u => u = sg ∧ Q z) := by
  refine wk_ofI (by decide) hI (Nat.le_of_ble_eq_true rfl) ?_
  intro p e s m below meth c A QQ ls C0 hret hl hP
  have hx := C0.1
  have hb := C0.2.1
  have hown := C0.2.2.2.1
  have htb := C0.2.2.2.2.1
  have hl : lv_has ls 2 [(0, .ref (ad 65)), (1, .int (iI a1))] := hl
  refine (fun (key : ∀ (H : Heap) (locs : List Loc), wP D cA ad sg H → va_S (wA ad) s.heap H locs → W p l e (rmL 1) s m A below meth c H locs 0 0 QQ (F0 m 0 ls [])) => key _ _ hP va_S.rf) ?_
  intro H locs hP hS
  unfold wp_X12_gives at hw
  refine lv_iload_n hx hb dX12_gives_0 rfl (lv_at hl 1 rfl) ?_
  refine lv_iconst (v := iI (-1)) hx hb dX12_gives_1 rfl ?_
  have q1 := hw.1
  have hw := hw.2
  refine wk_icmp_ne hx hb q1 ⟨by decide, by decide⟩ (tgt := 9) dX12_gives_2 (by decide) (fun hh => ?_) (fun hh => ?_)
  · have hw := hw.2 hh
    refine lv_aload_n hx hb dX12_gives_9 rfl (lv_at hl 0 rfl) ?_
    refine wk_getR 67 C0 fl_X12_13 hP (by decide) sh_65 rfl dX12_gives_10 ?_
    refine lv_bipush (v := iI 12) hx hb dX12_gives_13 (by decide +kernel) ?_
    refine lv_iconst (v := iI 4) hx hb dX12_gives_15 rfl ?_
    refine lv_iload_n hx hb dX12_gives_16 rfl (lv_at hl 1 rfl) ?_
    refine wk_imul hx hb dX12_gives_17 ?_
    refine wk_iadd hx hb dX12_gives_18 ?_
    refine lv_iconst (v := iI 1) hx hb dX12_gives_19 rfl ?_
    refine wk_iadd hx hb dX12_gives_20 ?_
    have q2 := hw.1
    have hw := hw.2
    refine wk_iald C0 hP (by decide) sh_67 q2.1 q2.2 (by decide) dX12_gives_21 ?_
    exact hret _ _ _ _ _ _ ⟨rfl, hw⟩ hP hS dX12_gives_22
  · have hw := hw.1 hh
    refine lv_iconst (v := iI 0) hx hb dX12_gives_5 rfl ?_
    refine lv_goto (tgt := 22) hx hb dX12_gives_6 (by decide) ?_
    exact hret _ _ _ _ _ _ ⟨rfl, hw⟩ hP hS dX12_gives_22

set_option maxRecDepth 100000 in
set_option maxHeartbeats 4000000 in
theorem ok_X12_loses {l : Launch} {D : va_G} {cA : Nat → ClassId} {ad : Nat → Nat} (hI : wI ad) {a1 : Int} {sg : Mem} {Q : Int → Prop} (hw : wp_X12_loses a1 sg Q) : wMi l D cA ad yX12_loses cX12_loses 2 (some .int) 1 [.ref (ad 65), .int (iI a1)] sg (fun z u => u = sg ∧ Q z) := by
  refine wk_ofI (by decide) hI (Nat.le_of_ble_eq_true rfl) ?_
  intro p e s m below meth c A QQ ls C0 hret hl hP
  have hx := C0.1
  have hb := C0.2.1
  have hown := C0.2.2.2.1
  have htb := C0.2.2.2.2.1
  have hl : lv_has ls 2 [(0, .ref (ad 65)), (1, .int (iI a1))] := hl
  refine (fun (key : ∀ (H : Heap) (locs : List Loc), wP D cA ad sg H → va_S (wA ad) s.heap H locs → W p l e (rmL 1) s m A below meth c H locs 0 0 QQ (F0 m 0 ls [])) => key _ _ hP va_S.rf) ?_
  intro H locs hP hS
  unfold wp_X12_loses at hw
  refine lv_aload_n hx hb dX12_loses_0 rfl (lv_at hl 0 rfl) ?_
  refine wk_getR 67 C0 fl_X12_13 hP (by decide) sh_65 rfl dX12_loses_1 ?_
  refine lv_bipush (v := iI 12) hx hb dX12_loses_4 (by decide +kernel) ?_
  refine lv_iconst (v := iI 4) hx hb dX12_loses_6 rfl ?_
  refine lv_iload_n hx hb dX12_loses_7 rfl (lv_at hl 1 rfl) ?_
  refine wk_imul hx hb dX12_loses_8 ?_
  refine wk_iadd hx hb dX12_loses_9 ?_
  refine lv_iconst (v := iI 2) hx hb dX12_loses_10 rfl ?_
  refine wk_iadd hx hb dX12_loses_11 ?_
  have q1 := hw.1
  have hw := hw.2
  refine wk_iald C0 hP (by decide) sh_67 q1.1 q1.2 (by decide) dX12_loses_12 ?_
  exact hret _ _ _ _ _ _ ⟨rfl, hw⟩ hP hS dX12_loses_13

set_option maxRecDepth 100000 in
set_option maxHeartbeats 4000000 in
theorem ok_X12_placeOf {l : Launch} {D : va_G} {cA : Nat → ClassId} {ad : Nat → Nat} (hI : wI ad) {a1 : Int} {sg : Mem} {Q : Int → Prop} (hw : wp_X12_placeOf a1 sg Q) : wMi l D cA ad yX12_placeOf cX12_placeOf 4 (some .int) 1 [.ref (ad 65), .int (iI a1)] sg (fun z u => u = sg ∧ Q z) := by
  refine wk_ofI (by decide) hI (Nat.le_of_ble_eq_true rfl) ?_
  intro p e s m below meth c A QQ ls C0 hret hl hP
  have hx := C0.1
  have hb := C0.2.1
  have hown := C0.2.2.2.1
  have htb := C0.2.2.2.2.1
  have hl : lv_has ls 4 [(0, .ref (ad 65)), (1, .int (iI a1))] := hl
  refine (fun (key : ∀ (H : Heap) (locs : List Loc), wP D cA ad sg H → va_S (wA ad) s.heap H locs → W p l e (rmL 1) s m A below meth c H locs 0 0 QQ (F0 m 0 ls [])) => key _ _ hP va_S.rf) ?_
  intro H locs hP hS
  unfold wp_X12_placeOf at hw
  refine lv_iconst (v := iI (-1)) hx hb dX12_placeOf_0 rfl ?_
  refine lv_istore_n (lv' := [(2, .int (iI (-1))), (0, .ref (ad 65)), (1, .int (iI a1))]) hx hb dX12_placeOf_1 rfl hl (by decide) rfl (fun ls hl => ?_)
  refine lv_iconst (v := iI 0) hx hb dX12_placeOf_2 rfl ?_
  refine lv_istore_n (lv' := [(3, .int (iI 0)), (2, .int (iI (-1))), (0, .ref (ad 65)), (1, .int (iI a1))]) hx hb dX12_placeOf_3 rfl hl (by decide) rfl (fun ls hl => ?_)
  obtain ⟨I4, hI4, hw⟩ := hw
  have kI4 : ∀ (k4 : Nat) (y2_1 : Int) (y3_2 : Int) (H : Heap) (locs : List Loc) (ls : Array Slot), wP D cA ad sg H → va_S (wA ad) s.heap H locs → lv_has ls 4 [(0, .ref (ad 65)), (1, .int (iI a1)), (2, .int (iI y2_1)), (3, .int (iI y3_2))] → I4 k4 y2_1 y3_2 → W p l e (rmL 1) s m A below meth c H locs 0 0 QQ (F0 m 4 ls []) := by
    intro k4
    induction k4 using Nat.strongRecOn with
    | _ k4 ih4 =>
      intro y2_1 y3_2 H locs ls hP hS hl hw
      have hw := hI4 k4 y2_1 y3_2 hw
      refine lv_iload_n hx hb dX12_placeOf_4 rfl (lv_at hl 3 rfl) ?_
      refine lv_aload_n hx hb dX12_placeOf_5 rfl (lv_at hl 0 rfl) ?_
      refine wk_getR 67 C0 fl_X12_13 hP (by decide) sh_65 rfl dX12_placeOf_6 ?_
      refine lv_iconst (v := iI 0) hx hb dX12_placeOf_9 rfl ?_
      refine wk_iald C0 hP (by decide) sh_67 (by decide) (by decide) (by decide) dX12_placeOf_10 ?_
      rw [show (0 : Int).toNat = 0 from rfl]
      have q3 := hw.1
      have hw := hw.2
      have q4 := hw.1
      have hw := hw.2
      refine wk_icmp_ge hx hb q3 q4 (tgt := 38) dX12_placeOf_11 (by decide) (fun hh => ?_) (fun hh => ?_)
      · have hw := hw.1 hh
        refine lv_iload_n hx hb dX12_placeOf_38 rfl (lv_at hl 2 rfl) ?_
        exact hret _ _ _ _ _ _ ⟨rfl, hw⟩ hP hS dX12_placeOf_39
      · have hw := hw.2 hh
        refine lv_aload_n hx hb dX12_placeOf_14 rfl (lv_at hl 0 rfl) ?_
        refine wk_getR 69 C0 fl_X12_19 hP (by decide) sh_65 rfl dX12_placeOf_15 ?_
        refine lv_iconst (v := iI 1) hx hb dX12_placeOf_18 rfl ?_
        refine lv_iload_n hx hb dX12_placeOf_19 rfl (lv_at hl 3 rfl) ?_
        refine wk_iadd hx hb dX12_placeOf_20 ?_
        have q5 := hw.1
        have hw := hw.2
        refine wk_iald C0 hP (by decide) sh_69 q5.1 q5.2 (by decide) dX12_placeOf_21 ?_
        refine lv_iload_n hx hb dX12_placeOf_22 rfl (lv_at hl 1 rfl) ?_
        have q6 := hw.1
        have hw := hw.2
        have q7 := hw.1
        have hw := hw.2
        have kX31 : ∀ v8 : Int, v8 = (if sg 69 (1 + y3_2).toNat = a1 then y3_2 else y2_1) → ∀ (ls : Array Slot), lv_has ls 4 [(0, .ref (ad 65)), (1, .int (iI a1)), (3, .int (iI y3_2))] → W p l e (rmL 1) s m A below meth c H locs 0 0 QQ (F0 m 31 ls [.int (iI v8)]) := by
          intro v8 ev8 ls hl
          have hw := hw v8 ev8
          refine lv_istore_n (lv' := [(2, .int (iI v8)), (0, .ref (ad 65)), (1, .int (iI a1)), (3, .int (iI y3_2))]) hx hb dX12_placeOf_31 rfl hl (by decide) rfl (fun ls hl => ?_)
          refine wk_iinc (lv' := fun x3_9 => [(3, .int (iI x3_9)), (2, .int (iI v8)), (0, .ref (ad 65)), (1, .int (iI a1))]) hx hb dX12_placeOf_32 hl (k := 3) rfl (by decide) (fun _ => rfl) (fun x3_9 ls ex3_9 hl => ?_)
          have hw := hw x3_9 ex3_9
          refine lv_goto (tgt := 4) hx hb dX12_placeOf_35 (by decide) ?_
          obtain ⟨k10, hk10, hw⟩ := hw
          exact ih4 k10 hk10 v8 x3_9 _ _ _ hP hS (lv_sub hl [2, 3, 1, 0] rfl) hw
        refine wk_icmp_ne hx hb q6 q7 (tgt := 30) dX12_placeOf_23 (by decide) (fun hh11 => ?_) (fun hh11 => ?_)
        · refine lv_iload_n hx hb dX12_placeOf_30 rfl (lv_at hl 2 rfl) ?_
          exact kX31 y2_1 (by rw [if_neg hh11]) ls (lv_sub hl [0, 1, 3] rfl)
        · refine lv_iload_n hx hb dX12_placeOf_26 rfl (lv_at hl 3 rfl) ?_
          refine lv_goto (tgt := 31) hx hb dX12_placeOf_27 (by decide) ?_
          exact kX31 y3_2 (by rw [if_pos hh11]) ls (lv_sub hl [0, 1, 3] rfl)
  obtain ⟨k12, hw⟩ := hw
  exact kI4 k12 (-1) 0 _ _ _ hP hS (lv_sub hl [2, 3, 1, 0] rfl) hw

set_option maxRecDepth 100000 in
set_option maxHeartbeats 4000000 in
theorem ok_X12_inBed {l : Launch} {D : va_G} {cA : Nat → ClassId} {ad : Nat → Nat} (hI : wI ad) {sg : Mem} {Q : Int → Prop} (hw : wp_X12_inBed sg Q) : wMi l D cA ad yX12_inBed cX12_inBed 3 (some .int) 1 [.ref (ad 65)] sg (fun z u => u = sg ∧ Q z) := by
  refine wk_ofI (by decide) hI (Nat.le_of_ble_eq_true rfl) ?_
  intro p e s m below meth c A QQ ls C0 hret hl hP
  have hx := C0.1
  have hb := C0.2.1
  have hown := C0.2.2.2.1
  have htb := C0.2.2.2.2.1
  have hl : lv_has ls 3 [(0, .ref (ad 65))] := hl
  refine (fun (key : ∀ (H : Heap) (locs : List Loc), wP D cA ad sg H → va_S (wA ad) s.heap H locs → W p l e (rmL 1) s m A below meth c H locs 0 0 QQ (F0 m 0 ls [])) => key _ _ hP va_S.rf) ?_
  intro H locs hP hS
  unfold wp_X12_inBed at hw
  refine lv_iconst (v := iI 0) hx hb dX12_inBed_0 rfl ?_
  refine lv_istore_n (lv' := [(1, .int (iI 0)), (0, .ref (ad 65))]) hx hb dX12_inBed_1 rfl hl (by decide) rfl (fun ls hl => ?_)
  refine lv_iconst (v := iI 0) hx hb dX12_inBed_2 rfl ?_
  refine lv_istore_n (lv' := [(2, .int (iI 0)), (1, .int (iI 0)), (0, .ref (ad 65))]) hx hb dX12_inBed_3 rfl hl (by decide) rfl (fun ls hl => ?_)
  obtain ⟨I4, hI4, hw⟩ := hw
  have kI4 : ∀ (k4 : Nat) (y1_1 : Int) (y2_2 : Int) (H : Heap) (locs : List Loc) (ls : Array Slot), wP D cA ad sg H → va_S (wA ad) s.heap H locs → lv_has ls 3 [(0, .ref (ad 65)), (1, .int (iI y1_1)), (2, .int (iI y2_2))] → I4 k4 y1_1 y2_2 → W p l e (rmL 1) s m A below meth c H locs 0 0 QQ (F0 m 4 ls []) := by
    intro k4
    induction k4 using Nat.strongRecOn with
    | _ k4 ih4 =>
      intro y1_1 y2_2 H locs ls hP hS hl hw
      have hw := hI4 k4 y1_1 y2_2 hw
      refine lv_iload_n hx hb dX12_inBed_4 rfl (lv_at hl 2 rfl) ?_
      refine lv_aload_n hx hb dX12_inBed_5 rfl (lv_at hl 0 rfl) ?_
      refine wk_getR 67 C0 fl_X12_13 hP (by decide) sh_65 rfl dX12_inBed_6 ?_
      refine lv_iconst (v := iI 0) hx hb dX12_inBed_9 rfl ?_
      refine wk_iald C0 hP (by decide) sh_67 (by decide) (by decide) (by decide) dX12_inBed_10 ?_
      rw [show (0 : Int).toNat = 0 from rfl]
      have q3 := hw.1
      have hw := hw.2
      have q4 := hw.1
      have hw := hw.2
      refine wk_icmp_ge hx hb q3 q4 (tgt := 49) dX12_inBed_11 (by decide) (fun hh => ?_) (fun hh => ?_)
      · have hw := hw.1 hh
        refine lv_iload_n hx hb dX12_inBed_49 rfl (lv_at hl 1 rfl) ?_
        exact hret _ _ _ _ _ _ ⟨rfl, hw⟩ hP hS dX12_inBed_50
      · have hw := hw.2 hh
        refine lv_iload_n hx hb dX12_inBed_14 rfl (lv_at hl 1 rfl) ?_
        refine lv_aload_n hx hb dX12_inBed_15 rfl (lv_at hl 0 rfl) ?_
        refine wk_getR 69 C0 fl_X12_19 hP (by decide) sh_65 rfl dX12_inBed_16 ?_
        refine lv_iconst (v := iI 1) hx hb dX12_inBed_19 rfl ?_
        refine lv_iload_n hx hb dX12_inBed_20 rfl (lv_at hl 2 rfl) ?_
        refine wk_iadd hx hb dX12_inBed_21 ?_
        have q5 := hw.1
        have hw := hw.2
        refine wk_iald C0 hP (by decide) sh_69 q5.1 q5.2 (by decide) dX12_inBed_22 ?_
        refine lv_iconst (v := iI (-1)) hx hb dX12_inBed_23 rfl ?_
        have q6 := hw.1
        have hw := hw.2
        have kX41 : ∀ v7 : Int, v7 = (if sg 69 (1 + y2_2).toNat = (-1) then 0 else zshl 1 (sg 69 (1 + y2_2).toNat)) → ∀ (ls : Array Slot), lv_has ls 3 [(0, .ref (ad 65)), (2, .int (iI y2_2))] → W p l e (rmL 1) s m A below meth c H locs 0 0 QQ (F0 m 41 ls [.int (iI v7), .int (iI y1_1)]) := by
          intro v7 ev7 ls hl
          have hw := hw v7 ev7
          refine wk_ior hx hb dX12_inBed_41 ?_
          refine wk_top (fun x1_8 ex1_8 => ?_)
          have hw := hw x1_8 ex1_8
          refine lv_istore_n (lv' := [(1, .int (iI x1_8)), (0, .ref (ad 65)), (2, .int (iI y2_2))]) hx hb dX12_inBed_42 rfl hl (by decide) rfl (fun ls hl => ?_)
          refine wk_iinc (lv' := fun x2_9 => [(2, .int (iI x2_9)), (1, .int (iI x1_8)), (0, .ref (ad 65))]) hx hb dX12_inBed_43 hl (k := 2) rfl (by decide) (fun _ => rfl) (fun x2_9 ls ex2_9 hl => ?_)
          have hw := hw x2_9 ex2_9
          refine lv_goto (tgt := 4) hx hb dX12_inBed_46 (by decide) ?_
          obtain ⟨k10, hk10, hw⟩ := hw
          exact ih4 k10 hk10 x1_8 x2_9 _ _ _ hP hS (lv_sub hl [2, 1, 0] rfl) hw
        refine wk_icmp_ne hx hb q6 ⟨by decide, by decide⟩ (tgt := 31) dX12_inBed_24 (by decide) (fun hh11 => ?_) (fun hh11 => ?_)
        · refine lv_iconst (v := iI 1) hx hb dX12_inBed_31 rfl ?_
          refine lv_aload_n hx hb dX12_inBed_32 rfl (lv_at hl 0 rfl) ?_
          refine wk_getR 69 C0 fl_X12_19 hP (by decide) sh_65 rfl dX12_inBed_33 ?_
          refine lv_iconst (v := iI 1) hx hb dX12_inBed_36 rfl ?_
          refine lv_iload_n hx hb dX12_inBed_37 rfl (lv_at hl 2 rfl) ?_
          refine wk_iadd hx hb dX12_inBed_38 ?_
          refine wk_iald C0 hP (by decide) sh_69 q5.1 q5.2 (by decide) dX12_inBed_39 ?_
          refine wk_ishl hx hb dX12_inBed_40 ?_
          exact kX41 (zshl 1 (sg 69 (1 + y2_2).toNat)) (by rw [if_neg hh11]) ls (lv_sub hl [0, 2] rfl)
        · refine lv_iconst (v := iI 0) hx hb dX12_inBed_27 rfl ?_
          refine lv_goto (tgt := 41) hx hb dX12_inBed_28 (by decide) ?_
          exact kX41 0 (by rw [if_pos hh11]) ls (lv_sub hl [0, 2] rfl)
  obtain ⟨k12, hw⟩ := hw
  exact kI4 k12 0 0 _ _ _ hP hS (lv_sub hl [2, 1, 0] rfl) hw

set_option maxRecDepth 100000 in
set_option maxHeartbeats 4000000 in
theorem ok_X12_more {l : Launch} {D : va_G} {cA : Nat → ClassId} {ad : Nat → Nat} (hI : wI ad) {a1 : Int} {sg : Mem} {Q : Int → Prop} (hw : wp_X12_more a1 sg Q) : wMi l D cA ad yX12_more cX12_more 2 (some .int) 1 [.ref (ad 65), .int (iI a1)] sg (fun z u => u = sg ∧ Q z) := by
  refine wk_ofI (by decide) hI (Nat.le_of_ble_eq_true rfl) ?_
  intro p e s m below meth c A QQ ls C0 hret hl hP
  have hx := C0.1
  have hb := C0.2.1
  have hown := C0.2.2.2.1
  have htb := C0.2.2.2.2.1
  have hl : lv_has ls 2 [(0, .ref (ad 65)), (1, .int (iI a1))] := hl
  refine (fun (key : ∀ (H : Heap) (locs : List Loc), wP D cA ad sg H → va_S (wA ad) s.heap H locs → W p l e (rmL 1) s m A below meth c H locs 0 0 QQ (F0 m 0 ls [])) => key _ _ hP va_S.rf) ?_
  intro H locs hP hS
  unfold wp_X12_more at hw
  refine lv_aload_n hx hb dX12_more_0 rfl (lv_at hl 0 rfl) ?_
  refine wk_getR 69 C0 fl_X12_19 hP (by decide) sh_65 rfl dX12_more_1 ?_
  refine lv_bipush (v := iI 7) hx hb dX12_more_4 (by decide +kernel) ?_
  refine lv_iload_n hx hb dX12_more_6 rfl (lv_at hl 1 rfl) ?_
  refine wk_iadd hx hb dX12_more_7 ?_
  have q1 := hw.1
  have hw := hw.2
  refine wk_iald C0 hP (by decide) sh_69 q1.1 q1.2 (by decide) dX12_more_8 ?_
  refine lv_aload_n hx hb dX12_more_9 rfl (lv_at hl 0 rfl) ?_
  refine wk_getR 67 C0 fl_X12_13 hP (by decide) sh_65 rfl dX12_more_10 ?_
  refine lv_bipush (v := iI 12) hx hb dX12_more_13 (by decide +kernel) ?_
  refine lv_iconst (v := iI 4) hx hb dX12_more_15 rfl ?_
  refine lv_iload_n hx hb dX12_more_16 rfl (lv_at hl 1 rfl) ?_
  refine wk_imul hx hb dX12_more_17 ?_
  refine wk_iadd hx hb dX12_more_18 ?_
  refine lv_iconst (v := iI 3) hx hb dX12_more_19 rfl ?_
  refine wk_iadd hx hb dX12_more_20 ?_
  have q2 := hw.1
  have hw := hw.2
  refine wk_iald C0 hP (by decide) sh_67 q2.1 q2.2 (by decide) dX12_more_21 ?_
  refine wk_isub hx hb dX12_more_22 ?_
  exact hret _ _ _ _ _ _ ⟨rfl, hw⟩ hP hS dX12_more_23

set_option maxRecDepth 100000 in
set_option maxHeartbeats 4000000 in
theorem ok_X12_awake {l : Launch} {D : va_G} {cA : Nat → ClassId} {ad : Nat → Nat} (hI : wI ad) {sg : Mem} {Q : Int → Prop} (hw : wp_X12_awake sg Q) : wMi l D cA ad yX12_awake cX12_awake 3 (some .int) 2 [.ref (ad 65)] sg (fun z u => u = sg ∧ Q z) := by
  refine wk_ofI (by decide) hI (Nat.le_of_ble_eq_true rfl) ?_
  intro p e s m below meth c A QQ ls C0 hret hl hP
  have hx := C0.1
  have hb := C0.2.1
  have hown := C0.2.2.2.1
  have htb := C0.2.2.2.2.1
  have hl : lv_has ls 3 [(0, .ref (ad 65))] := hl
  refine (fun (key : ∀ (H : Heap) (locs : List Loc), wP D cA ad sg H → va_S (wA ad) s.heap H locs → W p l e (rmL 2) s m A below meth c H locs 0 0 QQ (F0 m 0 ls [])) => key _ _ hP va_S.rf) ?_
  intro H locs hP hS
  unfold wp_X12_awake at hw
  refine lv_iconst (v := iI 0) hx hb dX12_awake_0 rfl ?_
  refine lv_istore_n (lv' := [(1, .int (iI 0)), (0, .ref (ad 65))]) hx hb dX12_awake_1 rfl hl (by decide) rfl (fun ls hl => ?_)
  refine lv_iconst (v := iI 0) hx hb dX12_awake_2 rfl ?_
  refine lv_istore_n (lv' := [(2, .int (iI 0)), (1, .int (iI 0)), (0, .ref (ad 65))]) hx hb dX12_awake_3 rfl hl (by decide) rfl (fun ls hl => ?_)
  obtain ⟨I4, hI4, hw⟩ := hw
  have kI4 : ∀ (k4 : Nat) (y1_1 : Int) (y2_2 : Int) (H : Heap) (locs : List Loc) (ls : Array Slot), wP D cA ad sg H → va_S (wA ad) s.heap H locs → lv_has ls 3 [(0, .ref (ad 65)), (1, .int (iI y1_1)), (2, .int (iI y2_2))] → I4 k4 y1_1 y2_2 → W p l e (rmL 2) s m A below meth c H locs 0 0 QQ (F0 m 4 ls []) := by
    intro k4
    induction k4 using Nat.strongRecOn with
    | _ k4 ih4 =>
      intro y1_1 y2_2 H locs ls hP hS hl hw
      have hw := hI4 k4 y1_1 y2_2 hw
      refine lv_iload_n hx hb dX12_awake_4 rfl (lv_at hl 2 rfl) ?_
      refine lv_aload_n hx hb dX12_awake_5 rfl (lv_at hl 0 rfl) ?_
      refine wk_getR 67 C0 fl_X12_13 hP (by decide) sh_65 rfl dX12_awake_6 ?_
      refine lv_iconst (v := iI 2) hx hb dX12_awake_9 rfl ?_
      refine wk_iald C0 hP (by decide) sh_67 (by decide) (by decide) (by decide) dX12_awake_10 ?_
      rw [show (2 : Int).toNat = 2 from rfl]
      have q3 := hw.1
      have hw := hw.2
      have q4 := hw.1
      have hw := hw.2
      refine wk_icmp_ge hx hb q3 q4 (tgt := 50) dX12_awake_11 (by decide) (fun hh => ?_) (fun hh => ?_)
      · have hw := hw.1 hh
        refine lv_iload_n hx hb dX12_awake_50 rfl (lv_at hl 1 rfl) ?_
        exact hret _ _ _ _ _ _ ⟨rfl, hw⟩ hP hS dX12_awake_51
      · have hw := hw.2 hh
        refine lv_iload_n hx hb dX12_awake_14 rfl (lv_at hl 1 rfl) ?_
        refine lv_aload_n hx hb dX12_awake_15 rfl (lv_at hl 0 rfl) ?_
        refine wk_rip (wk_callV (rest := [.int (iI y1_1)]) C0 cl_X12_122 (ok_X12_inBed hI hw) hP (by decide) sh_65 rfl rfl rfl (Nat.le_of_ble_eq_true rfl) (wk_room (by decide) (by decide)) hl.1 dX12_awake_16 ⟨Nat.le_refl _, Nat.le_refl _⟩) hS (fun r5 H locs hw hP hS => ?_)
        refine lv_iload_n hx hb dX12_awake_19 rfl (lv_at hl 2 rfl) ?_
        refine wk_ishr hx hb dX12_awake_20 ?_
        refine lv_iconst (v := iI 1) hx hb dX12_awake_21 rfl ?_
        refine wk_iand hx hb dX12_awake_22 ?_
        refine lv_iconst (v := iI 1) hx hb dX12_awake_23 rfl ?_
        have q6 := hw.1
        have hw := hw.2
        obtain ⟨X42, hX42, hw⟩ := hw
        have kX42 : ∀ (v7 : Int) (H : Heap) (locs : List Loc) (ls : Array Slot), wP D cA ad sg H → va_S (wA ad) s.heap H locs → lv_has ls 3 [(0, .ref (ad 65)), (2, .int (iI y2_2))] → X42 v7 → W p l e (rmL 2) s m A below meth c H locs 0 0 QQ (F0 m 42 ls [.int (iI v7), .int (iI y1_1)]) := by
          intro v7 H locs ls hP hS hl hw
          have hw := hX42 v7 hw
          refine wk_ior hx hb dX12_awake_42 ?_
          refine wk_top (fun x1_8 ex1_8 => ?_)
          have hw := hw x1_8 ex1_8
          refine lv_istore_n (lv' := [(1, .int (iI x1_8)), (0, .ref (ad 65)), (2, .int (iI y2_2))]) hx hb dX12_awake_43 rfl hl (by decide) rfl (fun ls hl => ?_)
          refine wk_iinc (lv' := fun x2_9 => [(2, .int (iI x2_9)), (1, .int (iI x1_8)), (0, .ref (ad 65))]) hx hb dX12_awake_44 hl (k := 2) rfl (by decide) (fun _ => rfl) (fun x2_9 ls ex2_9 hl => ?_)
          have hw := hw x2_9 ex2_9
          refine lv_goto (tgt := 4) hx hb dX12_awake_47 (by decide) ?_
          obtain ⟨k10, hk10, hw⟩ := hw
          exact ih4 k10 hk10 x1_8 x2_9 _ _ _ hP hS (lv_sub hl [2, 1, 0] rfl) hw
        obtain ⟨X41, hX41, hw⟩ := hw
        have kX41 : ∀ (H : Heap) (locs : List Loc) (ls : Array Slot), wP D cA ad sg H → va_S (wA ad) s.heap H locs → lv_has ls 3 [(0, .ref (ad 65)), (2, .int (iI y2_2))] → X41 → W p l e (rmL 2) s m A below meth c H locs 0 0 QQ (F0 m 41 ls [.int (iI y1_1)]) := by
          intro H locs ls hP hS hl hw
          have hw := hX41 hw
          refine lv_iconst (v := iI 0) hx hb dX12_awake_41 rfl ?_
          exact kX42 0 _ _ _ hP hS (lv_sub hl [0, 1] rfl) hw
        refine wk_icmp_ne hx hb q6 ⟨by decide, by decide⟩ (tgt := 41) dX12_awake_24 (by decide) (fun hh => ?_) (fun hh => ?_)
        · have hw := hw.2 hh
          exact kX41  _ _ _ hP hS (lv_sub hl [0, 2] rfl) hw
        · have hw := hw.1 hh
          refine lv_aload_n hx hb dX12_awake_27 rfl (lv_at hl 0 rfl) ?_
          refine lv_iload_n hx hb dX12_awake_28 rfl (lv_at hl 2 rfl) ?_
          refine wk_rip (wk_callV (rest := [.int (iI y1_1)]) C0 cl_X12_125 (ok_X12_more hI hw) hP (by decide) sh_65 rfl rfl rfl (Nat.le_of_ble_eq_true rfl) (wk_room (by decide) (by decide)) hl.1 dX12_awake_29 ⟨Nat.le_refl _, Nat.le_refl _⟩) hS (fun r11 H locs hw hP hS => ?_)
          have q12 := hw.1
          have hw := hw.2
          refine wk_if_gt hx hb q12 (tgt := 41) dX12_awake_32 (by decide) (fun hh => ?_) (fun hh => ?_)
          · have hw := hw.1 hh
            exact kX41  _ _ _ hP hS (lv_sub hl [0, 2] rfl) hw
          · have hw := hw.2 hh
            refine lv_iconst (v := iI 1) hx hb dX12_awake_35 rfl ?_
            refine lv_iload_n hx hb dX12_awake_36 rfl (lv_at hl 2 rfl) ?_
            refine wk_ishl hx hb dX12_awake_37 ?_
            refine lv_goto (tgt := 42) hx hb dX12_awake_38 (by decide) ?_
            exact kX42 (zshl 1 y2_2) _ _ _ hP hS (lv_sub hl [0, 2] rfl) hw
  obtain ⟨k13, hw⟩ := hw
  exact kI4 k13 0 0 _ _ _ hP hS (lv_sub hl [2, 1, 0] rfl) hw

set_option maxRecDepth 100000 in
set_option maxHeartbeats 4000000 in
theorem ok_X12_coldest {l : Launch} {D : va_G} {cA : Nat → ClassId} {ad : Nat → Nat} (hI : wI ad) {sg : Mem} {Q : Int → Prop} (hw : wp_X12_coldest sg Q) : wMi l D cA ad yX12_coldest cX12_coldest 4 (some .int) 2 [.ref (ad 65)] sg (fun z u => u = sg ∧ Q z) := by
  refine wk_ofI (by decide) hI (Nat.le_of_ble_eq_true rfl) ?_
  intro p e s m below meth c A QQ ls C0 hret hl hP
  have hx := C0.1
  have hb := C0.2.1
  have hown := C0.2.2.2.1
  have htb := C0.2.2.2.2.1
  have hl : lv_has ls 4 [(0, .ref (ad 65))] := hl
  refine (fun (key : ∀ (H : Heap) (locs : List Loc), wP D cA ad sg H → va_S (wA ad) s.heap H locs → W p l e (rmL 2) s m A below meth c H locs 0 0 QQ (F0 m 0 ls [])) => key _ _ hP va_S.rf) ?_
  intro H locs hP hS
  unfold wp_X12_coldest at hw
  refine lv_iconst (v := iI (-1)) hx hb dX12_coldest_0 rfl ?_
  refine lv_istore_n (lv' := [(1, .int (iI (-1))), (0, .ref (ad 65))]) hx hb dX12_coldest_1 rfl hl (by decide) rfl (fun ls hl => ?_)
  refine lv_iconst (v := iI 0) hx hb dX12_coldest_2 rfl ?_
  refine lv_istore_n (lv' := [(2, .int (iI 0)), (1, .int (iI (-1))), (0, .ref (ad 65))]) hx hb dX12_coldest_3 rfl hl (by decide) rfl (fun ls hl => ?_)
  obtain ⟨I4, hI4, hw⟩ := hw
  have kI4 : ∀ (k4 : Nat) (y1_1 : Int) (y2_2 : Int) (H : Heap) (locs : List Loc) (ls : Array Slot), wP D cA ad sg H → va_S (wA ad) s.heap H locs → lv_has ls 4 [(0, .ref (ad 65)), (1, .int (iI y1_1)), (2, .int (iI y2_2))] → I4 k4 y1_1 y2_2 → W p l e (rmL 2) s m A below meth c H locs 0 0 QQ (F0 m 4 ls []) := by
    intro k4
    induction k4 using Nat.strongRecOn with
    | _ k4 ih4 =>
      intro y1_1 y2_2 H locs ls hP hS hl hw
      have hw := hI4 k4 y1_1 y2_2 hw
      refine lv_iload_n hx hb dX12_coldest_4 rfl (lv_at hl 2 rfl) ?_
      refine lv_aload_n hx hb dX12_coldest_5 rfl (lv_at hl 0 rfl) ?_
      refine wk_getR 67 C0 fl_X12_13 hP (by decide) sh_65 rfl dX12_coldest_6 ?_
      refine lv_iconst (v := iI 2) hx hb dX12_coldest_9 rfl ?_
      refine wk_iald C0 hP (by decide) sh_67 (by decide) (by decide) (by decide) dX12_coldest_10 ?_
      rw [show (2 : Int).toNat = 2 from rfl]
      have q3 := hw.1
      have hw := hw.2
      have q4 := hw.1
      have hw := hw.2
      refine wk_icmp_ge hx hb q3 q4 (tgt := 72) dX12_coldest_11 (by decide) (fun hh => ?_) (fun hh => ?_)
      · have hw := hw.1 hh
        refine lv_iload_n hx hb dX12_coldest_72 rfl (lv_at hl 1 rfl) ?_
        exact hret _ _ _ _ _ _ ⟨rfl, hw⟩ hP hS dX12_coldest_73
      · have hw := hw.2 hh
        refine lv_aload_n hx hb dX12_coldest_14 rfl (lv_at hl 0 rfl) ?_
        refine wk_rip (wk_callV (rest := []) C0 cl_X12_122 (ok_X12_inBed hI hw) hP (by decide) sh_65 rfl rfl rfl (Nat.le_of_ble_eq_true rfl) (wk_room (by decide) (by decide)) hl.1 dX12_coldest_15 ⟨Nat.le_refl _, Nat.le_refl _⟩) hS (fun r5 H locs hw hP hS => ?_)
        refine lv_iload_n hx hb dX12_coldest_18 rfl (lv_at hl 2 rfl) ?_
        refine wk_ishr hx hb dX12_coldest_19 ?_
        refine lv_iconst (v := iI 1) hx hb dX12_coldest_20 rfl ?_
        refine wk_iand hx hb dX12_coldest_21 ?_
        refine lv_iconst (v := iI 1) hx hb dX12_coldest_22 rfl ?_
        have q6 := hw.1
        have hw := hw.2
        obtain ⟨X48, hX48, hw⟩ := hw
        have kX48 : ∀ (v7 : Int) (H : Heap) (locs : List Loc) (ls : Array Slot), wP D cA ad sg H → va_S (wA ad) s.heap H locs → lv_has ls 4 [(0, .ref (ad 65)), (1, .int (iI y1_1)), (2, .int (iI y2_2))] → X48 v7 → W p l e (rmL 2) s m A below meth c H locs 0 0 QQ (F0 m 48 ls [.int (iI v7)]) := by
          intro v7 H locs ls hP hS hl hw
          have hw := hX48 v7 hw
          refine lv_istore_n (lv' := [(3, .int (iI v7)), (0, .ref (ad 65)), (1, .int (iI y1_1)), (2, .int (iI y2_2))]) hx hb dX12_coldest_48 rfl hl (by decide) rfl (fun ls hl => ?_)
          refine lv_iload_n hx hb dX12_coldest_49 rfl (lv_at hl 0 rfl) ?_
          have q8 := hw.1
          have hw := hw.2
          obtain ⟨X65, hX65, hw⟩ := hw
          have kX65 : ∀ (v9 : Int) (H : Heap) (locs : List Loc) (ls : Array Slot), wP D cA ad sg H → va_S (wA ad) s.heap H locs → lv_has ls 4 [(0, .ref (ad 65)), (2, .int (iI y2_2))] → X65 v9 → W p l e (rmL 2) s m A below meth c H locs 0 0 QQ (F0 m 65 ls [.int (iI v9)]) := by
            intro v9 H locs ls hP hS hl hw
            have hw := hX65 v9 hw
            refine lv_istore_n (lv' := [(1, .int (iI v9)), (0, .ref (ad 65)), (2, .int (iI y2_2))]) hx hb dX12_coldest_65 rfl hl (by decide) rfl (fun ls hl => ?_)
            refine wk_iinc (lv' := fun x2_10 => [(2, .int (iI x2_10)), (1, .int (iI v9)), (0, .ref (ad 65))]) hx hb dX12_coldest_66 hl (k := 2) rfl (by decide) (fun _ => rfl) (fun x2_10 ls ex2_10 hl => ?_)
            have hw := hw x2_10 ex2_10
            refine lv_goto (tgt := 4) hx hb dX12_coldest_69 (by decide) ?_
            obtain ⟨k11, hk11, hw⟩ := hw
            exact ih4 k11 hk11 v9 x2_10 _ _ _ hP hS (lv_sub hl [2, 1, 0] rfl) hw
          refine wk_if_eq hx hb q8 (tgt := 64) dX12_coldest_50 (by decide) (fun hh => ?_) (fun hh => ?_)
          · have hw := hw.1 hh
            refine lv_iload_n hx hb dX12_coldest_64 rfl (lv_at hl 2 rfl) ?_
            exact kX65 y1_1 _ _ _ hP hS (lv_sub hl [1, 3] rfl) hw
          · have hw := hw.2 hh
            refine lv_bipush (v := iI 100) hx hb dX12_coldest_53 (by decide +kernel) ?_
            refine lv_aload_n hx hb dX12_coldest_55 rfl (lv_at hl 1 rfl) ?_
            refine lv_iload_n hx hb dX12_coldest_56 rfl (lv_at hl 3 rfl) ?_
            refine wk_rip (wk_callV (rest := [.int (iI 100)]) C0 cl_X12_125 (ok_X12_more hI hw) hP (by decide) sh_65 rfl rfl rfl (Nat.le_of_ble_eq_true rfl) (wk_room (by decide) (by decide)) hl.1 dX12_coldest_57 ⟨Nat.le_refl _, Nat.le_refl _⟩) hS (fun r12 H locs hw hP hS => ?_)
            refine wk_iadd hx hb dX12_coldest_60 ?_
            refine lv_goto (tgt := 65) hx hb dX12_coldest_61 (by decide) ?_
            exact kX65 (100 + r12) _ _ _ hP hS (lv_sub hl [1, 3] rfl) hw
        obtain ⟨X47, hX47, hw⟩ := hw
        have kX47 : ∀ (H : Heap) (locs : List Loc) (ls : Array Slot), wP D cA ad sg H → va_S (wA ad) s.heap H locs → lv_has ls 4 [(0, .ref (ad 65)), (1, .int (iI y1_1)), (2, .int (iI y2_2))] → X47 → W p l e (rmL 2) s m A below meth c H locs 0 0 QQ (F0 m 47 ls []) := by
          intro H locs ls hP hS hl hw
          have hw := hX47 hw
          refine lv_iconst (v := iI 0) hx hb dX12_coldest_47 rfl ?_
          exact kX48 0 _ _ _ hP hS (lv_sub hl [0, 1, 2] rfl) hw
        refine wk_icmp_ne hx hb q6 ⟨by decide, by decide⟩ (tgt := 47) dX12_coldest_23 (by decide) (fun hh => ?_) (fun hh => ?_)
        · have hw := hw.2 hh
          exact kX47  _ _ _ hP hS (lv_sub hl [0, 1, 2] rfl) hw
        · have hw := hw.1 hh
          refine lv_iload_n hx hb dX12_coldest_26 rfl (lv_at hl 1 rfl) ?_
          refine lv_iconst (v := iI (-1)) hx hb dX12_coldest_27 rfl ?_
          have q13 := hw.1
          have hw := hw.2
          obtain ⟨X43, hX43, hw⟩ := hw
          have kX43 : ∀ (H : Heap) (locs : List Loc) (ls : Array Slot), wP D cA ad sg H → va_S (wA ad) s.heap H locs → lv_has ls 4 [(0, .ref (ad 65)), (1, .int (iI y1_1)), (2, .int (iI y2_2))] → X43 → W p l e (rmL 2) s m A below meth c H locs 0 0 QQ (F0 m 43 ls []) := by
            intro H locs ls hP hS hl hw
            have hw := hX43 hw
            refine lv_iconst (v := iI 1) hx hb dX12_coldest_43 rfl ?_
            refine lv_goto (tgt := 48) hx hb dX12_coldest_44 (by decide) ?_
            exact kX48 1 _ _ _ hP hS (lv_sub hl [0, 1, 2] rfl) hw
          refine wk_icmp_eq hx hb q13 ⟨by decide, by decide⟩ (tgt := 43) dX12_coldest_28 (by decide) (fun hh => ?_) (fun hh => ?_)
          · have hw := hw.1 hh
            exact kX43  _ _ _ hP hS (lv_sub hl [0, 1, 2] rfl) hw
          · have hw := hw.2 hh
            refine lv_bipush (v := iI 100) hx hb dX12_coldest_31 (by decide +kernel) ?_
            refine lv_aload_n hx hb dX12_coldest_33 rfl (lv_at hl 0 rfl) ?_
            refine lv_iload_n hx hb dX12_coldest_34 rfl (lv_at hl 2 rfl) ?_
            refine wk_rip (wk_callV (rest := [.int (iI 100)]) C0 cl_X12_125 (ok_X12_more hI hw) hP (by decide) sh_65 rfl rfl rfl (Nat.le_of_ble_eq_true rfl) (wk_room (by decide) (by decide)) hl.1 dX12_coldest_35 ⟨Nat.le_refl _, Nat.le_refl _⟩) hS (fun r14 H locs hw hP hS => ?_)
            refine wk_iadd hx hb dX12_coldest_38 ?_
            refine lv_iload_n hx hb dX12_coldest_39 rfl (lv_at hl 1 rfl) ?_
            have q15 := hw.1
            have hw := hw.2
            refine wk_icmp_ge hx hb q15 q13 (tgt := 47) dX12_coldest_40 (by decide) (fun hh => ?_) (fun hh => ?_)
            · have hw := hw.1 hh
              exact kX47  _ _ _ hP hS (lv_sub hl [0, 1, 2] rfl) hw
            · have hw := hw.2 hh
              exact kX43  _ _ _ hP hS (lv_sub hl [0, 1, 2] rfl) hw
  obtain ⟨k16, hw⟩ := hw
  exact kI4 k16 (-1) 0 _ _ _ hP hS (lv_sub hl [2, 1, 0] rfl) hw

set_option maxRecDepth 100000 in
set_option maxHeartbeats 4000000 in
theorem ok_X12_turns {l : Launch} {D : va_G} {cA : Nat → ClassId} {ad : Nat → Nat} (hI : wI ad) {a1 : Int} {sg : Mem} {Q : Mem → Prop} (hw : wp_X12_turns a1 sg Q) : wMv l D cA ad yX12_turns cX12_turns 5 none 1 [.ref (ad 65), .int (iI a1)] sg Q := by
  refine wk_ofV (by decide) hI (Nat.le_of_ble_eq_true rfl) ?_
  intro p e s m below meth c A QQ ls C0 hret hl hP
  have hx := C0.1
  have hb := C0.2.1
  have hown := C0.2.2.2.1
  have htb := C0.2.2.2.2.1
  have hl : lv_has ls 5 [(0, .ref (ad 65)), (1, .int (iI a1))] := hl
  refine (fun (key : ∀ (H : Heap) (locs : List Loc), wP D cA ad sg H → va_S (wA ad) s.heap H locs → W p l e (rmL 1) s m A below meth c H locs 0 0 QQ (F0 m 0 ls [])) => key _ _ hP va_S.rf) ?_
  intro H locs hP hS
  unfold wp_X12_turns at hw
  refine lv_aload_n hx hb dX12_turns_0 rfl (lv_at hl 0 rfl) ?_
  refine wk_getR 67 C0 fl_X12_13 hP (by decide) sh_65 rfl dX12_turns_1 ?_
  refine lv_iconst (v := iI 0) hx hb dX12_turns_4 rfl ?_
  refine wk_iald C0 hP (by decide) sh_67 (by decide) (by decide) (by decide) dX12_turns_5 ?_
  rw [show (0 : Int).toNat = 0 from rfl]
  refine wk_top (fun x2_1 ex2_1 => ?_)
  have hw := hw x2_1 ex2_1
  refine lv_istore_n (lv' := [(2, .int (iI x2_1)), (0, .ref (ad 65)), (1, .int (iI a1))]) hx hb dX12_turns_6 rfl hl (by decide) rfl (fun ls hl => ?_)
  refine lv_iload_n hx hb dX12_turns_7 rfl (lv_at hl 2 rfl) ?_
  refine lv_iconst (v := iI 1) hx hb dX12_turns_8 rfl ?_
  have q2 := hw.1
  have hw := hw.2
  refine wk_icmp_ne hx hb q2 ⟨by decide, by decide⟩ (tgt := 60) dX12_turns_9 (by decide) (fun hh => ?_) (fun hh => ?_)
  · have hw := hw.2 hh
    refine lv_iload_n hx hb dX12_turns_60 rfl (lv_at hl 2 rfl) ?_
    refine lv_iconst (v := iI 2) hx hb dX12_turns_61 rfl ?_
    refine wk_icmp_ne hx hb q2 ⟨by decide, by decide⟩ (tgt := 113) dX12_turns_62 (by decide) (fun hh => ?_) (fun hh => ?_)
    · have hw := hw.2 hh
      refine lv_iload_n hx hb dX12_turns_113 rfl (lv_at hl 2 rfl) ?_
      refine lv_iconst (v := iI 3) hx hb dX12_turns_114 rfl ?_
      refine wk_icmp_ne hx hb q2 ⟨by decide, by decide⟩ (tgt := 144) dX12_turns_115 (by decide) (fun hh => ?_) (fun hh => ?_)
      · have hw := hw.2 hh
        exact hret _ _ _ _ _ hw hP hS dX12_turns_144
      · have hw := hw.1 hh
        refine lv_aload_n hx hb dX12_turns_118 rfl (lv_at hl 1 rfl) ?_
        refine wk_getR 69 C0 fl_X12_19 hP (by decide) sh_65 rfl dX12_turns_119 ?_
        refine lv_iconst (v := iI 1) hx hb dX12_turns_122 rfl ?_
        refine wk_iald C0 hP (by decide) sh_69 (by decide) (by decide) (by decide) dX12_turns_123 ?_
        rw [show (1 : Int).toNat = 1 from rfl]
        refine wk_top (fun x3_28 ex3_28 => ?_)
        have hw := hw x3_28 ex3_28
        refine lv_istore_n (lv' := [(3, .int (iI x3_28)), (2, .int (iI x2_1)), (0, .ref (ad 65)), (1, .int (iI a1))]) hx hb dX12_turns_124 rfl hl (by decide) rfl (fun ls hl => ?_)
        refine lv_aload_n hx hb dX12_turns_125 rfl (lv_at hl 2 rfl) ?_
        refine wk_getR 69 C0 fl_X12_19 hP (by decide) sh_65 rfl dX12_turns_126 ?_
        refine lv_iconst (v := iI 1) hx hb dX12_turns_129 rfl ?_
        refine lv_aload_n hx hb dX12_turns_130 rfl (lv_at hl 2 rfl) ?_
        refine wk_getR 69 C0 fl_X12_19 hP (by decide) sh_65 rfl dX12_turns_131 ?_
        refine lv_iload_n hx hb dX12_turns_134 rfl (lv_at hl 1 rfl) ?_
        have q29 := hw.1
        have hw := hw.2
        refine wk_iald C0 hP (by decide) sh_69 q29.1 q29.2 (by decide) dX12_turns_135 ?_
        refine wk_iast C0 hP hS (by decide) sh_69 (by decide) (by decide) (by decide) dX12_turns_136 (fun s30 H locs es30 hP hS => ?_)
        have hw := hw s30 es30
        refine lv_aload_n hx hb dX12_turns_137 rfl (lv_at hl 2 rfl) ?_
        refine wk_getR 69 C0 fl_X12_19 hP (by decide) sh_65 rfl dX12_turns_138 ?_
        refine lv_iload_n hx hb dX12_turns_141 rfl (lv_at hl 1 rfl) ?_
        refine lv_iload_n hx hb dX12_turns_142 rfl (lv_at hl 0 rfl) ?_
        refine wk_iast C0 hP hS (by decide) sh_69 q29.1 q29.2 (by decide) dX12_turns_143 (fun s31 H locs es31 hP hS => ?_)
        have hw := hw s31 es31
        exact hret _ _ _ _ _ hw hP hS dX12_turns_144
    · have hw := hw.1 hh
      refine lv_aload_n hx hb dX12_turns_65 rfl (lv_at hl 1 rfl) ?_
      refine wk_getR 69 C0 fl_X12_19 hP (by decide) sh_65 rfl dX12_turns_66 ?_
      refine lv_iconst (v := iI 1) hx hb dX12_turns_69 rfl ?_
      refine wk_iald C0 hP (by decide) sh_69 (by decide) (by decide) (by decide) dX12_turns_70 ?_
      rw [show (1 : Int).toNat = 1 from rfl]
      refine wk_top (fun x3_15 ex3_15 => ?_)
      have hw := hw x3_15 ex3_15
      refine lv_istore_n (lv' := [(3, .int (iI x3_15)), (2, .int (iI x2_1)), (0, .ref (ad 65)), (1, .int (iI a1))]) hx hb dX12_turns_71 rfl hl (by decide) rfl (fun ls hl => ?_)
      refine lv_iconst (v := iI 1) hx hb dX12_turns_72 rfl ?_
      refine lv_istore (lv' := [(4, .int (iI 1)), (3, .int (iI x3_15)), (2, .int (iI x2_1)), (0, .ref (ad 65)), (1, .int (iI a1))]) hx hb dX12_turns_73 hl (by decide) rfl (fun ls hl => ?_)
      obtain ⟨I75, hI75, hw⟩ := hw
      have kI75 : ∀ (k75 : Nat) (y4_16 : Int) (s17 : Mem) (H : Heap) (locs : List Loc) (ls : Array Slot), wP D cA ad s17 H → va_S (wA ad) s.heap H locs → lv_has ls 5 [(0, .ref (ad 65)), (2, .int (iI x2_1)), (3, .int (iI x3_15)), (4, .int (iI y4_16))] → I75 k75 y4_16 s17 → W p l e (rmL 1) s m A below meth c H locs 0 0 QQ (F0 m 75 ls []) := by
        intro k75
        induction k75 using Nat.strongRecOn with
        | _ k75 ih75 =>
          intro y4_16 s17 H locs ls hP hS hl hw
          have hw := hI75 k75 y4_16 s17 hw
          refine lv_iload hx hb dX12_turns_75 (lv_at hl 3 rfl) ?_
          refine lv_iload_n hx hb dX12_turns_77 rfl (lv_at hl 1 rfl) ?_
          have q18 := hw.1
          have hw := hw.2
          have q19 := hw.1
          have hw := hw.2
          refine wk_icmp_ge hx hb q18 q19 (tgt := 103) dX12_turns_78 (by decide) (fun hh => ?_) (fun hh => ?_)
          · have hw := hw.1 hh
            refine lv_aload_n hx hb dX12_turns_103 rfl (lv_at hl 0 rfl) ?_
            refine wk_getR 69 C0 fl_X12_19 hP (by decide) sh_65 rfl dX12_turns_104 ?_
            refine lv_iload_n hx hb dX12_turns_107 rfl (lv_at hl 1 rfl) ?_
            refine lv_iload_n hx hb dX12_turns_108 rfl (lv_at hl 2 rfl) ?_
            have q20 := hw.1
            have hw := hw.2
            refine wk_iast C0 hP hS (by decide) sh_69 q20.1 q20.2 (by decide) dX12_turns_109 (fun s21 H locs es21 hP hS => ?_)
            have hw := hw s21 es21
            refine lv_goto (tgt := 144) hx hb dX12_turns_110 (by decide) ?_
            exact hret _ _ _ _ _ hw hP hS dX12_turns_144
          · have hw := hw.2 hh
            refine lv_aload_n hx hb dX12_turns_81 rfl (lv_at hl 0 rfl) ?_
            refine wk_getR 69 C0 fl_X12_19 hP (by decide) sh_65 rfl dX12_turns_82 ?_
            refine lv_iload hx hb dX12_turns_85 (lv_at hl 3 rfl) ?_
            refine lv_aload_n hx hb dX12_turns_87 rfl (lv_at hl 0 rfl) ?_
            refine wk_getR 69 C0 fl_X12_19 hP (by decide) sh_65 rfl dX12_turns_88 ?_
            refine lv_iload hx hb dX12_turns_91 (lv_at hl 3 rfl) ?_
            refine lv_iconst (v := iI 1) hx hb dX12_turns_93 rfl ?_
            refine wk_iadd hx hb dX12_turns_94 ?_
            have q22 := hw.1
            have hw := hw.2
            refine wk_iald C0 hP (by decide) sh_69 q22.1 q22.2 (by decide) dX12_turns_95 ?_
            have q23 := hw.1
            have hw := hw.2
            refine wk_iast C0 hP hS (by decide) sh_69 q23.1 q23.2 (by decide) dX12_turns_96 (fun s24 H locs es24 hP hS => ?_)
            have hw := hw s24 es24
            refine wk_iinc (lv' := fun x4_25 => [(4, .int (iI x4_25)), (0, .ref (ad 65)), (2, .int (iI x2_1)), (3, .int (iI x3_15))]) hx hb dX12_turns_97 hl (k := 3) rfl (by decide) (fun _ => rfl) (fun x4_25 ls ex4_25 hl => ?_)
            have hw := hw x4_25 ex4_25
            refine lv_goto (tgt := 75) hx hb dX12_turns_100 (by decide) ?_
            obtain ⟨k26, hk26, hw⟩ := hw
            exact ih75 k26 hk26 x4_25 s24 _ _ _ hP hS (lv_sub hl [1, 2, 3, 0] rfl) hw
      obtain ⟨k27, hw⟩ := hw
      exact kI75 k27 1 sg _ _ _ hP hS (lv_sub hl [3, 2, 1, 0] rfl) hw
  · have hw := hw.1 hh
    refine lv_aload_n hx hb dX12_turns_12 rfl (lv_at hl 1 rfl) ?_
    refine wk_getR 69 C0 fl_X12_19 hP (by decide) sh_65 rfl dX12_turns_13 ?_
    refine lv_iload_n hx hb dX12_turns_16 rfl (lv_at hl 0 rfl) ?_
    have q3 := hw.1
    have hw := hw.2
    refine wk_iald C0 hP (by decide) sh_69 q3.1 q3.2 (by decide) dX12_turns_17 ?_
    refine wk_top (fun x3_4 ex3_4 => ?_)
    have hw := hw x3_4 ex3_4
    refine lv_istore_n (lv' := [(3, .int (iI x3_4)), (2, .int (iI x2_1)), (0, .ref (ad 65)), (1, .int (iI a1))]) hx hb dX12_turns_18 rfl hl (by decide) rfl (fun ls hl => ?_)
    refine lv_iload_n hx hb dX12_turns_19 rfl (lv_at hl 1 rfl) ?_
    refine lv_istore (lv' := [(4, .int (iI x2_1)), (3, .int (iI x3_4)), (2, .int (iI x2_1)), (0, .ref (ad 65)), (1, .int (iI a1))]) hx hb dX12_turns_20 hl (by decide) rfl (fun ls hl => ?_)
    obtain ⟨I22, hI22, hw⟩ := hw
    have kI22 : ∀ (k22 : Nat) (y4_5 : Int) (s6 : Mem) (H : Heap) (locs : List Loc) (ls : Array Slot), wP D cA ad s6 H → va_S (wA ad) s.heap H locs → lv_has ls 5 [(0, .ref (ad 65)), (3, .int (iI x3_4)), (4, .int (iI y4_5))] → I22 k22 y4_5 s6 → W p l e (rmL 1) s m A below meth c H locs 0 0 QQ (F0 m 22 ls []) := by
      intro k22
      induction k22 using Nat.strongRecOn with
      | _ k22 ih22 =>
        intro y4_5 s6 H locs ls hP hS hl hw
        have hw := hI22 k22 y4_5 s6 hw
        refine lv_iload hx hb dX12_turns_22 (lv_at hl 2 rfl) ?_
        refine lv_iconst (v := iI 1) hx hb dX12_turns_24 rfl ?_
        have q7 := hw.1
        have hw := hw.2
        refine wk_icmp_le hx hb q7 ⟨by decide, by decide⟩ (tgt := 50) dX12_turns_25 (by decide) (fun hh => ?_) (fun hh => ?_)
        · have hw := hw.1 hh
          refine lv_aload_n hx hb dX12_turns_50 rfl (lv_at hl 0 rfl) ?_
          refine wk_getR 69 C0 fl_X12_19 hP (by decide) sh_65 rfl dX12_turns_51 ?_
          refine lv_iconst (v := iI 1) hx hb dX12_turns_54 rfl ?_
          refine lv_iload_n hx hb dX12_turns_55 rfl (lv_at hl 1 rfl) ?_
          refine wk_iast C0 hP hS (by decide) sh_69 (by decide) (by decide) (by decide) dX12_turns_56 (fun s8 H locs es8 hP hS => ?_)
          have hw := hw s8 es8
          refine lv_goto (tgt := 144) hx hb dX12_turns_57 (by decide) ?_
          exact hret _ _ _ _ _ hw hP hS dX12_turns_144
        · have hw := hw.2 hh
          refine lv_aload_n hx hb dX12_turns_28 rfl (lv_at hl 0 rfl) ?_
          refine wk_getR 69 C0 fl_X12_19 hP (by decide) sh_65 rfl dX12_turns_29 ?_
          refine lv_iload hx hb dX12_turns_32 (lv_at hl 2 rfl) ?_
          refine lv_aload_n hx hb dX12_turns_34 rfl (lv_at hl 0 rfl) ?_
          refine wk_getR 69 C0 fl_X12_19 hP (by decide) sh_65 rfl dX12_turns_35 ?_
          refine lv_iload hx hb dX12_turns_38 (lv_at hl 2 rfl) ?_
          refine lv_iconst (v := iI 1) hx hb dX12_turns_40 rfl ?_
          refine wk_isub hx hb dX12_turns_41 ?_
          have q9 := hw.1
          have hw := hw.2
          refine wk_iald C0 hP (by decide) sh_69 q9.1 q9.2 (by decide) dX12_turns_42 ?_
          have q10 := hw.1
          have hw := hw.2
          refine wk_iast C0 hP hS (by decide) sh_69 q10.1 q10.2 (by decide) dX12_turns_43 (fun s11 H locs es11 hP hS => ?_)
          have hw := hw s11 es11
          refine wk_iinc (lv' := fun x4_12 => [(4, .int (iI x4_12)), (0, .ref (ad 65)), (3, .int (iI x3_4))]) hx hb dX12_turns_44 hl (k := 2) rfl (by decide) (fun _ => rfl) (fun x4_12 ls ex4_12 hl => ?_)
          have hw := hw x4_12 ex4_12
          refine lv_goto (tgt := 22) hx hb dX12_turns_47 (by decide) ?_
          obtain ⟨k13, hk13, hw⟩ := hw
          exact ih22 k13 hk13 x4_12 s11 _ _ _ hP hS (lv_sub hl [1, 2, 0] rfl) hw
    obtain ⟨k14, hw⟩ := hw
    exact kI22 k14 x2_1 sg _ _ _ hP hS (lv_sub hl [3, 1, 0] rfl) hw

set_option maxRecDepth 100000 in
set_option maxHeartbeats 4000000 in
theorem ok_X12_goesOn {l : Launch} {D : va_G} {cA : Nat → ClassId} {ad : Nat → Nat} (hI : wI ad) {a1 : Int} {sg : Mem} {Q : Mem → Prop} (hw : wp_X12_goesOn a1 sg Q) : wMv l D cA ad yX12_goesOn cX12_goesOn 7 none 2 [.ref (ad 65), .int (iI a1)] sg Q := by
  refine wk_ofV (by decide) hI (Nat.le_of_ble_eq_true rfl) ?_
  intro p e s m below meth c A QQ ls C0 hret hl hP
  have hx := C0.1
  have hb := C0.2.1
  have hown := C0.2.2.2.1
  have htb := C0.2.2.2.2.1
  have hl : lv_has ls 7 [(0, .ref (ad 65)), (1, .int (iI a1))] := hl
  refine (fun (key : ∀ (H : Heap) (locs : List Loc), wP D cA ad sg H → va_S (wA ad) s.heap H locs → W p l e (rmL 2) s m A below meth c H locs 0 0 QQ (F0 m 0 ls [])) => key _ _ hP va_S.rf) ?_
  intro H locs hP hS
  unfold wp_X12_goesOn at hw
  refine lv_aload_n hx hb dX12_goesOn_0 rfl (lv_at hl 0 rfl) ?_
  refine lv_iload_n hx hb dX12_goesOn_1 rfl (lv_at hl 1 rfl) ?_
  refine wk_rv (wk_callV (rest := []) C0 cl_X12_129 (ok_X12_turns hI hw) hP (by decide) sh_65 rfl rfl rfl (Nat.le_of_ble_eq_true rfl) (wk_room (by decide) (by decide)) hl.1 dX12_goesOn_2 ⟨Nat.le_refl _, Nat.le_refl _⟩) hS (fun s1 H locs hw hP hS => ?_)
  refine lv_aload_n hx hb dX12_goesOn_5 rfl (lv_at hl 0 rfl) ?_
  refine wk_getR 67 C0 fl_X12_13 hP (by decide) sh_65 rfl dX12_goesOn_6 ?_
  refine lv_iconst (v := iI 0) hx hb dX12_goesOn_9 rfl ?_
  refine wk_iald C0 hP (by decide) sh_67 (by decide) (by decide) (by decide) dX12_goesOn_10 ?_
  rw [show (0 : Int).toNat = 0 from rfl]
  refine wk_top (fun x2_2 ex2_2 => ?_)
  have hw := hw x2_2 ex2_2
  refine lv_istore_n (lv' := [(2, .int (iI x2_2)), (0, .ref (ad 65)), (1, .int (iI a1))]) hx hb dX12_goesOn_11 rfl hl (by decide) rfl (fun ls hl => ?_)
  refine lv_iconst (v := iI 0) hx hb dX12_goesOn_12 rfl ?_
  refine lv_istore_n (lv' := [(3, .int (iI 0)), (2, .int (iI x2_2)), (0, .ref (ad 65)), (1, .int (iI a1))]) hx hb dX12_goesOn_13 rfl hl (by decide) rfl (fun ls hl => ?_)
  obtain ⟨I14, hI14, hw⟩ := hw
  have kI14 : ∀ (k14 : Nat) (y3_3 : Int) (s4 : Mem) (H : Heap) (locs : List Loc) (ls : Array Slot), wP D cA ad s4 H → va_S (wA ad) s.heap H locs → lv_has ls 7 [(0, .ref (ad 65)), (2, .int (iI x2_2)), (3, .int (iI y3_3))] → I14 k14 y3_3 s4 → W p l e (rmL 2) s m A below meth c H locs 0 0 QQ (F0 m 14 ls []) := by
    intro k14
    induction k14 using Nat.strongRecOn with
    | _ k14 ih14 =>
      intro y3_3 s4 H locs ls hP hS hl hw
      have hw := hI14 k14 y3_3 s4 hw
      refine lv_iload_n hx hb dX12_goesOn_14 rfl (lv_at hl 2 rfl) ?_
      refine lv_aload_n hx hb dX12_goesOn_15 rfl (lv_at hl 0 rfl) ?_
      refine wk_getR 67 C0 fl_X12_13 hP (by decide) sh_65 rfl dX12_goesOn_16 ?_
      refine lv_iconst (v := iI 2) hx hb dX12_goesOn_19 rfl ?_
      refine wk_iald C0 hP (by decide) sh_67 (by decide) (by decide) (by decide) dX12_goesOn_20 ?_
      rw [show (2 : Int).toNat = 2 from rfl]
      have q5 := hw.1
      have hw := hw.2
      have q6 := hw.1
      have hw := hw.2
      refine wk_icmp_ge hx hb q5 q6 (tgt := 185) dX12_goesOn_21 (by decide) (fun hh => ?_) (fun hh => ?_)
      · have hw := hw.1 hh
        refine lv_iconst (v := iI 0) hx hb dX12_goesOn_185 rfl ?_
        refine lv_istore_n (lv' := [(3, .int (iI 0)), (0, .ref (ad 65)), (2, .int (iI x2_2))]) hx hb dX12_goesOn_186 rfl hl (by decide) rfl (fun ls hl => ?_)
        obtain ⟨I187, hI187, hw⟩ := hw
        have kI187 : ∀ (k187 : Nat) (y3_7 : Int) (s8 : Mem) (H : Heap) (locs : List Loc) (ls : Array Slot), wP D cA ad s8 H → va_S (wA ad) s.heap H locs → lv_has ls 7 [(0, .ref (ad 65)), (3, .int (iI y3_7))] → I187 k187 y3_7 s8 → W p l e (rmL 2) s m A below meth c H locs 0 0 QQ (F0 m 187 ls []) := by
          intro k187
          induction k187 using Nat.strongRecOn with
          | _ k187 ih187 =>
            intro y3_7 s8 H locs ls hP hS hl hw
            have hw := hI187 k187 y3_7 s8 hw
            refine lv_iload_n hx hb dX12_goesOn_187 rfl (lv_at hl 1 rfl) ?_
            refine lv_aload_n hx hb dX12_goesOn_188 rfl (lv_at hl 0 rfl) ?_
            refine wk_getR 67 C0 fl_X12_13 hP (by decide) sh_65 rfl dX12_goesOn_189 ?_
            refine lv_iconst (v := iI 2) hx hb dX12_goesOn_192 rfl ?_
            refine wk_iald C0 hP (by decide) sh_67 (by decide) (by decide) (by decide) dX12_goesOn_193 ?_
            rw [show (2 : Int).toNat = 2 from rfl]
            have q9 := hw.1
            have hw := hw.2
            have q10 := hw.1
            have hw := hw.2
            refine wk_icmp_ge hx hb q9 q10 (tgt := 253) dX12_goesOn_194 (by decide) (fun hh => ?_) (fun hh => ?_)
            · have hw := hw.1 hh
              refine lv_aload_n hx hb dX12_goesOn_253 rfl (lv_at hl 0 rfl) ?_
              refine wk_getR 69 C0 fl_X12_19 hP (by decide) sh_65 rfl dX12_goesOn_254 ?_
              refine lv_iconst (v := iI 0) hx hb dX12_goesOn_257 rfl ?_
              refine lv_dup2_11 hx hb dX12_goesOn_258 rfl rfl ?_
              refine wk_iald C0 hP (by decide) sh_69 (by decide) (by decide) (by decide) dX12_goesOn_259 ?_
              rw [show (0 : Int).toNat = 0 from rfl]
              refine lv_iconst (v := iI 1) hx hb dX12_goesOn_260 rfl ?_
              refine wk_iadd hx hb dX12_goesOn_261 ?_
              refine wk_iast C0 hP hS (by decide) sh_69 (by decide) (by decide) (by decide) dX12_goesOn_262 (fun s11 H locs es11 hP hS => ?_)
              have hw := hw s11 es11
              exact hret _ _ _ _ _ hw hP hS dX12_goesOn_263
            · have hw := hw.2 hh
              refine lv_aload_n hx hb dX12_goesOn_197 rfl (lv_at hl 0 rfl) ?_
              refine wk_getR 69 C0 fl_X12_19 hP (by decide) sh_65 rfl dX12_goesOn_198 ?_
              refine lv_bipush (v := iI 7) hx hb dX12_goesOn_201 (by decide +kernel) ?_
              refine lv_iload_n hx hb dX12_goesOn_203 rfl (lv_at hl 1 rfl) ?_
              refine wk_iadd hx hb dX12_goesOn_204 ?_
              have q12 := hw.1
              have hw := hw.2
              refine wk_iald C0 hP (by decide) sh_69 q12.1 q12.2 (by decide) dX12_goesOn_205 ?_
              refine lv_aload_n hx hb dX12_goesOn_206 rfl (lv_at hl 0 rfl) ?_
              refine wk_getR 70 C0 fl_X12_22 hP (by decide) sh_65 rfl dX12_goesOn_207 ?_
              refine lv_iload_n hx hb dX12_goesOn_210 rfl (lv_at hl 1 rfl) ?_
              have q13 := hw.1
              have hw := hw.2
              refine wk_iald C0 hP (by decide) sh_70 q13.1 q13.2 (by decide) dX12_goesOn_211 ?_
              refine wk_iadd hx hb dX12_goesOn_212 ?_
              refine wk_top (fun x4_14 ex4_14 => ?_)
              have hw := hw x4_14 ex4_14
              refine lv_istore (lv' := [(4, .int (iI x4_14)), (0, .ref (ad 65)), (3, .int (iI y3_7))]) hx hb dX12_goesOn_213 hl (by decide) rfl (fun ls hl => ?_)
              refine lv_aload_n hx hb dX12_goesOn_215 rfl (lv_at hl 1 rfl) ?_
              refine wk_getR 69 C0 fl_X12_19 hP (by decide) sh_65 rfl dX12_goesOn_216 ?_
              refine lv_bipush (v := iI 7) hx hb dX12_goesOn_219 (by decide +kernel) ?_
              refine lv_iload_n hx hb dX12_goesOn_221 rfl (lv_at hl 2 rfl) ?_
              refine wk_iadd hx hb dX12_goesOn_222 ?_
              refine lv_iload hx hb dX12_goesOn_223 (lv_at hl 0 rfl) ?_
              have q15 := hw.1
              have hw := hw.2
              have kX246 : ∀ v16 : Int, v16 = (if 0 ≤ x4_14 then if x4_14 ≤ 99 then x4_14 else 99 else 0) → ∀ (ls : Array Slot), lv_has ls 7 [(0, .ref (ad 65)), (3, .int (iI y3_7))] → W p l e (rmL 2) s m A below meth c H locs 0 0 QQ (F0 m 246 ls [.int (iI v16), .int (iI (7 + y3_7)), .ref (ad 69)]) := by
                intro v16 ev16 ls hl
                have hw := hw v16 ev16
                refine wk_iast C0 hP hS (by decide) sh_69 q12.1 q12.2 (by decide) dX12_goesOn_246 (fun s17 H locs es17 hP hS => ?_)
                have hw := hw s17 es17
                refine wk_iinc (lv' := fun x3_18 => [(3, .int (iI x3_18)), (0, .ref (ad 65))]) hx hb dX12_goesOn_247 hl (k := 1) rfl (by decide) (fun _ => rfl) (fun x3_18 ls ex3_18 hl => ?_)
                have hw := hw x3_18 ex3_18
                refine lv_goto (tgt := 187) hx hb dX12_goesOn_250 (by decide) ?_
                obtain ⟨k19, hk19, hw⟩ := hw
                exact ih187 k19 hk19 x3_18 s17 _ _ _ hP hS (lv_sub hl [1, 0] rfl) hw
              refine wk_if_ge hx hb q15 (tgt := 232) dX12_goesOn_225 (by decide) (fun hh20 => ?_) (fun hh20 => ?_)
              · refine lv_iload hx hb dX12_goesOn_232 (lv_at hl 0 rfl) ?_
                refine lv_bipush (v := iI 99) hx hb dX12_goesOn_234 (by decide +kernel) ?_
                refine wk_icmp_le hx hb q15 ⟨by decide, by decide⟩ (tgt := 244) dX12_goesOn_236 (by decide) (fun hh21 => ?_) (fun hh21 => ?_)
                · refine lv_iload hx hb dX12_goesOn_244 (lv_at hl 0 rfl) ?_
                  exact kX246 x4_14 (by rw [if_pos hh20, if_pos hh21]) ls (lv_sub hl [1, 2] rfl)
                · refine lv_bipush (v := iI 99) hx hb dX12_goesOn_239 (by decide +kernel) ?_
                  refine lv_goto (tgt := 246) hx hb dX12_goesOn_241 (by decide) ?_
                  exact kX246 99 (by rw [if_pos hh20, if_neg hh21]) ls (lv_sub hl [1, 2] rfl)
              · refine lv_iconst (v := iI 0) hx hb dX12_goesOn_228 rfl ?_
                refine lv_goto (tgt := 246) hx hb dX12_goesOn_229 (by decide) ?_
                exact kX246 0 (by rw [if_neg hh20]) ls (lv_sub hl [1, 2] rfl)
        obtain ⟨k22, hw⟩ := hw
        exact kI187 k22 0 s4 _ _ _ hP hS (lv_sub hl [1, 0] rfl) hw
      · have hw := hw.2 hh
        refine lv_aload_n hx hb dX12_goesOn_24 rfl (lv_at hl 0 rfl) ?_
        refine lv_iload_n hx hb dX12_goesOn_25 rfl (lv_at hl 2 rfl) ?_
        refine wk_rip (wk_callV (rest := []) C0 cl_X12_133 (ok_X12_placeOf hI hw) hP (by decide) sh_65 rfl rfl rfl (Nat.le_of_ble_eq_true rfl) (wk_room (by decide) (by decide)) hl.1 dX12_goesOn_26 ⟨Nat.le_refl _, Nat.le_refl _⟩) hS (fun r23 H locs hw hP hS => ?_)
        refine lv_istore (lv' := [(4, .int (iI r23)), (0, .ref (ad 65)), (2, .int (iI x2_2)), (3, .int (iI y3_3))]) hx hb dX12_goesOn_29 hl (by decide) rfl (fun ls hl => ?_)
        refine lv_iload hx hb dX12_goesOn_31 (lv_at hl 0 rfl) ?_
        refine lv_iconst (v := iI (-1)) hx hb dX12_goesOn_33 rfl ?_
        have q24 := hw.1
        have hw := hw.2
        obtain ⟨X179, hX179, hw⟩ := hw
        have kX179 : ∀ (s25 : Mem) (H : Heap) (locs : List Loc) (ls : Array Slot), wP D cA ad s25 H → va_S (wA ad) s.heap H locs → lv_has ls 7 [(0, .ref (ad 65)), (2, .int (iI x2_2)), (3, .int (iI y3_3))] → X179 s25 → W p l e (rmL 2) s m A below meth c H locs 0 0 QQ (F0 m 179 ls []) := by
          intro s25 H locs ls hP hS hl hw
          have hw := hX179 s25 hw
          refine wk_iinc (lv' := fun x3_26 => [(3, .int (iI x3_26)), (0, .ref (ad 65)), (2, .int (iI x2_2))]) hx hb dX12_goesOn_179 hl (k := 2) rfl (by decide) (fun _ => rfl) (fun x3_26 ls ex3_26 hl => ?_)
          have hw := hw x3_26 ex3_26
          refine lv_goto (tgt := 14) hx hb dX12_goesOn_182 (by decide) ?_
          obtain ⟨k27, hk27, hw⟩ := hw
          exact ih14 k27 hk27 x3_26 s25 _ _ _ hP hS (lv_sub hl [1, 2, 0] rfl) hw
        refine wk_icmp_ne hx hb q24 ⟨by decide, by decide⟩ (tgt := 54) dX12_goesOn_34 (by decide) (fun hh => ?_) (fun hh => ?_)
        · have hw := hw.2 hh
          refine lv_iload hx hb dX12_goesOn_54 (lv_at hl 0 rfl) ?_
          have hs := hw.1
          have hw := hw.2
          have kX94 : ∀ v35 : Int, v35 = (if r23 ≤ 0 then if s4 67 1 = 1 then if x2_2 ≤ 2 then (-1) else s4 69 x2_2.toNat else (-1) else s4 69 r23.toNat) → ∀ (ls : Array Slot), lv_has ls 7 [(0, .ref (ad 65)), (2, .int (iI x2_2)), (3, .int (iI y3_3)), (4, .int (iI r23))] → W p l e (rmL 2) s m A below meth c H locs 0 0 QQ (F0 m 94 ls [.int (iI v35)]) := by
            intro v35 ev35 ls hl
            have hw := hw v35 ev35
            refine lv_istore (lv' := [(5, .int (iI v35)), (0, .ref (ad 65)), (2, .int (iI x2_2)), (3, .int (iI y3_3)), (4, .int (iI r23))]) hx hb dX12_goesOn_94 hl (by decide) rfl (fun ls hl => ?_)
            refine lv_iload hx hb dX12_goesOn_96 (lv_at hl 4 rfl) ?_
            refine lv_iload_n hx hb dX12_goesOn_98 rfl (lv_at hl 2 rfl) ?_
            refine lv_iconst (v := iI 1) hx hb dX12_goesOn_99 rfl ?_
            refine wk_isub hx hb dX12_goesOn_100 ?_
            have q36 := hw.1
            have hw := hw.2
            have hs := hw.1
            have hw := hw.2
            have kX141 : ∀ v40 : Int, v40 = (if x2_2 - 1 ≤ r23 then if s4 67 1 = 1 then if x2_2 ≤ 2 then (-1) else s4 69 1 else (-1) else s4 69 (r23 + 2).toNat) → ∀ (ls : Array Slot), lv_has ls 7 [(0, .ref (ad 65)), (2, .int (iI x2_2)), (3, .int (iI y3_3)), (4, .int (iI r23)), (5, .int (iI v35))] → W p l e (rmL 2) s m A below meth c H locs 0 0 QQ (F0 m 141 ls [.int (iI v40)]) := by
              intro v40 ev40 ls hl
              have hw := hw v40 ev40
              refine lv_istore (lv' := [(6, .int (iI v40)), (0, .ref (ad 65)), (2, .int (iI x2_2)), (3, .int (iI y3_3)), (4, .int (iI r23)), (5, .int (iI v35))]) hx hb dX12_goesOn_141 hl (by decide) rfl (fun ls hl => ?_)
              refine lv_aload_n hx hb dX12_goesOn_143 rfl (lv_at hl 1 rfl) ?_
              refine wk_getR 70 C0 fl_X12_22 hP (by decide) sh_65 rfl dX12_goesOn_144 ?_
              refine lv_iload_n hx hb dX12_goesOn_147 rfl (lv_at hl 3 rfl) ?_
              refine lv_aload_n hx hb dX12_goesOn_148 rfl (lv_at hl 1 rfl) ?_
              refine wk_getR 67 C0 fl_X12_13 hP (by decide) sh_65 rfl dX12_goesOn_149 ?_
              refine lv_bipush (v := iI 6) hx hb dX12_goesOn_152 (by decide +kernel) ?_
              refine lv_iload hx hb dX12_goesOn_154 (lv_at hl 4 rfl) ?_
              refine wk_iadd hx hb dX12_goesOn_156 ?_
              have q41 := hw.1
              have hw := hw.2
              refine wk_iald C0 hP (by decide) sh_67 q41.1 q41.2 (by decide) dX12_goesOn_157 ?_
              refine lv_aload_n hx hb dX12_goesOn_158 rfl (lv_at hl 1 rfl) ?_
              refine lv_iload hx hb dX12_goesOn_159 (lv_at hl 5 rfl) ?_
              refine wk_rip (wk_callV (rest := [.int (iI (s4 67 (6 + r23).toNat)), .int (iI y3_3), .ref (ad 70)]) C0 cl_X12_139 (ok_X12_gives hI hw) hP (by decide) sh_65 rfl rfl rfl (Nat.le_of_ble_eq_true rfl) (wk_room (by decide) (by decide)) hl.1 dX12_goesOn_161 ⟨Nat.le_refl _, Nat.le_refl _⟩) hS (fun r42 H locs hw hP hS => ?_)
              refine wk_iadd hx hb dX12_goesOn_164 ?_
              refine lv_aload_n hx hb dX12_goesOn_165 rfl (lv_at hl 1 rfl) ?_
              refine lv_iload hx hb dX12_goesOn_166 (lv_at hl 0 rfl) ?_
              refine wk_rip (wk_callV (rest := [.int (iI ((s4 67 (6 + r23).toNat) + r42)), .int (iI y3_3), .ref (ad 70)]) C0 cl_X12_139 (ok_X12_gives hI hw) hP (by decide) sh_65 rfl rfl rfl (Nat.le_of_ble_eq_true rfl) (wk_room (by decide) (by decide)) hl.1 dX12_goesOn_168 ⟨Nat.le_refl _, Nat.le_refl _⟩) hS (fun r43 H locs hw hP hS => ?_)
              refine wk_iadd hx hb dX12_goesOn_171 ?_
              refine lv_aload_n hx hb dX12_goesOn_172 rfl (lv_at hl 1 rfl) ?_
              refine lv_iload_n hx hb dX12_goesOn_173 rfl (lv_at hl 3 rfl) ?_
              refine wk_rip (wk_callV (rest := [.int (iI (((s4 67 (6 + r23).toNat) + r42) + r43)), .int (iI y3_3), .ref (ad 70)]) C0 cl_X12_136 (ok_X12_loses hI hw) hP (by decide) sh_65 rfl rfl rfl (Nat.le_of_ble_eq_true rfl) (wk_room (by decide) (by decide)) hl.1 dX12_goesOn_174 ⟨Nat.le_refl _, Nat.le_refl _⟩) hS (fun r44 H locs hw hP hS => ?_)
              refine wk_isub hx hb dX12_goesOn_177 ?_
              have q45 := hw.1
              have hw := hw.2
              refine wk_iast C0 hP hS (by decide) sh_70 q45.1 q45.2 (by decide) dX12_goesOn_178 (fun s46 H locs es46 hP hS => ?_)
              have hw := hw s46 es46
              exact kX179 s46 _ _ _ hP hS (lv_sub hl [1, 2, 3] rfl) hw
            refine wk_icmp_ge hx hb q24 q36 (tgt := 116) dX12_goesOn_101 (by decide) (fun hh47 => ?_) (fun hh47 => ?_)
            · have hs := hs.1 hh47
              refine lv_aload_n hx hb dX12_goesOn_116 rfl (lv_at hl 1 rfl) ?_
              refine wk_getR 67 C0 fl_X12_13 hP (by decide) sh_65 rfl dX12_goesOn_117 ?_
              refine lv_iconst (v := iI 1) hx hb dX12_goesOn_120 rfl ?_
              refine wk_iald C0 hP (by decide) sh_67 (by decide) (by decide) (by decide) dX12_goesOn_121 ?_
              rw [show (1 : Int).toNat = 1 from rfl]
              refine lv_iconst (v := iI 1) hx hb dX12_goesOn_122 rfl ?_
              have q37 := hs.1
              have hs := hs.2
              refine wk_icmp_ne hx hb q37 ⟨by decide, by decide⟩ (tgt := 140) dX12_goesOn_123 (by decide) (fun hh48 => ?_) (fun hh48 => ?_)
              · refine lv_iconst (v := iI (-1)) hx hb dX12_goesOn_140 rfl ?_
                exact kX141 (-1) (by rw [if_pos hh47, if_neg hh48]) ls (lv_sub hl [1, 2, 3, 4, 0] rfl)
              · have hs := hs.1 hh48
                refine lv_iload_n hx hb dX12_goesOn_126 rfl (lv_at hl 2 rfl) ?_
                refine lv_iconst (v := iI 2) hx hb dX12_goesOn_127 rfl ?_
                have q38 := hs
                refine wk_icmp_le hx hb q38 ⟨by decide, by decide⟩ (tgt := 140) dX12_goesOn_128 (by decide) (fun hh49 => ?_) (fun hh49 => ?_)
                · refine lv_iconst (v := iI (-1)) hx hb dX12_goesOn_140 rfl ?_
                  exact kX141 (-1) (by rw [if_pos hh47, if_pos hh48, if_pos hh49]) ls (lv_sub hl [1, 2, 3, 4, 0] rfl)
                · refine lv_aload_n hx hb dX12_goesOn_131 rfl (lv_at hl 1 rfl) ?_
                  refine wk_getR 69 C0 fl_X12_19 hP (by decide) sh_65 rfl dX12_goesOn_132 ?_
                  refine lv_iconst (v := iI 1) hx hb dX12_goesOn_135 rfl ?_
                  refine wk_iald C0 hP (by decide) sh_69 (by decide) (by decide) (by decide) dX12_goesOn_136 ?_
                  rw [show (1 : Int).toNat = 1 from rfl]
                  refine lv_goto (tgt := 141) hx hb dX12_goesOn_137 (by decide) ?_
                  exact kX141 (s4 69 1) (by rw [if_pos hh47, if_pos hh48, if_neg hh49]) ls (lv_sub hl [1, 2, 3, 4, 0] rfl)
            · have hs := hs.2 hh47
              refine lv_aload_n hx hb dX12_goesOn_104 rfl (lv_at hl 1 rfl) ?_
              refine wk_getR 69 C0 fl_X12_19 hP (by decide) sh_65 rfl dX12_goesOn_105 ?_
              refine lv_iload hx hb dX12_goesOn_108 (lv_at hl 4 rfl) ?_
              refine lv_iconst (v := iI 2) hx hb dX12_goesOn_110 rfl ?_
              refine wk_iadd hx hb dX12_goesOn_111 ?_
              have q39 := hs
              refine wk_iald C0 hP (by decide) sh_69 q39.1 q39.2 (by decide) dX12_goesOn_112 ?_
              refine lv_goto (tgt := 141) hx hb dX12_goesOn_113 (by decide) ?_
              exact kX141 (s4 69 (r23 + 2).toNat) (by rw [if_neg hh47]) ls (lv_sub hl [1, 2, 3, 4, 0] rfl)
          refine wk_if_le hx hb q24 (tgt := 69) dX12_goesOn_56 (by decide) (fun hh50 => ?_) (fun hh50 => ?_)
          · have hs := hs.1 hh50
            refine lv_aload_n hx hb dX12_goesOn_69 rfl (lv_at hl 1 rfl) ?_
            refine wk_getR 67 C0 fl_X12_13 hP (by decide) sh_65 rfl dX12_goesOn_70 ?_
            refine lv_iconst (v := iI 1) hx hb dX12_goesOn_73 rfl ?_
            refine wk_iald C0 hP (by decide) sh_67 (by decide) (by decide) (by decide) dX12_goesOn_74 ?_
            rw [show (1 : Int).toNat = 1 from rfl]
            refine lv_iconst (v := iI 1) hx hb dX12_goesOn_75 rfl ?_
            have q31 := hs.1
            have hs := hs.2
            refine wk_icmp_ne hx hb q31 ⟨by decide, by decide⟩ (tgt := 93) dX12_goesOn_76 (by decide) (fun hh51 => ?_) (fun hh51 => ?_)
            · refine lv_iconst (v := iI (-1)) hx hb dX12_goesOn_93 rfl ?_
              exact kX94 (-1) (by rw [if_pos hh50, if_neg hh51]) ls (lv_sub hl [1, 2, 3, 0] rfl)
            · have hs := hs.1 hh51
              refine lv_iload_n hx hb dX12_goesOn_79 rfl (lv_at hl 2 rfl) ?_
              refine lv_iconst (v := iI 2) hx hb dX12_goesOn_80 rfl ?_
              have q32 := hs.1
              have hs := hs.2
              refine wk_icmp_le hx hb q32 ⟨by decide, by decide⟩ (tgt := 93) dX12_goesOn_81 (by decide) (fun hh52 => ?_) (fun hh52 => ?_)
              · refine lv_iconst (v := iI (-1)) hx hb dX12_goesOn_93 rfl ?_
                exact kX94 (-1) (by rw [if_pos hh50, if_pos hh51, if_pos hh52]) ls (lv_sub hl [1, 2, 3, 0] rfl)
              · have hs := hs.2 hh52
                refine lv_aload_n hx hb dX12_goesOn_84 rfl (lv_at hl 1 rfl) ?_
                refine wk_getR 69 C0 fl_X12_19 hP (by decide) sh_65 rfl dX12_goesOn_85 ?_
                refine lv_iload_n hx hb dX12_goesOn_88 rfl (lv_at hl 2 rfl) ?_
                have q33 := hs
                refine wk_iald C0 hP (by decide) sh_69 q33.1 q33.2 (by decide) dX12_goesOn_89 ?_
                refine lv_goto (tgt := 94) hx hb dX12_goesOn_90 (by decide) ?_
                exact kX94 (s4 69 x2_2.toNat) (by rw [if_pos hh50, if_pos hh51, if_neg hh52]) ls (lv_sub hl [1, 2, 3, 0] rfl)
          · have hs := hs.2 hh50
            refine lv_aload_n hx hb dX12_goesOn_59 rfl (lv_at hl 1 rfl) ?_
            refine wk_getR 69 C0 fl_X12_19 hP (by decide) sh_65 rfl dX12_goesOn_60 ?_
            refine lv_iload hx hb dX12_goesOn_63 (lv_at hl 0 rfl) ?_
            have q34 := hs
            refine wk_iald C0 hP (by decide) sh_69 q34.1 q34.2 (by decide) dX12_goesOn_65 ?_
            refine lv_goto (tgt := 94) hx hb dX12_goesOn_66 (by decide) ?_
            exact kX94 (s4 69 r23.toNat) (by rw [if_neg hh50]) ls (lv_sub hl [1, 2, 3, 0] rfl)
        · have hw := hw.1 hh
          refine lv_aload_n hx hb dX12_goesOn_37 rfl (lv_at hl 1 rfl) ?_
          refine wk_getR 70 C0 fl_X12_22 hP (by decide) sh_65 rfl dX12_goesOn_38 ?_
          refine lv_iload_n hx hb dX12_goesOn_41 rfl (lv_at hl 3 rfl) ?_
          refine lv_bipush (v := iI (-2)) hx hb dX12_goesOn_42 (by decide +kernel) ?_
          refine lv_aload_n hx hb dX12_goesOn_44 rfl (lv_at hl 1 rfl) ?_
          refine lv_iload_n hx hb dX12_goesOn_45 rfl (lv_at hl 3 rfl) ?_
          refine wk_rip (wk_callV (rest := [.int (iI (-2)), .int (iI y3_3), .ref (ad 70)]) C0 cl_X12_136 (ok_X12_loses hI hw) hP (by decide) sh_65 rfl rfl rfl (Nat.le_of_ble_eq_true rfl) (wk_room (by decide) (by decide)) hl.1 dX12_goesOn_46 ⟨Nat.le_refl _, Nat.le_refl _⟩) hS (fun r28 H locs hw hP hS => ?_)
          refine wk_imul hx hb dX12_goesOn_49 ?_
          have q29 := hw.1
          have hw := hw.2
          refine wk_iast C0 hP hS (by decide) sh_70 q29.1 q29.2 (by decide) dX12_goesOn_50 (fun s30 H locs es30 hP hS => ?_)
          have hw := hw s30 es30
          refine lv_goto (tgt := 179) hx hb dX12_goesOn_51 (by decide) ?_
          exact kX179 s30 _ _ _ hP hS (lv_sub hl [1, 2, 3] rfl) hw
  obtain ⟨k53, hw⟩ := hw
  exact kI14 k53 0 s1 _ _ _ hP hS (lv_sub hl [2, 1, 0] rfl) hw

set_option maxRecDepth 100000 in
set_option maxHeartbeats 4000000 in
theorem ok_X12_lawful {l : Launch} {D : va_G} {cA : Nat → ClassId} {ad : Nat → Nat} (hI : wI ad) {sg : Mem} {Q : Int → Prop} (hw : wp_X12_lawful sg Q) : wMi l D cA ad yX12_lawful cX12_lawful 1 (some .int) 1 [.ref (ad 65)] sg (fun z u => u = sg ∧ Q z) := by
  refine wk_ofI (by decide) hI (Nat.le_of_ble_eq_true rfl) ?_
  intro p e s m below meth c A QQ ls C0 hret hl hP
  have hx := C0.1
  have hb := C0.2.1
  have hown := C0.2.2.2.1
  have htb := C0.2.2.2.2.1
  have hl : lv_has ls 1 [(0, .ref (ad 65))] := hl
  refine (fun (key : ∀ (H : Heap) (locs : List Loc), wP D cA ad sg H → va_S (wA ad) s.heap H locs → W p l e (rmL 1) s m A below meth c H locs 0 0 QQ (F0 m 0 ls [])) => key _ _ hP va_S.rf) ?_
  intro H locs hP hS
  unfold wp_X12_lawful at hw
  refine lv_aload_n hx hb dX12_lawful_0 rfl (lv_at hl 0 rfl) ?_
  refine wk_getR 67 C0 fl_X12_13 hP (by decide) sh_65 rfl dX12_lawful_1 ?_
  refine lv_bipush (v := iI 36) hx hb dX12_lawful_4 (by decide +kernel) ?_
  refine lv_aload_n hx hb dX12_lawful_6 rfl (lv_at hl 0 rfl) ?_
  refine wk_getR 69 C0 fl_X12_19 hP (by decide) sh_65 rfl dX12_lawful_7 ?_
  refine lv_iconst (v := iI 0) hx hb dX12_lawful_10 rfl ?_
  refine wk_iald C0 hP (by decide) sh_69 (by decide) (by decide) (by decide) dX12_lawful_11 ?_
  rw [show (0 : Int).toNat = 0 from rfl]
  refine lv_aload_n hx hb dX12_lawful_12 rfl (lv_at hl 0 rfl) ?_
  refine wk_getR 67 C0 fl_X12_13 hP (by decide) sh_65 rfl dX12_lawful_13 ?_
  refine lv_iconst (v := iI 3) hx hb dX12_lawful_16 rfl ?_
  refine wk_iald C0 hP (by decide) sh_67 (by decide) (by decide) (by decide) dX12_lawful_17 ?_
  rw [show (3 : Int).toNat = 3 from rfl]
  have q1 := hw.1
  have hw := hw.2
  have q2 := hw.1
  have hw := hw.2
  have q3 := hw.1
  have hw := hw.2
  refine wk_irem hx hb q1 q2 q3 dX12_lawful_18 ?_
  refine wk_iadd hx hb dX12_lawful_19 ?_
  have q4 := hw.1
  have hw := hw.2
  refine wk_iald C0 hP (by decide) sh_67 q4.1 q4.2 (by decide) dX12_lawful_20 ?_
  exact hret _ _ _ _ _ _ ⟨rfl, hw⟩ hP hS dX12_lawful_21

set_option maxRecDepth 100000 in
set_option maxHeartbeats 4000000 in
theorem ok_X12_told {l : Launch} {D : va_G} {cA : Nat → ClassId} {ad : Nat → Nat} (hI : wI ad) {a1 : Int} {sg : Mem} {Q : Int → Prop} (hw : wp_X12_told a1 sg Q) : wMi l D cA ad yX12_told cX12_told 2 (some .int) 3 [.ref (ad 65), .int (iI a1)] sg (fun z u => u = sg ∧ Q z) := by
  refine wk_ofI (by decide) hI (Nat.le_of_ble_eq_true rfl) ?_
  intro p e s m below meth c A QQ ls C0 hret hl hP
  have hx := C0.1
  have hb := C0.2.1
  have hown := C0.2.2.2.1
  have htb := C0.2.2.2.2.1
  have hl : lv_has ls 2 [(0, .ref (ad 65)), (1, .int (iI a1))] := hl
  refine (fun (key : ∀ (H : Heap) (locs : List Loc), wP D cA ad sg H → va_S (wA ad) s.heap H locs → W p l e (rmL 3) s m A below meth c H locs 0 0 QQ (F0 m 0 ls [])) => key _ _ hP va_S.rf) ?_
  intro H locs hP hS
  unfold wp_X12_told at hw
  refine lv_iload_n hx hb dX12_told_0 rfl (lv_at hl 1 rfl) ?_
  have q1 := hw.1
  have hw := hw.2
  by_cases hh0 : a1 = 0
  · have hw := hw.1 hh0
    refine lv_tableIn (off := 63) (tgt := 64) hx hb dX12_told_1 (by rw [hh0]; first | done | decide +kernel) (by rw [hh0]; first | done | decide +kernel) (by rw [hh0]; first | done | decide +kernel) (by decide) ?_
    refine lv_aload_n hx hb dX12_told_64 rfl (lv_at hl 0 rfl) ?_
    refine wk_getR 67 C0 fl_X12_13 hP (by decide) sh_65 rfl dX12_told_65 ?_
    refine lv_iload_n hx hb dX12_told_68 rfl (lv_at hl 1 rfl) ?_
    have q2 := hw.1
    have hw := hw.2
    refine wk_iald C0 hP (by decide) sh_67 q2.1 q2.2 (by decide) dX12_told_69 ?_
    exact hret _ _ _ _ _ _ ⟨rfl, hw⟩ hP hS dX12_told_70
  by_cases hh1 : a1 = 1
  · have hw := hw.2.1 hh1
    refine lv_tableIn (off := 63) (tgt := 64) hx hb dX12_told_1 (by rw [hh1]; first | done | decide +kernel) (by rw [hh1]; first | done | decide +kernel) (by rw [hh1]; first | done | decide +kernel) (by decide) ?_
    refine lv_aload_n hx hb dX12_told_64 rfl (lv_at hl 0 rfl) ?_
    refine wk_getR 67 C0 fl_X12_13 hP (by decide) sh_65 rfl dX12_told_65 ?_
    refine lv_iload_n hx hb dX12_told_68 rfl (lv_at hl 1 rfl) ?_
    have q3 := hw.1
    have hw := hw.2
    refine wk_iald C0 hP (by decide) sh_67 q3.1 q3.2 (by decide) dX12_told_69 ?_
    exact hret _ _ _ _ _ _ ⟨rfl, hw⟩ hP hS dX12_told_70
  by_cases hh2 : a1 = 2
  · have hw := hw.2.2.1 hh2
    refine lv_tableIn (off := 63) (tgt := 64) hx hb dX12_told_1 (by rw [hh2]; first | done | decide +kernel) (by rw [hh2]; first | done | decide +kernel) (by rw [hh2]; first | done | decide +kernel) (by decide) ?_
    refine lv_aload_n hx hb dX12_told_64 rfl (lv_at hl 0 rfl) ?_
    refine wk_getR 67 C0 fl_X12_13 hP (by decide) sh_65 rfl dX12_told_65 ?_
    refine lv_iload_n hx hb dX12_told_68 rfl (lv_at hl 1 rfl) ?_
    have q4 := hw.1
    have hw := hw.2
    refine wk_iald C0 hP (by decide) sh_67 q4.1 q4.2 (by decide) dX12_told_69 ?_
    exact hret _ _ _ _ _ _ ⟨rfl, hw⟩ hP hS dX12_told_70
  by_cases hh3 : a1 = 3
  · have hw := hw.2.2.2.1 hh3
    refine lv_tableIn (off := 63) (tgt := 64) hx hb dX12_told_1 (by rw [hh3]; first | done | decide +kernel) (by rw [hh3]; first | done | decide +kernel) (by rw [hh3]; first | done | decide +kernel) (by decide) ?_
    refine lv_aload_n hx hb dX12_told_64 rfl (lv_at hl 0 rfl) ?_
    refine wk_getR 67 C0 fl_X12_13 hP (by decide) sh_65 rfl dX12_told_65 ?_
    refine lv_iload_n hx hb dX12_told_68 rfl (lv_at hl 1 rfl) ?_
    have q5 := hw.1
    have hw := hw.2
    refine wk_iald C0 hP (by decide) sh_67 q5.1 q5.2 (by decide) dX12_told_69 ?_
    exact hret _ _ _ _ _ _ ⟨rfl, hw⟩ hP hS dX12_told_70
  by_cases hh4 : a1 = 4
  · have hw := hw.2.2.2.2.1 hh4
    refine lv_tableIn (off := 70) (tgt := 71) hx hb dX12_told_1 (by rw [hh4]; first | done | decide +kernel) (by rw [hh4]; first | done | decide +kernel) (by rw [hh4]; first | done | decide +kernel) (by decide) ?_
    refine lv_aload_n hx hb dX12_told_71 rfl (lv_at hl 0 rfl) ?_
    refine wk_getI C0 fl_X12_72 hP (by decide) sh_65 rfl dX12_told_72 ?_
    exact hret _ _ _ _ _ _ ⟨rfl, hw⟩ hP hS dX12_told_75
  by_cases hh5 : a1 = 5
  · have hw := hw.2.2.2.2.2.1 hh5
    refine lv_tableIn (off := 75) (tgt := 76) hx hb dX12_told_1 (by rw [hh5]; first | done | decide +kernel) (by rw [hh5]; first | done | decide +kernel) (by rw [hh5]; first | done | decide +kernel) (by decide) ?_
    refine lv_aload_n hx hb dX12_told_76 rfl (lv_at hl 0 rfl) ?_
    refine wk_getR 69 C0 fl_X12_19 hP (by decide) sh_65 rfl dX12_told_77 ?_
    refine lv_iconst (v := iI 0) hx hb dX12_told_80 rfl ?_
    refine wk_iald C0 hP (by decide) sh_69 (by decide) (by decide) (by decide) dX12_told_81 ?_
    rw [show (0 : Int).toNat = 0 from rfl]
    exact hret _ _ _ _ _ _ ⟨rfl, hw⟩ hP hS dX12_told_82
  by_cases hh6 : a1 = 6
  · have hw := hw.2.2.2.2.2.2.1 hh6
    refine lv_tableIn (off := 82) (tgt := 83) hx hb dX12_told_1 (by rw [hh6]; first | done | decide +kernel) (by rw [hh6]; first | done | decide +kernel) (by rw [hh6]; first | done | decide +kernel) (by decide) ?_
    refine lv_iconst (v := iI 1) hx hb dX12_told_83 rfl ?_
    refine lv_aload_n hx hb dX12_told_84 rfl (lv_at hl 0 rfl) ?_
    refine wk_getR 67 C0 fl_X12_13 hP (by decide) sh_65 rfl dX12_told_85 ?_
    refine lv_iconst (v := iI 2) hx hb dX12_told_88 rfl ?_
    refine wk_iald C0 hP (by decide) sh_67 (by decide) (by decide) (by decide) dX12_told_89 ?_
    rw [show (2 : Int).toNat = 2 from rfl]
    refine wk_ishl hx hb dX12_told_90 ?_
    refine lv_iconst (v := iI 1) hx hb dX12_told_91 rfl ?_
    refine wk_isub hx hb dX12_told_92 ?_
    refine lv_aload_n hx hb dX12_told_93 rfl (lv_at hl 0 rfl) ?_
    refine wk_rip (wk_callV (rest := [.int (iI ((zshl 1 (sg 67 2)) - 1))]) C0 cl_X12_122 (ok_X12_inBed hI hw) hP (by decide) sh_65 rfl rfl rfl (Nat.le_of_ble_eq_true rfl) (wk_room (by decide) (by decide)) hl.1 dX12_told_94 ⟨Nat.le_refl _, Nat.le_refl _⟩) hS (fun r6 H locs hw hP hS => ?_)
    refine lv_iconst (v := iI (-1)) hx hb dX12_told_97 rfl ?_
    refine wk_ixor hx hb dX12_told_98 ?_
    refine wk_iand hx hb dX12_told_99 ?_
    exact hret _ _ _ _ _ _ ⟨rfl, hw⟩ hP hS dX12_told_100
  by_cases hh7 : a1 = 7
  · have hw := hw.2.2.2.2.2.2.2.1 hh7
    refine lv_tableIn (off := 100) (tgt := 101) hx hb dX12_told_1 (by rw [hh7]; first | done | decide +kernel) (by rw [hh7]; first | done | decide +kernel) (by rw [hh7]; first | done | decide +kernel) (by decide) ?_
    refine lv_aload_n hx hb dX12_told_101 rfl (lv_at hl 0 rfl) ?_
    refine wk_rip (wk_callV (rest := []) C0 cl_X12_142 (ok_X12_awake hI hw) hP (by decide) sh_65 rfl rfl rfl (Nat.le_of_ble_eq_true rfl) (wk_room (by decide) (by decide)) hl.1 dX12_told_102 ⟨Nat.le_refl _, Nat.le_refl _⟩) hS (fun r7 H locs hw hP hS => ?_)
    exact hret _ _ _ _ _ _ ⟨rfl, hw⟩ hP hS dX12_told_105
  by_cases hh8 : a1 = 8
  · have hw := hw.2.2.2.2.2.2.2.2.1 hh8
    refine lv_tableIn (off := 105) (tgt := 106) hx hb dX12_told_1 (by rw [hh8]; first | done | decide +kernel) (by rw [hh8]; first | done | decide +kernel) (by rw [hh8]; first | done | decide +kernel) (by decide) ?_
    refine lv_aload_n hx hb dX12_told_106 rfl (lv_at hl 0 rfl) ?_
    refine wk_rip (wk_callV (rest := []) C0 cl_X12_145 (ok_X12_coldest hI hw) hP (by decide) sh_65 rfl rfl rfl (Nat.le_of_ble_eq_true rfl) (wk_room (by decide) (by decide)) hl.1 dX12_told_107 ⟨Nat.le_refl _, Nat.le_refl _⟩) hS (fun r8 H locs hw hP hS => ?_)
    exact hret _ _ _ _ _ _ ⟨rfl, hw⟩ hP hS dX12_told_110
  by_cases hh9 : a1 = 9
  · have hw := hw.2.2.2.2.2.2.2.2.2.1 hh9
    refine lv_tableIn (off := 110) (tgt := 111) hx hb dX12_told_1 (by rw [hh9]; first | done | decide +kernel) (by rw [hh9]; first | done | decide +kernel) (by rw [hh9]; first | done | decide +kernel) (by decide) ?_
    refine lv_aload_n hx hb dX12_told_111 rfl (lv_at hl 0 rfl) ?_
    refine wk_getI C0 fl_X12_113 hP (by decide) sh_65 rfl dX12_told_112 ?_
    exact hret _ _ _ _ _ _ ⟨rfl, hw⟩ hP hS dX12_told_115
  by_cases hh10 : a1 = 10
  · have hw := hw.2.2.2.2.2.2.2.2.2.2.1 hh10
    refine lv_tableIn (off := 115) (tgt := 116) hx hb dX12_told_1 (by rw [hh10]; first | done | decide +kernel) (by rw [hh10]; first | done | decide +kernel) (by rw [hh10]; first | done | decide +kernel) (by decide) ?_
    refine lv_aload_n hx hb dX12_told_116 rfl (lv_at hl 0 rfl) ?_
    refine wk_getI C0 fl_X12_116 hP (by decide) sh_65 rfl dX12_told_117 ?_
    exact hret _ _ _ _ _ _ ⟨rfl, hw⟩ hP hS dX12_told_120
  by_cases hh11 : a1 = 11
  · have hw := hw.2.2.2.2.2.2.2.2.2.2.2.1 hh11
    refine lv_tableIn (off := 120) (tgt := 121) hx hb dX12_told_1 (by rw [hh11]; first | done | decide +kernel) (by rw [hh11]; first | done | decide +kernel) (by rw [hh11]; first | done | decide +kernel) (by decide) ?_
    refine lv_aload_n hx hb dX12_told_121 rfl (lv_at hl 0 rfl) ?_
    refine wk_getI C0 fl_X12_119 hP (by decide) sh_65 rfl dX12_told_122 ?_
    exact hret _ _ _ _ _ _ ⟨rfl, hw⟩ hP hS dX12_told_125
  have hw := hw.2.2.2.2.2.2.2.2.2.2.2.2 (by omega)
  refine lv_tableOut (tgt := 126) hx hb dX12_told_1 (by rw [iI_toInt q1]; omega) (by decide) ?_
  refine lv_ldc (own := RX12) (v := iI (-1000000002)) hx hb hown (htb _ ki_X12_71) dX12_told_126 ?_
  exact hret _ _ _ _ _ _ ⟨rfl, hw⟩ hP hS dX12_told_128

set_option maxRecDepth 100000 in
set_option maxHeartbeats 4000000 in
theorem ok_X12_place {l : Launch} {D : va_G} {cA : Nat → ClassId} {ad : Nat → Nat} (hI : wI ad) {a1 : Int} {a2 : Int} {sg : Mem} {Q : Int → Prop} (hw : wp_X12_place a1 a2 sg Q) : wMi l D cA ad yX12_place cX12_place 3 (some .int) 3 [.ref (ad 65), .int (iI a1), .int (iI a2)] sg (fun z u => u = sg ∧ Q z) := by
  refine wk_ofI (by decide) hI (Nat.le_of_ble_eq_true rfl) ?_
  intro p e s m below meth c A QQ ls C0 hret hl hP
  have hx := C0.1
  have hb := C0.2.1
  have hown := C0.2.2.2.1
  have htb := C0.2.2.2.2.1
  have hl : lv_has ls 3 [(0, .ref (ad 65)), (1, .int (iI a1)), (2, .int (iI a2))] := hl
  refine (fun (key : ∀ (H : Heap) (locs : List Loc), wP D cA ad sg H → va_S (wA ad) s.heap H locs → W p l e (rmL 3) s m A below meth c H locs 0 0 QQ (F0 m 0 ls [])) => key _ _ hP va_S.rf) ?_
  intro H locs hP hS
  unfold wp_X12_place at hw
  refine lv_aload_n hx hb dX12_place_0 rfl (lv_at hl 0 rfl) ?_
  refine lv_iload_n hx hb dX12_place_1 rfl (lv_at hl 1 rfl) ?_
  refine wk_rip (wk_callV (rest := []) C0 cl_X12_148 (ok_X12_isPlace hI hw) hP (by decide) sh_65 rfl rfl rfl (Nat.le_of_ble_eq_true rfl) (wk_room (by decide) (by decide)) hl.1 dX12_place_2 ⟨Nat.le_refl _, Nat.le_refl _⟩) hS (fun r1 H locs hw hP hS => ?_)
  have q2 := hw.1
  have hw := hw.2
  refine wk_if_ne hx hb q2 (tgt := 11) dX12_place_5 (by decide) (fun hh => ?_) (fun hh => ?_)
  · have hw := hw.2 hh
    refine lv_iload_n hx hb dX12_place_11 rfl (lv_at hl 2 rfl) ?_
    have q3 := hw.1
    have hw := hw.2
    refine wk_if_ne hx hb q3 (tgt := 27) dX12_place_12 (by decide) (fun hh => ?_) (fun hh => ?_)
    · have hw := hw.2 hh
      refine lv_iload_n hx hb dX12_place_27 rfl (lv_at hl 2 rfl) ?_
      refine lv_iconst (v := iI 1) hx hb dX12_place_28 rfl ?_
      refine wk_icmp_ne hx hb q3 ⟨by decide, by decide⟩ (tgt := 43) dX12_place_29 (by decide) (fun hh => ?_) (fun hh => ?_)
      · have hw := hw.2 hh
        refine lv_ldc (own := RX12) (v := iI (-1000000002)) hx hb hown (htb _ ki_X12_71) dX12_place_43 ?_
        exact hret _ _ _ _ _ _ ⟨rfl, hw⟩ hP hS dX12_place_45
      · have hw := hw.1 hh
        refine lv_aload_n hx hb dX12_place_32 rfl (lv_at hl 0 rfl) ?_
        refine wk_getR 69 C0 fl_X12_19 hP (by decide) sh_65 rfl dX12_place_33 ?_
        refine lv_iconst (v := iI 1) hx hb dX12_place_36 rfl ?_
        refine lv_iload_n hx hb dX12_place_37 rfl (lv_at hl 1 rfl) ?_
        refine wk_iadd hx hb dX12_place_38 ?_
        have q5 := hw.1
        have hw := hw.2
        refine wk_iald C0 hP (by decide) sh_69 q5.1 q5.2 (by decide) dX12_place_39 ?_
        refine lv_goto (tgt := 45) hx hb dX12_place_40 (by decide) ?_
        exact hret _ _ _ _ _ _ ⟨rfl, hw⟩ hP hS dX12_place_45
    · have hw := hw.1 hh
      refine lv_aload_n hx hb dX12_place_15 rfl (lv_at hl 0 rfl) ?_
      refine wk_getR 67 C0 fl_X12_13 hP (by decide) sh_65 rfl dX12_place_16 ?_
      refine lv_bipush (v := iI 6) hx hb dX12_place_19 (by decide +kernel) ?_
      refine lv_iload_n hx hb dX12_place_21 rfl (lv_at hl 1 rfl) ?_
      refine wk_iadd hx hb dX12_place_22 ?_
      have q4 := hw.1
      have hw := hw.2
      refine wk_iald C0 hP (by decide) sh_67 q4.1 q4.2 (by decide) dX12_place_23 ?_
      refine lv_goto (tgt := 45) hx hb dX12_place_24 (by decide) ?_
      exact hret _ _ _ _ _ _ ⟨rfl, hw⟩ hP hS dX12_place_45
  · have hw := hw.1 hh
    refine lv_ldc (own := RX12) (v := iI (-1000000001)) hx hb hown (htb _ ki_X12_152) dX12_place_8 ?_
    exact hret _ _ _ _ _ _ ⟨rfl, hw⟩ hP hS dX12_place_10

set_option maxRecDepth 100000 in
set_option maxHeartbeats 4000000 in
theorem ok_X12_sleeper {l : Launch} {D : va_G} {cA : Nat → ClassId} {ad : Nat → Nat} (hI : wI ad) {a1 : Int} {a2 : Int} {sg : Mem} {Q : Int → Prop} (hw : wp_X12_sleeper a1 a2 sg Q) : wMi l D cA ad yX12_sleeper cX12_sleeper 3 (some .int) 3 [.ref (ad 65), .int (iI a1), .int (iI a2)] sg (fun z u => u = sg ∧ Q z) := by
  refine wk_ofI (by decide) hI (Nat.le_of_ble_eq_true rfl) ?_
  intro p e s m below meth c A QQ ls C0 hret hl hP
  have hx := C0.1
  have hb := C0.2.1
  have hown := C0.2.2.2.1
  have htb := C0.2.2.2.2.1
  have hl : lv_has ls 3 [(0, .ref (ad 65)), (1, .int (iI a1)), (2, .int (iI a2))] := hl
  refine (fun (key : ∀ (H : Heap) (locs : List Loc), wP D cA ad sg H → va_S (wA ad) s.heap H locs → W p l e (rmL 3) s m A below meth c H locs 0 0 QQ (F0 m 0 ls [])) => key _ _ hP va_S.rf) ?_
  intro H locs hP hS
  unfold wp_X12_sleeper at hw
  refine lv_aload_n hx hb dX12_sleeper_0 rfl (lv_at hl 0 rfl) ?_
  refine lv_iload_n hx hb dX12_sleeper_1 rfl (lv_at hl 1 rfl) ?_
  refine wk_rip (wk_callV (rest := []) C0 cl_X12_153 (ok_X12_isSleeper hI hw) hP (by decide) sh_65 rfl rfl rfl (Nat.le_of_ble_eq_true rfl) (wk_room (by decide) (by decide)) hl.1 dX12_sleeper_2 ⟨Nat.le_refl _, Nat.le_refl _⟩) hS (fun r1 H locs hw hP hS => ?_)
  have q2 := hw.1
  have hw := hw.2
  refine wk_if_ne hx hb q2 (tgt := 11) dX12_sleeper_5 (by decide) (fun hh => ?_) (fun hh => ?_)
  · have hw := hw.2 hh
    refine lv_iload_n hx hb dX12_sleeper_11 rfl (lv_at hl 2 rfl) ?_
    have q3 := hw.1
    have hw := hw.2
    refine wk_if_ne hx hb q3 (tgt := 27) dX12_sleeper_12 (by decide) (fun hh => ?_) (fun hh => ?_)
    · have hw := hw.2 hh
      refine lv_iload_n hx hb dX12_sleeper_27 rfl (lv_at hl 2 rfl) ?_
      refine wk_i2l hx hb q3 dX12_sleeper_28 ?_
      refine lv_lconst (v := iL 1) hx hb dX12_sleeper_29 rfl ?_
      refine lv_ldc2 (own := RX12) (v := iL 3) hx hb hown (htb _ kl_X12_156) dX12_sleeper_30 ?_
      refine wk_rip (wk_callS (rest := []) C0 cl_X12_67 (ok_X12_in hI hw) hP rfl rfl (Nat.le_of_ble_eq_true rfl) (wk_room (by decide) (by decide)) hl.1 dX12_sleeper_33 ⟨Nat.le_refl _, Nat.le_refl _⟩) hS (fun r5 H locs hw hP hS => ?_)
      have q6 := hw.1
      have hw := hw.2
      refine wk_if_eq hx hb q6 (tgt := 55) dX12_sleeper_36 (by decide) (fun hh => ?_) (fun hh => ?_)
      · have hw := hw.1 hh
        refine lv_iload_n hx hb dX12_sleeper_55 rfl (lv_at hl 2 rfl) ?_
        refine lv_iconst (v := iI 4) hx hb dX12_sleeper_56 rfl ?_
        refine wk_icmp_ne hx hb q3 ⟨by decide, by decide⟩ (tgt := 68) dX12_sleeper_57 (by decide) (fun hh => ?_) (fun hh => ?_)
        · have hw := hw.2 hh
          refine lv_ldc (own := RX12) (v := iI (-1000000002)) hx hb hown (htb _ ki_X12_71) dX12_sleeper_68 ?_
          exact hret _ _ _ _ _ _ ⟨rfl, hw⟩ hP hS dX12_sleeper_70
        · have hw := hw.1 hh
          refine lv_aload_n hx hb dX12_sleeper_60 rfl (lv_at hl 0 rfl) ?_
          refine lv_iload_n hx hb dX12_sleeper_61 rfl (lv_at hl 1 rfl) ?_
          refine wk_rip (wk_callV (rest := []) C0 cl_X12_133 (ok_X12_placeOf hI hw) hP (by decide) sh_65 rfl rfl rfl (Nat.le_of_ble_eq_true rfl) (wk_room (by decide) (by decide)) hl.1 dX12_sleeper_62 ⟨Nat.le_refl _, Nat.le_refl _⟩) hS (fun r7 H locs hw hP hS => ?_)
          refine lv_goto (tgt := 70) hx hb dX12_sleeper_65 (by decide) ?_
          exact hret _ _ _ _ _ _ ⟨rfl, hw⟩ hP hS dX12_sleeper_70
      · have hw := hw.2 hh
        refine lv_aload_n hx hb dX12_sleeper_39 rfl (lv_at hl 0 rfl) ?_
        refine wk_getR 67 C0 fl_X12_13 hP (by decide) sh_65 rfl dX12_sleeper_40 ?_
        refine lv_bipush (v := iI 12) hx hb dX12_sleeper_43 (by decide +kernel) ?_
        refine lv_iconst (v := iI 4) hx hb dX12_sleeper_45 rfl ?_
        refine lv_iload_n hx hb dX12_sleeper_46 rfl (lv_at hl 1 rfl) ?_
        refine wk_imul hx hb dX12_sleeper_47 ?_
        refine wk_iadd hx hb dX12_sleeper_48 ?_
        refine lv_iload_n hx hb dX12_sleeper_49 rfl (lv_at hl 2 rfl) ?_
        refine wk_iadd hx hb dX12_sleeper_50 ?_
        have q8 := hw.1
        have hw := hw.2
        refine wk_iald C0 hP (by decide) sh_67 q8.1 q8.2 (by decide) dX12_sleeper_51 ?_
        refine lv_goto (tgt := 70) hx hb dX12_sleeper_52 (by decide) ?_
        exact hret _ _ _ _ _ _ ⟨rfl, hw⟩ hP hS dX12_sleeper_70
    · have hw := hw.1 hh
      refine lv_aload_n hx hb dX12_sleeper_15 rfl (lv_at hl 0 rfl) ?_
      refine wk_getR 69 C0 fl_X12_19 hP (by decide) sh_65 rfl dX12_sleeper_16 ?_
      refine lv_bipush (v := iI 7) hx hb dX12_sleeper_19 (by decide +kernel) ?_
      refine lv_iload_n hx hb dX12_sleeper_21 rfl (lv_at hl 1 rfl) ?_
      refine wk_iadd hx hb dX12_sleeper_22 ?_
      have q4 := hw.1
      have hw := hw.2
      refine wk_iald C0 hP (by decide) sh_69 q4.1 q4.2 (by decide) dX12_sleeper_23 ?_
      refine lv_goto (tgt := 70) hx hb dX12_sleeper_24 (by decide) ?_
      exact hret _ _ _ _ _ _ ⟨rfl, hw⟩ hP hS dX12_sleeper_70
  · have hw := hw.1 hh
    refine lv_ldc (own := RX12) (v := iI (-1000000001)) hx hb hown (htb _ ki_X12_152) dX12_sleeper_8 ?_
    exact hret _ _ _ _ _ _ ⟨rfl, hw⟩ hP hS dX12_sleeper_10

set_option maxRecDepth 100000 in
set_option maxHeartbeats 4000000 in
theorem ok_X12_rule {l : Launch} {D : va_G} {cA : Nat → ClassId} {ad : Nat → Nat} (hI : wI ad) {a1 : Int} {sg : Mem} {Q : Int → Prop} (hw : wp_X12_rule a1 sg Q) : wMi l D cA ad yX12_rule cX12_rule 2 (some .int) 2 [.ref (ad 65), .int (iI a1)] sg (fun z u => u = sg ∧ Q z) := by
  refine wk_ofI (by decide) hI (Nat.le_of_ble_eq_true rfl) ?_
  intro p e s m below meth c A QQ ls C0 hret hl hP
  have hx := C0.1
  have hb := C0.2.1
  have hown := C0.2.2.2.1
  have htb := C0.2.2.2.2.1
  have hl : lv_has ls 2 [(0, .ref (ad 65)), (1, .int (iI a1))] := hl
  refine (fun (key : ∀ (H : Heap) (locs : List Loc), wP D cA ad sg H → va_S (wA ad) s.heap H locs → W p l e (rmL 2) s m A below meth c H locs 0 0 QQ (F0 m 0 ls [])) => key _ _ hP va_S.rf) ?_
  intro H locs hP hS
  unfold wp_X12_rule at hw
  refine lv_iload_n hx hb dX12_rule_0 rfl (lv_at hl 1 rfl) ?_
  have q1 := hw.1
  have hw := hw.2
  refine wk_i2l hx hb q1 dX12_rule_1 ?_
  refine lv_lconst (v := iL 0) hx hb dX12_rule_2 rfl ?_
  refine lv_aload_n hx hb dX12_rule_3 rfl (lv_at hl 0 rfl) ?_
  refine wk_getR 67 C0 fl_X12_13 hP (by decide) sh_65 rfl dX12_rule_4 ?_
  refine lv_iconst (v := iI 3) hx hb dX12_rule_7 rfl ?_
  refine wk_iald C0 hP (by decide) sh_67 (by decide) (by decide) (by decide) dX12_rule_8 ?_
  rw [show (3 : Int).toNat = 3 from rfl]
  refine lv_iconst (v := iI 1) hx hb dX12_rule_9 rfl ?_
  refine wk_isub hx hb dX12_rule_10 ?_
  have q2 := hw.1
  have hw := hw.2
  refine wk_i2l hx hb q2 dX12_rule_11 ?_
  refine wk_rip (wk_callS (rest := []) C0 cl_X12_67 (ok_X12_in hI hw) hP rfl rfl (Nat.le_of_ble_eq_true rfl) (wk_room (by decide) (by decide)) hl.1 dX12_rule_12 ⟨Nat.le_refl _, Nat.le_refl _⟩) hS (fun r3 H locs hw hP hS => ?_)
  have q4 := hw.1
  have hw := hw.2
  refine wk_if_eq hx hb q4 (tgt := 30) dX12_rule_15 (by decide) (fun hh => ?_) (fun hh => ?_)
  · have hw := hw.1 hh
    refine lv_iconst (v := iI (-1)) hx hb dX12_rule_30 rfl ?_
    exact hret _ _ _ _ _ _ ⟨rfl, hw⟩ hP hS dX12_rule_31
  · have hw := hw.2 hh
    refine lv_aload_n hx hb dX12_rule_18 rfl (lv_at hl 0 rfl) ?_
    refine wk_getR 67 C0 fl_X12_13 hP (by decide) sh_65 rfl dX12_rule_19 ?_
    refine lv_bipush (v := iI 36) hx hb dX12_rule_22 (by decide +kernel) ?_
    refine lv_iload_n hx hb dX12_rule_24 rfl (lv_at hl 1 rfl) ?_
    refine wk_iadd hx hb dX12_rule_25 ?_
    have q5 := hw.1
    have hw := hw.2
    refine wk_iald C0 hP (by decide) sh_67 q5.1 q5.2 (by decide) dX12_rule_26 ?_
    refine lv_goto (tgt := 31) hx hb dX12_rule_27 (by decide) ?_
    exact hret _ _ _ _ _ _ ⟨rfl, hw⟩ hP hS dX12_rule_31

set_option maxRecDepth 100000 in
set_option maxHeartbeats 4000000 in
theorem ok_X12_notes {l : Launch} {D : va_G} {cA : Nat → ClassId} {ad : Nat → Nat} (hI : wI ad) {sg : Mem} {Q : Mem → Prop} (hw : wp_X12_notes sg Q) : wMv l D cA ad yX12_notes cX12_notes 2 none 1 [.ref (ad 65)] sg Q := by
  refine wk_ofV (by decide) hI (Nat.le_of_ble_eq_true rfl) ?_
  intro p e s m below meth c A QQ ls C0 hret hl hP
  have hx := C0.1
  have hb := C0.2.1
  have hown := C0.2.2.2.1
  have htb := C0.2.2.2.2.1
  have hl : lv_has ls 2 [(0, .ref (ad 65))] := hl
  refine (fun (key : ∀ (H : Heap) (locs : List Loc), wP D cA ad sg H → va_S (wA ad) s.heap H locs → W p l e (rmL 1) s m A below meth c H locs 0 0 QQ (F0 m 0 ls [])) => key _ _ hP va_S.rf) ?_
  intro H locs hP hS
  unfold wp_X12_notes at hw
  refine lv_aload_n hx hb dX12_notes_0 rfl (lv_at hl 0 rfl) ?_
  refine wk_getI C0 fl_X12_119 hP (by decide) sh_65 rfl dX12_notes_1 ?_
  refine lv_bipush (v := iI 30) hx hb dX12_notes_4 (by decide +kernel) ?_
  have q1 := hw.1
  have hw := hw.2
  obtain ⟨X46, hX46, hw⟩ := hw
  have kX46 : ∀ (s2 : Mem) (H : Heap) (locs : List Loc) (ls : Array Slot), wP D cA ad s2 H → va_S (wA ad) s.heap H locs → lv_has ls 2 [(0, .ref (ad 65))] → X46 s2 → W p l e (rmL 1) s m A below meth c H locs 0 0 QQ (F0 m 46 ls []) := by
    intro s2 H locs ls hP hS hl hw
    have hw := hX46 s2 hw
    refine lv_iconst (v := iI 0) hx hb dX12_notes_46 rfl ?_
    refine lv_istore_n (lv' := [(1, .int (iI 0)), (0, .ref (ad 65))]) hx hb dX12_notes_47 rfl hl (by decide) rfl (fun ls hl => ?_)
    obtain ⟨I48, hI48, hw⟩ := hw
    have kI48 : ∀ (k48 : Nat) (y1_3 : Int) (s4 : Mem) (H : Heap) (locs : List Loc) (ls : Array Slot), wP D cA ad s4 H → va_S (wA ad) s.heap H locs → lv_has ls 2 [(0, .ref (ad 65)), (1, .int (iI y1_3))] → I48 k48 y1_3 s4 → W p l e (rmL 1) s m A below meth c H locs 0 0 QQ (F0 m 48 ls []) := by
      intro k48
      induction k48 using Nat.strongRecOn with
      | _ k48 ih48 =>
        intro y1_3 s4 H locs ls hP hS hl hw
        have hw := hI48 k48 y1_3 s4 hw
        refine lv_iload_n hx hb dX12_notes_48 rfl (lv_at hl 1 rfl) ?_
        refine lv_bipush (v := iI 13) hx hb dX12_notes_49 (by decide +kernel) ?_
        have q5 := hw.1
        have hw := hw.2
        refine wk_icmp_ge hx hb q5 ⟨by decide, by decide⟩ (tgt := 80) dX12_notes_51 (by decide) (fun hh => ?_) (fun hh => ?_)
        · have hw := hw.1 hh
          refine lv_aload_n hx hb dX12_notes_80 rfl (lv_at hl 0 rfl) ?_
          refine lv_dup hx hb dX12_notes_81 rfl ?_
          refine wk_getI C0 fl_X12_119 hP (by decide) sh_65 rfl dX12_notes_82 ?_
          refine lv_iconst (v := iI 1) hx hb dX12_notes_85 rfl ?_
          refine wk_iadd hx hb dX12_notes_86 ?_
          refine wk_putI C0 fl_X12_119 rfl rfl hP hS (by decide) sh_65 rfl dX12_notes_87 (fun s6 H locs es6 hP hS => ?_)
          have hw := hw s6 es6
          exact hret _ _ _ _ _ hw hP hS dX12_notes_90
        · have hw := hw.2 hh
          refine lv_aload_n hx hb dX12_notes_54 rfl (lv_at hl 0 rfl) ?_
          refine wk_getR 71 C0 fl_X12_25 hP (by decide) sh_65 rfl dX12_notes_55 ?_
          refine lv_bipush (v := iI 13) hx hb dX12_notes_58 (by decide +kernel) ?_
          refine lv_aload_n hx hb dX12_notes_60 rfl (lv_at hl 0 rfl) ?_
          refine wk_getI C0 fl_X12_119 hP (by decide) sh_65 rfl dX12_notes_61 ?_
          refine wk_imul hx hb dX12_notes_64 ?_
          refine lv_iload_n hx hb dX12_notes_65 rfl (lv_at hl 1 rfl) ?_
          refine wk_iadd hx hb dX12_notes_66 ?_
          refine lv_aload_n hx hb dX12_notes_67 rfl (lv_at hl 0 rfl) ?_
          refine wk_getR 69 C0 fl_X12_19 hP (by decide) sh_65 rfl dX12_notes_68 ?_
          refine lv_iload_n hx hb dX12_notes_71 rfl (lv_at hl 1 rfl) ?_
          have q7 := hw.1
          have hw := hw.2
          refine wk_iald C0 hP (by decide) sh_69 q7.1 q7.2 (by decide) dX12_notes_72 ?_
          have q8 := hw.1
          have hw := hw.2
          refine wk_iast C0 hP hS (by decide) sh_71 q8.1 q8.2 (by decide) dX12_notes_73 (fun s9 H locs es9 hP hS => ?_)
          have hw := hw s9 es9
          refine wk_iinc (lv' := fun x1_10 => [(1, .int (iI x1_10)), (0, .ref (ad 65))]) hx hb dX12_notes_74 hl (k := 1) rfl (by decide) (fun _ => rfl) (fun x1_10 ls ex1_10 hl => ?_)
          have hw := hw x1_10 ex1_10
          refine lv_goto (tgt := 48) hx hb dX12_notes_77 (by decide) ?_
          obtain ⟨k11, hk11, hw⟩ := hw
          exact ih48 k11 hk11 x1_10 s9 _ _ _ hP hS (lv_sub hl [1, 0] rfl) hw
    obtain ⟨k12, hw⟩ := hw
    exact kI48 k12 0 s2 _ _ _ hP hS (lv_sub hl [1, 0] rfl) hw
  refine wk_icmp_ne hx hb q1 ⟨by decide, by decide⟩ (tgt := 46) dX12_notes_6 (by decide) (fun hh => ?_) (fun hh => ?_)
  · have hw := hw.2 hh
    exact kX46 sg _ _ _ hP hS (lv_sub hl [0] rfl) hw
  · have hw := hw.1 hh
    refine lv_bipush (v := iI 13) hx hb dX12_notes_9 (by decide +kernel) ?_
    refine lv_istore_n (lv' := [(1, .int (iI 13)), (0, .ref (ad 65))]) hx hb dX12_notes_11 rfl hl (by decide) rfl (fun ls hl => ?_)
    obtain ⟨I12, hI12, hw⟩ := hw
    have kI12 : ∀ (k12 : Nat) (y1_13 : Int) (s14 : Mem) (H : Heap) (locs : List Loc) (ls : Array Slot), wP D cA ad s14 H → va_S (wA ad) s.heap H locs → lv_has ls 2 [(0, .ref (ad 65)), (1, .int (iI y1_13))] → I12 k12 y1_13 s14 → W p l e (rmL 1) s m A below meth c H locs 0 0 QQ (F0 m 12 ls []) := by
      intro k12
      induction k12 using Nat.strongRecOn with
      | _ k12 ih12 =>
        intro y1_13 s14 H locs ls hP hS hl hw
        have hw := hI12 k12 y1_13 s14 hw
        refine lv_iload_n hx hb dX12_notes_12 rfl (lv_at hl 1 rfl) ?_
        refine lv_sipush (v := iI 390) hx hb dX12_notes_13 (by decide +kernel) ?_
        have q15 := hw.1
        have hw := hw.2
        refine wk_icmp_ge hx hb q15 ⟨by decide, by decide⟩ (tgt := 40) dX12_notes_16 (by decide) (fun hh => ?_) (fun hh => ?_)
        · have hw := hw.1 hh
          refine lv_aload_n hx hb dX12_notes_40 rfl (lv_at hl 0 rfl) ?_
          refine lv_bipush (v := iI 29) hx hb dX12_notes_41 (by decide +kernel) ?_
          refine wk_putI C0 fl_X12_119 rfl rfl hP hS (by decide) sh_65 rfl dX12_notes_43 (fun s16 H locs es16 hP hS => ?_)
          have hw := hw s16 es16
          exact kX46 s16 _ _ _ hP hS (lv_sub hl [0] rfl) hw
        · have hw := hw.2 hh
          refine lv_aload_n hx hb dX12_notes_19 rfl (lv_at hl 0 rfl) ?_
          refine wk_getR 71 C0 fl_X12_25 hP (by decide) sh_65 rfl dX12_notes_20 ?_
          refine lv_iload_n hx hb dX12_notes_23 rfl (lv_at hl 1 rfl) ?_
          refine lv_bipush (v := iI 13) hx hb dX12_notes_24 (by decide +kernel) ?_
          refine wk_isub hx hb dX12_notes_26 ?_
          refine lv_aload_n hx hb dX12_notes_27 rfl (lv_at hl 0 rfl) ?_
          refine wk_getR 71 C0 fl_X12_25 hP (by decide) sh_65 rfl dX12_notes_28 ?_
          refine lv_iload_n hx hb dX12_notes_31 rfl (lv_at hl 1 rfl) ?_
          have q17 := hw.1
          have hw := hw.2
          refine wk_iald C0 hP (by decide) sh_71 q17.1 q17.2 (by decide) dX12_notes_32 ?_
          have q18 := hw.1
          have hw := hw.2
          refine wk_iast C0 hP hS (by decide) sh_71 q18.1 q18.2 (by decide) dX12_notes_33 (fun s19 H locs es19 hP hS => ?_)
          have hw := hw s19 es19
          refine wk_iinc (lv' := fun x1_20 => [(1, .int (iI x1_20)), (0, .ref (ad 65))]) hx hb dX12_notes_34 hl (k := 1) rfl (by decide) (fun _ => rfl) (fun x1_20 ls ex1_20 hl => ?_)
          have hw := hw x1_20 ex1_20
          refine lv_goto (tgt := 12) hx hb dX12_notes_37 (by decide) ?_
          obtain ⟨k21, hk21, hw⟩ := hw
          exact ih12 k21 hk21 x1_20 s19 _ _ _ hP hS (lv_sub hl [1, 0] rfl) hw
    obtain ⟨k22, hw⟩ := hw
    exact kI12 k22 13 sg _ _ _ hP hS (lv_sub hl [1, 0] rfl) hw

set_option maxRecDepth 100000 in
set_option maxHeartbeats 4000000 in
theorem ok_X12_refusal {l : Launch} {D : va_G} {cA : Nat → ClassId} {ad : Nat → Nat} (hI : wI ad) {sg : Mem} {Q : Int → Prop} (hw : wp_X12_refusal sg Q) : wMi l D cA ad yX12_refusal cX12_refusal 1 (some .int) 1 [.ref (ad 65)] sg (fun z u => u = sg ∧ Q z) := by
  refine wk_ofI (by decide) hI (Nat.le_of_ble_eq_true rfl) ?_
  intro p e s m below meth c A QQ ls C0 hret hl hP
  have hx := C0.1
  have hb := C0.2.1
  have hown := C0.2.2.2.1
  have htb := C0.2.2.2.2.1
  have hl : lv_has ls 1 [(0, .ref (ad 65))] := hl
  refine (fun (key : ∀ (H : Heap) (locs : List Loc), wP D cA ad sg H → va_S (wA ad) s.heap H locs → W p l e (rmL 1) s m A below meth c H locs 0 0 QQ (F0 m 0 ls [])) => key _ _ hP va_S.rf) ?_
  intro H locs hP hS
  unfold wp_X12_refusal at hw
  refine lv_aload_n hx hb dX12_refusal_0 rfl (lv_at hl 0 rfl) ?_
  refine wk_getR 67 C0 fl_X12_13 hP (by decide) sh_65 rfl dX12_refusal_1 ?_
  refine lv_iconst (v := iI 0) hx hb dX12_refusal_4 rfl ?_
  refine wk_iald C0 hP (by decide) sh_67 (by decide) (by decide) (by decide) dX12_refusal_5 ?_
  rw [show (0 : Int).toNat = 0 from rfl]
  have q1 := hw.1
  have hw := hw.2
  refine wk_if_ne hx hb q1 (tgt := 14) dX12_refusal_6 (by decide) (fun hh => ?_) (fun hh => ?_)
  · have hw := hw.2 hh
    refine lv_aload_n hx hb dX12_refusal_14 rfl (lv_at hl 0 rfl) ?_
    refine wk_getR 69 C0 fl_X12_19 hP (by decide) sh_65 rfl dX12_refusal_15 ?_
    refine lv_iconst (v := iI 0) hx hb dX12_refusal_18 rfl ?_
    refine wk_iald C0 hP (by decide) sh_69 (by decide) (by decide) (by decide) dX12_refusal_19 ?_
    rw [show (0 : Int).toNat = 0 from rfl]
    refine lv_ldc (own := RX12) (v := iI 90000) hx hb hown (htb _ ki_X12_159) dX12_refusal_20 ?_
    have q2 := hw.1
    have hw := hw.2
    refine wk_icmp_le hx hb q2 ⟨by decide, by decide⟩ (tgt := 30) dX12_refusal_22 (by decide) (fun hh => ?_) (fun hh => ?_)
    · have hw := hw.1 hh
      refine lv_iconst (v := iI 0) hx hb dX12_refusal_30 rfl ?_
      exact hret _ _ _ _ _ _ ⟨rfl, hw⟩ hP hS dX12_refusal_31
    · have hw := hw.2 hh
      refine lv_ldc (own := RX12) (v := iI (-1000000004)) hx hb hown (htb _ ki_X12_75) dX12_refusal_25 ?_
      refine lv_goto (tgt := 31) hx hb dX12_refusal_27 (by decide) ?_
      exact hret _ _ _ _ _ _ ⟨rfl, hw⟩ hP hS dX12_refusal_31
  · have hw := hw.1 hh
    refine lv_ldc (own := RX12) (v := iI (-1000000003)) hx hb hown (htb _ ki_X12_158) dX12_refusal_9 ?_
    refine lv_goto (tgt := 31) hx hb dX12_refusal_11 (by decide) ?_
    exact hret _ _ _ _ _ _ ⟨rfl, hw⟩ hP hS dX12_refusal_31

set_option maxRecDepth 100000 in
set_option maxHeartbeats 4000000 in
theorem ok_X12_hour {l : Launch} {D : va_G} {cA : Nat → ClassId} {ad : Nat → Nat} (hI : wI ad) {a1 : Int} {sg : Mem} {Q : Int → Mem → Prop} (hw : wp_X12_hour a1 sg Q) : wMi l D cA ad yX12_hour cX12_hour 2 (some .int) 3 [.ref (ad 65), .int (iI a1)] sg Q := by
  refine wk_ofI (by decide) hI (Nat.le_of_ble_eq_true rfl) ?_
  intro p e s m below meth c A QQ ls C0 hret hl hP
  have hx := C0.1
  have hb := C0.2.1
  have hown := C0.2.2.2.1
  have htb := C0.2.2.2.2.1
  have hl : lv_has ls 2 [(0, .ref (ad 65)), (1, .int (iI a1))] := hl
  refine (fun (key : ∀ (H : Heap) (locs : List Loc), wP D cA ad sg H → va_S (wA ad) s.heap H locs → W p l e (rmL 3) s m A below meth c H locs 0 0 QQ (F0 m 0 ls [])) => key _ _ hP va_S.rf) ?_
  intro H locs hP hS
  unfold wp_X12_hour at hw
  refine lv_iload_n hx hb dX12_hour_0 rfl (lv_at hl 1 rfl) ?_
  have q1 := hw.1
  have hw := hw.2
  refine wk_i2l hx hb q1 dX12_hour_1 ?_
  refine lv_lconst (v := iL 0) hx hb dX12_hour_2 rfl ?_
  refine lv_ldc2 (own := RX12) (v := iL 3) hx hb hown (htb _ kl_X12_156) dX12_hour_3 ?_
  refine wk_rip (wk_callS (rest := []) C0 cl_X12_67 (ok_X12_in hI hw) hP rfl rfl (Nat.le_of_ble_eq_true rfl) (wk_room (by decide) (by decide)) hl.1 dX12_hour_6 ⟨Nat.le_refl _, Nat.le_refl _⟩) hS (fun r2 H locs hw hP hS => ?_)
  have q3 := hw.1
  have hw := hw.2
  refine wk_if_ne hx hb q3 (tgt := 15) dX12_hour_9 (by decide) (fun hh => ?_) (fun hh => ?_)
  · have hw := hw.2 hh
    refine lv_aload_n hx hb dX12_hour_15 rfl (lv_at hl 0 rfl) ?_
    refine wk_rip (wk_callV (rest := []) C0 cl_X12_160 (ok_X12_refusal hI hw) hP (by decide) sh_65 rfl rfl rfl (Nat.le_of_ble_eq_true rfl) (wk_room (by decide) (by decide)) hl.1 dX12_hour_16 ⟨Nat.le_refl _, Nat.le_refl _⟩) hS (fun r4 H locs hw hP hS => ?_)
    have q5 := hw.1
    have hw := hw.2
    refine wk_if_ge hx hb q5 (tgt := 27) dX12_hour_19 (by decide) (fun hh => ?_) (fun hh => ?_)
    · have hw := hw.1 hh
      refine lv_aload_n hx hb dX12_hour_27 rfl (lv_at hl 0 rfl) ?_
      refine wk_rv (wk_callV (rest := []) C0 cl_X12_163 (ok_X12_notes hI hw) hP (by decide) sh_65 rfl rfl rfl (Nat.le_of_ble_eq_true rfl) (wk_room (by decide) (by decide)) hl.1 dX12_hour_28 ⟨Nat.le_refl _, Nat.le_refl _⟩) hS (fun s6 H locs hw hP hS => ?_)
      refine lv_aload_n hx hb dX12_hour_31 rfl (lv_at hl 0 rfl) ?_
      refine lv_iload_n hx hb dX12_hour_32 rfl (lv_at hl 1 rfl) ?_
      refine wk_rv (wk_callV (rest := []) C0 cl_X12_166 (ok_X12_goesOn hI hw) hP (by decide) sh_65 rfl rfl rfl (Nat.le_of_ble_eq_true rfl) (wk_room (by decide) (by decide)) hl.1 dX12_hour_33 ⟨Nat.le_refl _, Nat.le_refl _⟩) hS (fun s7 H locs hw hP hS => ?_)
      refine lv_aload_n hx hb dX12_hour_36 rfl (lv_at hl 0 rfl) ?_
      refine wk_rip (wk_callV (rest := []) C0 cl_X12_145 (ok_X12_coldest hI hw) hP (by decide) sh_65 rfl rfl rfl (Nat.le_of_ble_eq_true rfl) (wk_room (by decide) (by decide)) hl.1 dX12_hour_37 ⟨Nat.le_refl _, Nat.le_refl _⟩) hS (fun r8 H locs hw hP hS => ?_)
      exact hret _ _ _ _ _ _ hw hP hS dX12_hour_40
    · have hw := hw.2 hh
      refine lv_aload_n hx hb dX12_hour_22 rfl (lv_at hl 0 rfl) ?_
      refine wk_rip (wk_callV (rest := []) C0 cl_X12_160 (ok_X12_refusal hI hw) hP (by decide) sh_65 rfl rfl rfl (Nat.le_of_ble_eq_true rfl) (wk_room (by decide) (by decide)) hl.1 dX12_hour_23 ⟨Nat.le_refl _, Nat.le_refl _⟩) hS (fun r9 H locs hw hP hS => ?_)
      exact hret _ _ _ _ _ _ hw hP hS dX12_hour_26
  · have hw := hw.1 hh
    refine lv_ldc (own := RX12) (v := iI (-1000000001)) hx hb hown (htb _ ki_X12_152) dX12_hour_12 ?_
    exact hret _ _ _ _ _ _ hw hP hS dX12_hour_14

set_option maxRecDepth 100000 in
set_option maxHeartbeats 4000000 in
theorem ok_X12_night {l : Launch} {D : va_G} {cA : Nat → ClassId} {ad : Nat → Nat} (hI : wI ad) {a1 : Int} {sg : Mem} {Q : Int → Mem → Prop} (hw : wp_X12_night a1 sg Q) : wMi l D cA ad yX12_night cX12_night 3 (some .int) 3 [.ref (ad 65), .int (iI a1)] sg Q := by
  refine wk_ofI (by decide) hI (Nat.le_of_ble_eq_true rfl) ?_
  intro p e s m below meth c A QQ ls C0 hret hl hP
  have hx := C0.1
  have hb := C0.2.1
  have hown := C0.2.2.2.1
  have htb := C0.2.2.2.2.1
  have hl : lv_has ls 3 [(0, .ref (ad 65)), (1, .int (iI a1))] := hl
  refine (fun (key : ∀ (H : Heap) (locs : List Loc), wP D cA ad sg H → va_S (wA ad) s.heap H locs → W p l e (rmL 3) s m A below meth c H locs 0 0 QQ (F0 m 0 ls [])) => key _ _ hP va_S.rf) ?_
  intro H locs hP hS
  unfold wp_X12_night at hw
  refine lv_iload_n hx hb dX12_night_0 rfl (lv_at hl 1 rfl) ?_
  have q1 := hw.1
  have hw := hw.2
  refine wk_i2l hx hb q1 dX12_night_1 ?_
  refine lv_lconst (v := iL 1) hx hb dX12_night_2 rfl ?_
  refine lv_ldc2 (own := RX12) (v := iL 99) hx hb hown (htb _ kl_X12_169) dX12_night_3 ?_
  refine wk_rip (wk_callS (rest := []) C0 cl_X12_67 (ok_X12_in hI hw) hP rfl rfl (Nat.le_of_ble_eq_true rfl) (wk_room (by decide) (by decide)) hl.1 dX12_night_6 ⟨Nat.le_refl _, Nat.le_refl _⟩) hS (fun r2 H locs hw hP hS => ?_)
  have q3 := hw.1
  have hw := hw.2
  refine wk_if_ne hx hb q3 (tgt := 15) dX12_night_9 (by decide) (fun hh => ?_) (fun hh => ?_)
  · have hw := hw.2 hh
    refine lv_aload_n hx hb dX12_night_15 rfl (lv_at hl 0 rfl) ?_
    refine wk_rip (wk_callV (rest := []) C0 cl_X12_160 (ok_X12_refusal hI hw) hP (by decide) sh_65 rfl rfl rfl (Nat.le_of_ble_eq_true rfl) (wk_room (by decide) (by decide)) hl.1 dX12_night_16 ⟨Nat.le_refl _, Nat.le_refl _⟩) hS (fun r4 H locs hw hP hS => ?_)
    have q5 := hw.1
    have hw := hw.2
    refine wk_if_ge hx hb q5 (tgt := 27) dX12_night_19 (by decide) (fun hh => ?_) (fun hh => ?_)
    · have hw := hw.1 hh
      refine lv_iconst (v := iI 0) hx hb dX12_night_27 rfl ?_
      refine lv_istore_n (lv' := [(2, .int (iI 0)), (0, .ref (ad 65)), (1, .int (iI a1))]) hx hb dX12_night_28 rfl hl (by decide) rfl (fun ls hl => ?_)
      obtain ⟨I29, hI29, hw⟩ := hw
      have kI29 : ∀ (k29 : Nat) (y2_6 : Int) (s7 : Mem) (H : Heap) (locs : List Loc) (ls : Array Slot), wP D cA ad s7 H → va_S (wA ad) s.heap H locs → lv_has ls 3 [(0, .ref (ad 65)), (1, .int (iI a1)), (2, .int (iI y2_6))] → I29 k29 y2_6 s7 → W p l e (rmL 3) s m A below meth c H locs 0 0 QQ (F0 m 29 ls []) := by
        intro k29
        induction k29 using Nat.strongRecOn with
        | _ k29 ih29 =>
          intro y2_6 s7 H locs ls hP hS hl hw
          have hw := hI29 k29 y2_6 s7 hw
          refine lv_iload_n hx hb dX12_night_29 rfl (lv_at hl 2 rfl) ?_
          refine lv_iload_n hx hb dX12_night_30 rfl (lv_at hl 1 rfl) ?_
          have q8 := hw.1
          have hw := hw.2
          refine wk_icmp_ge hx hb q8 q1 (tgt := 52) dX12_night_31 (by decide) (fun hh => ?_) (fun hh => ?_)
          · have hw := hw.1 hh
            refine lv_aload_n hx hb dX12_night_52 rfl (lv_at hl 0 rfl) ?_
            refine wk_rip (wk_callV (rest := []) C0 cl_X12_145 (ok_X12_coldest hI hw) hP (by decide) sh_65 rfl rfl rfl (Nat.le_of_ble_eq_true rfl) (wk_room (by decide) (by decide)) hl.1 dX12_night_53 ⟨Nat.le_refl _, Nat.le_refl _⟩) hS (fun r9 H locs hw hP hS => ?_)
            exact hret _ _ _ _ _ _ hw hP hS dX12_night_56
          · have hw := hw.2 hh
            refine lv_aload_n hx hb dX12_night_34 rfl (lv_at hl 0 rfl) ?_
            refine wk_rv (wk_callV (rest := []) C0 cl_X12_163 (ok_X12_notes hI hw) hP (by decide) sh_65 rfl rfl rfl (Nat.le_of_ble_eq_true rfl) (wk_room (by decide) (by decide)) hl.1 dX12_night_35 ⟨Nat.le_refl _, Nat.le_refl _⟩) hS (fun s10 H locs hw hP hS => ?_)
            refine lv_aload_n hx hb dX12_night_38 rfl (lv_at hl 0 rfl) ?_
            refine lv_aload_n hx hb dX12_night_39 rfl (lv_at hl 0 rfl) ?_
            refine wk_rip (wk_callV (rest := [.ref (ad 65)]) C0 cl_X12_171 (ok_X12_lawful hI hw) hP (by decide) sh_65 rfl rfl rfl (Nat.le_of_ble_eq_true rfl) (wk_room (by decide) (by decide)) hl.1 dX12_night_40 ⟨Nat.le_refl _, Nat.le_refl _⟩) hS (fun r11 H locs hw hP hS => ?_)
            refine wk_rv (wk_callV (rest := []) C0 cl_X12_166 (ok_X12_goesOn hI hw) hP (by decide) sh_65 rfl rfl rfl (Nat.le_of_ble_eq_true rfl) (wk_room (by decide) (by decide)) hl.1 dX12_night_43 ⟨Nat.le_refl _, Nat.le_refl _⟩) hS (fun s12 H locs hw hP hS => ?_)
            refine wk_iinc (lv' := fun x2_13 => [(2, .int (iI x2_13)), (0, .ref (ad 65)), (1, .int (iI a1))]) hx hb dX12_night_46 hl (k := 2) rfl (by decide) (fun _ => rfl) (fun x2_13 ls ex2_13 hl => ?_)
            have hw := hw x2_13 ex2_13
            refine lv_goto (tgt := 29) hx hb dX12_night_49 (by decide) ?_
            obtain ⟨k14, hk14, hw⟩ := hw
            exact ih29 k14 hk14 x2_13 s12 _ _ _ hP hS (lv_sub hl [1, 2, 0] rfl) hw
      obtain ⟨k15, hw⟩ := hw
      exact kI29 k15 0 sg _ _ _ hP hS (lv_sub hl [1, 2, 0] rfl) hw
    · have hw := hw.2 hh
      refine lv_aload_n hx hb dX12_night_22 rfl (lv_at hl 0 rfl) ?_
      refine wk_rip (wk_callV (rest := []) C0 cl_X12_160 (ok_X12_refusal hI hw) hP (by decide) sh_65 rfl rfl rfl (Nat.le_of_ble_eq_true rfl) (wk_room (by decide) (by decide)) hl.1 dX12_night_23 ⟨Nat.le_refl _, Nat.le_refl _⟩) hS (fun r16 H locs hw hP hS => ?_)
      exact hret _ _ _ _ _ _ hw hP hS dX12_night_26
  · have hw := hw.1 hh
    refine lv_ldc (own := RX12) (v := iI (-1000000002)) hx hb hown (htb _ ki_X12_71) dX12_night_12 ?_
    exact hret _ _ _ _ _ _ hw hP hS dX12_night_14

set_option maxRecDepth 100000 in
set_option maxHeartbeats 4000000 in
theorem ok_X12_getUp {l : Launch} {D : va_G} {cA : Nat → ClassId} {ad : Nat → Nat} (hI : wI ad) {a1 : Int} {sg : Mem} {Q : Int → Mem → Prop} (hw : wp_X12_getUp a1 sg Q) : wMi l D cA ad yX12_getUp cX12_getUp 4 (some .int) 3 [.ref (ad 65), .int (iI a1)] sg Q := by
  refine wk_ofI (by decide) hI (Nat.le_of_ble_eq_true rfl) ?_
  intro p e s m below meth c A QQ ls C0 hret hl hP
  have hx := C0.1
  have hb := C0.2.1
  have hown := C0.2.2.2.1
  have htb := C0.2.2.2.2.1
  have hl : lv_has ls 4 [(0, .ref (ad 65)), (1, .int (iI a1))] := hl
  refine (fun (key : ∀ (H : Heap) (locs : List Loc), wP D cA ad sg H → va_S (wA ad) s.heap H locs → W p l e (rmL 3) s m A below meth c H locs 0 0 QQ (F0 m 0 ls [])) => key _ _ hP va_S.rf) ?_
  intro H locs hP hS
  unfold wp_X12_getUp at hw
  refine lv_aload_n hx hb dX12_getUp_0 rfl (lv_at hl 0 rfl) ?_
  refine lv_iload_n hx hb dX12_getUp_1 rfl (lv_at hl 1 rfl) ?_
  refine wk_rip (wk_callV (rest := []) C0 cl_X12_153 (ok_X12_isSleeper hI hw) hP (by decide) sh_65 rfl rfl rfl (Nat.le_of_ble_eq_true rfl) (wk_room (by decide) (by decide)) hl.1 dX12_getUp_2 ⟨Nat.le_refl _, Nat.le_refl _⟩) hS (fun r1 H locs hw hP hS => ?_)
  have q2 := hw.1
  have hw := hw.2
  refine wk_if_ne hx hb q2 (tgt := 11) dX12_getUp_5 (by decide) (fun hh => ?_) (fun hh => ?_)
  · have hw := hw.2 hh
    refine lv_aload_n hx hb dX12_getUp_11 rfl (lv_at hl 0 rfl) ?_
    refine lv_iload_n hx hb dX12_getUp_12 rfl (lv_at hl 1 rfl) ?_
    refine wk_rip (wk_callV (rest := []) C0 cl_X12_133 (ok_X12_placeOf hI hw) hP (by decide) sh_65 rfl rfl rfl (Nat.le_of_ble_eq_true rfl) (wk_room (by decide) (by decide)) hl.1 dX12_getUp_13 ⟨Nat.le_refl _, Nat.le_refl _⟩) hS (fun r3 H locs hw hP hS => ?_)
    refine lv_istore_n (lv' := [(2, .int (iI r3)), (0, .ref (ad 65)), (1, .int (iI a1))]) hx hb dX12_getUp_16 rfl hl (by decide) rfl (fun ls hl => ?_)
    refine lv_iload_n hx hb dX12_getUp_17 rfl (lv_at hl 0 rfl) ?_
    refine lv_iconst (v := iI (-1)) hx hb dX12_getUp_18 rfl ?_
    have q4 := hw.1
    have hw := hw.2
    refine wk_icmp_ne hx hb q4 ⟨by decide, by decide⟩ (tgt := 25) dX12_getUp_19 (by decide) (fun hh => ?_) (fun hh => ?_)
    · have hw := hw.2 hh
      refine lv_aload_n hx hb dX12_getUp_25 rfl (lv_at hl 1 rfl) ?_
      refine wk_rv (wk_callV (rest := []) C0 cl_X12_163 (ok_X12_notes hI hw) hP (by decide) sh_65 rfl rfl rfl (Nat.le_of_ble_eq_true rfl) (wk_room (by decide) (by decide)) hl.1 dX12_getUp_26 ⟨Nat.le_refl _, Nat.le_refl _⟩) hS (fun s5 H locs hw hP hS => ?_)
      refine lv_iload_n hx hb dX12_getUp_29 rfl (lv_at hl 0 rfl) ?_
      refine lv_istore_n (lv' := [(3, .int (iI r3)), (2, .int (iI r3)), (0, .ref (ad 65)), (1, .int (iI a1))]) hx hb dX12_getUp_30 rfl hl (by decide) rfl (fun ls hl => ?_)
      obtain ⟨I31, hI31, hw⟩ := hw
      have kI31 : ∀ (k31 : Nat) (y3_6 : Int) (s7 : Mem) (H : Heap) (locs : List Loc) (ls : Array Slot), wP D cA ad s7 H → va_S (wA ad) s.heap H locs → lv_has ls 4 [(0, .ref (ad 65)), (2, .int (iI r3)), (3, .int (iI y3_6))] → I31 k31 y3_6 s7 → W p l e (rmL 3) s m A below meth c H locs 0 0 QQ (F0 m 31 ls []) := by
        intro k31
        induction k31 using Nat.strongRecOn with
        | _ k31 ih31 =>
          intro y3_6 s7 H locs ls hP hS hl hw
          have hw := hI31 k31 y3_6 s7 hw
          refine lv_iload_n hx hb dX12_getUp_31 rfl (lv_at hl 2 rfl) ?_
          refine lv_aload_n hx hb dX12_getUp_32 rfl (lv_at hl 0 rfl) ?_
          refine wk_getR 67 C0 fl_X12_13 hP (by decide) sh_65 rfl dX12_getUp_33 ?_
          refine lv_iconst (v := iI 0) hx hb dX12_getUp_36 rfl ?_
          refine wk_iald C0 hP (by decide) sh_67 (by decide) (by decide) (by decide) dX12_getUp_37 ?_
          rw [show (0 : Int).toNat = 0 from rfl]
          refine lv_iconst (v := iI 1) hx hb dX12_getUp_38 rfl ?_
          refine wk_isub hx hb dX12_getUp_39 ?_
          have q8 := hw.1
          have hw := hw.2
          have q9 := hw.1
          have hw := hw.2
          refine wk_icmp_ge hx hb q8 q9 (tgt := 65) dX12_getUp_40 (by decide) (fun hh => ?_) (fun hh => ?_)
          · have hw := hw.1 hh
            refine lv_aload_n hx hb dX12_getUp_65 rfl (lv_at hl 0 rfl) ?_
            refine wk_getR 69 C0 fl_X12_19 hP (by decide) sh_65 rfl dX12_getUp_66 ?_
            refine lv_aload_n hx hb dX12_getUp_69 rfl (lv_at hl 0 rfl) ?_
            refine wk_getR 67 C0 fl_X12_13 hP (by decide) sh_65 rfl dX12_getUp_70 ?_
            refine lv_iconst (v := iI 0) hx hb dX12_getUp_73 rfl ?_
            refine wk_iald C0 hP (by decide) sh_67 (by decide) (by decide) (by decide) dX12_getUp_74 ?_
            rw [show (0 : Int).toNat = 0 from rfl]
            refine lv_iconst (v := iI (-1)) hx hb dX12_getUp_75 rfl ?_
            have q10 := hw.1
            have hw := hw.2
            refine wk_iast C0 hP hS (by decide) sh_69 q10.1 q10.2 (by decide) dX12_getUp_76 (fun s11 H locs es11 hP hS => ?_)
            have hw := hw s11 es11
            refine lv_iload_n hx hb dX12_getUp_77 rfl (lv_at hl 1 rfl) ?_
            exact hret _ _ _ _ _ _ hw hP hS dX12_getUp_78
          · have hw := hw.2 hh
            refine lv_aload_n hx hb dX12_getUp_43 rfl (lv_at hl 0 rfl) ?_
            refine wk_getR 69 C0 fl_X12_19 hP (by decide) sh_65 rfl dX12_getUp_44 ?_
            refine lv_iconst (v := iI 1) hx hb dX12_getUp_47 rfl ?_
            refine lv_iload_n hx hb dX12_getUp_48 rfl (lv_at hl 2 rfl) ?_
            refine wk_iadd hx hb dX12_getUp_49 ?_
            refine lv_aload_n hx hb dX12_getUp_50 rfl (lv_at hl 0 rfl) ?_
            refine wk_getR 69 C0 fl_X12_19 hP (by decide) sh_65 rfl dX12_getUp_51 ?_
            refine lv_iconst (v := iI 2) hx hb dX12_getUp_54 rfl ?_
            refine lv_iload_n hx hb dX12_getUp_55 rfl (lv_at hl 2 rfl) ?_
            refine wk_iadd hx hb dX12_getUp_56 ?_
            have q12 := hw.1
            have hw := hw.2
            refine wk_iald C0 hP (by decide) sh_69 q12.1 q12.2 (by decide) dX12_getUp_57 ?_
            have q13 := hw.1
            have hw := hw.2
            refine wk_iast C0 hP hS (by decide) sh_69 q13.1 q13.2 (by decide) dX12_getUp_58 (fun s14 H locs es14 hP hS => ?_)
            have hw := hw s14 es14
            refine wk_iinc (lv' := fun x3_15 => [(3, .int (iI x3_15)), (0, .ref (ad 65)), (2, .int (iI r3))]) hx hb dX12_getUp_59 hl (k := 2) rfl (by decide) (fun _ => rfl) (fun x3_15 ls ex3_15 hl => ?_)
            have hw := hw x3_15 ex3_15
            refine lv_goto (tgt := 31) hx hb dX12_getUp_62 (by decide) ?_
            obtain ⟨k16, hk16, hw⟩ := hw
            exact ih31 k16 hk16 x3_15 s14 _ _ _ hP hS (lv_sub hl [1, 2, 0] rfl) hw
      obtain ⟨k17, hw⟩ := hw
      exact kI31 k17 r3 s5 _ _ _ hP hS (lv_sub hl [2, 1, 0] rfl) hw
    · have hw := hw.1 hh
      refine lv_ldc (own := RX12) (v := iI (-1000000003)) hx hb hown (htb _ ki_X12_158) dX12_getUp_22 ?_
      exact hret _ _ _ _ _ _ hw hP hS dX12_getUp_24
  · have hw := hw.1 hh
    refine lv_ldc (own := RX12) (v := iI (-1000000001)) hx hb hown (htb _ ki_X12_152) dX12_getUp_8 ?_
    exact hret _ _ _ _ _ _ hw hP hS dX12_getUp_10

set_option maxRecDepth 100000 in
set_option maxHeartbeats 4000000 in
theorem ok_X12_comeIn {l : Launch} {D : va_G} {cA : Nat → ClassId} {ad : Nat → Nat} (hI : wI ad) {a1 : Int} {sg : Mem} {Q : Int → Mem → Prop} (hw : wp_X12_comeIn a1 sg Q) : wMi l D cA ad yX12_comeIn cX12_comeIn 3 (some .int) 3 [.ref (ad 65), .int (iI a1)] sg Q := by
  refine wk_ofI (by decide) hI (Nat.le_of_ble_eq_true rfl) ?_
  intro p e s m below meth c A QQ ls C0 hret hl hP
  have hx := C0.1
  have hb := C0.2.1
  have hown := C0.2.2.2.1
  have htb := C0.2.2.2.2.1
  have hl : lv_has ls 3 [(0, .ref (ad 65)), (1, .int (iI a1))] := hl
  refine (fun (key : ∀ (H : Heap) (locs : List Loc), wP D cA ad sg H → va_S (wA ad) s.heap H locs → W p l e (rmL 3) s m A below meth c H locs 0 0 QQ (F0 m 0 ls [])) => key _ _ hP va_S.rf) ?_
  intro H locs hP hS
  unfold wp_X12_comeIn at hw
  refine lv_aload_n hx hb dX12_comeIn_0 rfl (lv_at hl 0 rfl) ?_
  refine lv_iload_n hx hb dX12_comeIn_1 rfl (lv_at hl 1 rfl) ?_
  refine wk_rip (wk_callV (rest := []) C0 cl_X12_153 (ok_X12_isSleeper hI hw) hP (by decide) sh_65 rfl rfl rfl (Nat.le_of_ble_eq_true rfl) (wk_room (by decide) (by decide)) hl.1 dX12_comeIn_2 ⟨Nat.le_refl _, Nat.le_refl _⟩) hS (fun r1 H locs hw hP hS => ?_)
  have q2 := hw.1
  have hw := hw.2
  refine wk_if_ne hx hb q2 (tgt := 11) dX12_comeIn_5 (by decide) (fun hh => ?_) (fun hh => ?_)
  · have hw := hw.2 hh
    refine lv_aload_n hx hb dX12_comeIn_11 rfl (lv_at hl 0 rfl) ?_
    refine lv_iload_n hx hb dX12_comeIn_12 rfl (lv_at hl 1 rfl) ?_
    refine wk_rip (wk_callV (rest := []) C0 cl_X12_133 (ok_X12_placeOf hI hw) hP (by decide) sh_65 rfl rfl rfl (Nat.le_of_ble_eq_true rfl) (wk_room (by decide) (by decide)) hl.1 dX12_comeIn_13 ⟨Nat.le_refl _, Nat.le_refl _⟩) hS (fun r3 H locs hw hP hS => ?_)
    refine lv_iconst (v := iI (-1)) hx hb dX12_comeIn_16 rfl ?_
    have q4 := hw.1
    have hw := hw.2
    refine wk_icmp_eq hx hb q4 ⟨by decide, by decide⟩ (tgt := 23) dX12_comeIn_17 (by decide) (fun hh => ?_) (fun hh => ?_)
    · have hw := hw.1 hh
      refine lv_aload_n hx hb dX12_comeIn_23 rfl (lv_at hl 0 rfl) ?_
      refine wk_rv (wk_callV (rest := []) C0 cl_X12_163 (ok_X12_notes hI hw) hP (by decide) sh_65 rfl rfl rfl (Nat.le_of_ble_eq_true rfl) (wk_room (by decide) (by decide)) hl.1 dX12_comeIn_24 ⟨Nat.le_refl _, Nat.le_refl _⟩) hS (fun s5 H locs hw hP hS => ?_)
      refine lv_aload_n hx hb dX12_comeIn_27 rfl (lv_at hl 0 rfl) ?_
      refine wk_getR 67 C0 fl_X12_13 hP (by decide) sh_65 rfl dX12_comeIn_28 ?_
      refine lv_iconst (v := iI 0) hx hb dX12_comeIn_31 rfl ?_
      refine wk_iald C0 hP (by decide) sh_67 (by decide) (by decide) (by decide) dX12_comeIn_32 ?_
      rw [show (0 : Int).toNat = 0 from rfl]
      refine lv_iconst (v := iI 1) hx hb dX12_comeIn_33 rfl ?_
      refine wk_isub hx hb dX12_comeIn_34 ?_
      refine wk_top (fun x2_6 ex2_6 => ?_)
      have hw := hw x2_6 ex2_6
      refine lv_istore_n (lv' := [(2, .int (iI x2_6)), (0, .ref (ad 65)), (1, .int (iI a1))]) hx hb dX12_comeIn_35 rfl hl (by decide) rfl (fun ls hl => ?_)
      obtain ⟨I36, hI36, hw⟩ := hw
      have kI36 : ∀ (k36 : Nat) (y2_7 : Int) (H : Heap) (locs : List Loc) (ls : Array Slot), wP D cA ad s5 H → va_S (wA ad) s.heap H locs → lv_has ls 3 [(0, .ref (ad 65)), (1, .int (iI a1)), (2, .int (iI y2_7))] → I36 k36 y2_7 → W p l e (rmL 3) s m A below meth c H locs 0 0 QQ (F0 m 36 ls []) := by
        intro k36
        induction k36 using Nat.strongRecOn with
        | _ k36 ih36 =>
          intro y2_7 H locs ls hP hS hl hw
          have hw := hI36 k36 y2_7 hw
          refine lv_aload_n hx hb dX12_comeIn_36 rfl (lv_at hl 0 rfl) ?_
          refine wk_getR 69 C0 fl_X12_19 hP (by decide) sh_65 rfl dX12_comeIn_37 ?_
          refine lv_iconst (v := iI 1) hx hb dX12_comeIn_40 rfl ?_
          refine lv_iload_n hx hb dX12_comeIn_41 rfl (lv_at hl 2 rfl) ?_
          refine wk_iadd hx hb dX12_comeIn_42 ?_
          have q8 := hw.1
          have hw := hw.2
          refine wk_iald C0 hP (by decide) sh_69 q8.1 q8.2 (by decide) dX12_comeIn_43 ?_
          refine lv_iconst (v := iI (-1)) hx hb dX12_comeIn_44 rfl ?_
          have q9 := hw.1
          have hw := hw.2
          refine wk_icmp_eq hx hb q9 ⟨by decide, by decide⟩ (tgt := 54) dX12_comeIn_45 (by decide) (fun hh => ?_) (fun hh => ?_)
          · have hw := hw.1 hh
            refine lv_aload_n hx hb dX12_comeIn_54 rfl (lv_at hl 0 rfl) ?_
            refine wk_getR 69 C0 fl_X12_19 hP (by decide) sh_65 rfl dX12_comeIn_55 ?_
            refine lv_iconst (v := iI 1) hx hb dX12_comeIn_58 rfl ?_
            refine lv_iload_n hx hb dX12_comeIn_59 rfl (lv_at hl 2 rfl) ?_
            refine wk_iadd hx hb dX12_comeIn_60 ?_
            refine lv_iload_n hx hb dX12_comeIn_61 rfl (lv_at hl 1 rfl) ?_
            refine wk_iast C0 hP hS (by decide) sh_69 q8.1 q8.2 (by decide) dX12_comeIn_62 (fun s10 H locs es10 hP hS => ?_)
            have hw := hw s10 es10
            refine lv_iload_n hx hb dX12_comeIn_63 rfl (lv_at hl 2 rfl) ?_
            exact hret _ _ _ _ _ _ hw hP hS dX12_comeIn_64
          · have hw := hw.2 hh
            refine wk_iinc (lv' := fun x2_11 => [(2, .int (iI x2_11)), (0, .ref (ad 65)), (1, .int (iI a1))]) hx hb dX12_comeIn_48 hl (k := 2) rfl (by decide) (fun _ => rfl) (fun x2_11 ls ex2_11 hl => ?_)
            have hw := hw x2_11 ex2_11
            refine lv_goto (tgt := 36) hx hb dX12_comeIn_51 (by decide) ?_
            obtain ⟨k12, hk12, hw⟩ := hw
            exact ih36 k12 hk12 x2_11 _ _ _ hP hS (lv_sub hl [1, 2, 0] rfl) hw
      obtain ⟨k13, hw⟩ := hw
      exact kI36 k13 x2_6 _ _ _ hP hS (lv_sub hl [1, 2, 0] rfl) hw
    · have hw := hw.2 hh
      refine lv_ldc (own := RX12) (v := iI (-1000000003)) hx hb hown (htb _ ki_X12_158) dX12_comeIn_20 ?_
      exact hret _ _ _ _ _ _ hw hP hS dX12_comeIn_22
  · have hw := hw.1 hh
    refine lv_ldc (own := RX12) (v := iI (-1000000001)) hx hb hown (htb _ ki_X12_152) dX12_comeIn_8 ?_
    exact hret _ _ _ _ _ _ hw hP hS dX12_comeIn_10

set_option maxRecDepth 100000 in
set_option maxHeartbeats 4000000 in
theorem ok_X12_draws {l : Launch} {D : va_G} {cA : Nat → ClassId} {ad : Nat → Nat} (hI : wI ad) {a1 : Int} {sg : Mem} {Q : Int → Mem → Prop} (hw : wp_X12_draws a1 sg Q) : wMi l D cA ad yX12_draws cX12_draws 2 (some .int) 1 [.ref (ad 65), .int (iI a1)] sg Q := by
  refine wk_ofI (by decide) hI (Nat.le_of_ble_eq_true rfl) ?_
  intro p e s m below meth c A QQ ls C0 hret hl hP
  have hx := C0.1
  have hb := C0.2.1
  have hown := C0.2.2.2.1
  have htb := C0.2.2.2.2.1
  have hl : lv_has ls 2 [(0, .ref (ad 65)), (1, .int (iI a1))] := hl
  refine (fun (key : ∀ (H : Heap) (locs : List Loc), wP D cA ad sg H → va_S (wA ad) s.heap H locs → W p l e (rmL 1) s m A below meth c H locs 0 0 QQ (F0 m 0 ls [])) => key _ _ hP va_S.rf) ?_
  intro H locs hP hS
  unfold wp_X12_draws at hw
  refine lv_aload_n hx hb dX12_draws_0 rfl (lv_at hl 0 rfl) ?_
  refine lv_aload_n hx hb dX12_draws_1 rfl (lv_at hl 0 rfl) ?_
  refine wk_getI C0 fl_X12_174 hP (by decide) sh_65 rfl dX12_draws_2 ?_
  have q1 := hw.1
  have hw := hw.2
  refine wk_i2l hx hb q1 dX12_draws_5 ?_
  refine lv_ldc2 (own := RX12) (v := iL 1103515245) hx hb hown (htb _ kl_X12_177) dX12_draws_6 ?_
  refine wk_lmul hx hb dX12_draws_9 ?_
  refine lv_ldc2 (own := RX12) (v := iL 12345) hx hb hown (htb _ kl_X12_179) dX12_draws_10 ?_
  refine wk_ladd hx hb dX12_draws_13 ?_
  refine lv_ldc2 (own := RX12) (v := iL 2147483648) hx hb hown (htb _ kl_X12_181) dX12_draws_14 ?_
  have q2 := hw.1
  have hw := hw.2
  refine wk_lrem hx hb q2 ⟨by decide, by decide⟩ (by decide) dX12_draws_17 ?_
  refine wk_l2i hx hb dX12_draws_18 ?_
  refine wk_putI C0 fl_X12_174 rfl rfl hP hS (by decide) sh_65 rfl dX12_draws_19 (fun s3 H locs es3 hP hS => ?_)
  have hw := hw s3 es3
  refine lv_aload_n hx hb dX12_draws_22 rfl (lv_at hl 0 rfl) ?_
  refine wk_getI C0 fl_X12_174 hP (by decide) sh_65 rfl dX12_draws_23 ?_
  refine lv_ldc (own := RX12) (v := iI 65536) hx hb hown (htb _ ki_X12_183) dX12_draws_26 ?_
  have q4 := hw.1
  have hw := hw.2
  refine wk_idiv hx hb q4 ⟨by decide, by decide⟩ (by decide) dX12_draws_28 ?_
  refine lv_iload_n hx hb dX12_draws_29 rfl (lv_at hl 1 rfl) ?_
  have q5 := hw.1
  have hw := hw.2
  have q6 := hw.1
  have hw := hw.2
  have q7 := hw.1
  have hw := hw.2
  refine wk_irem hx hb q5 q6 q7 dX12_draws_30 ?_
  exact hret _ _ _ _ _ _ hw hP hS dX12_draws_31

set_option maxRecDepth 100000 in
set_option maxHeartbeats 4000000 in
theorem ok_X12_drift {l : Launch} {D : va_G} {cA : Nat → ClassId} {ad : Nat → Nat} (hI : wI ad) {a1 : Int} {sg : Mem} {Q : Int → Mem → Prop} (hw : wp_X12_drift a1 sg Q) : wMi l D cA ad yX12_drift cX12_drift 4 (some .int) 3 [.ref (ad 65), .int (iI a1)] sg Q := by
  refine wk_ofI (by decide) hI (Nat.le_of_ble_eq_true rfl) ?_
  intro p e s m below meth c A QQ ls C0 hret hl hP
  have hx := C0.1
  have hb := C0.2.1
  have hown := C0.2.2.2.1
  have htb := C0.2.2.2.2.1
  have hl : lv_has ls 4 [(0, .ref (ad 65)), (1, .int (iI a1))] := hl
  refine (fun (key : ∀ (H : Heap) (locs : List Loc), wP D cA ad sg H → va_S (wA ad) s.heap H locs → W p l e (rmL 3) s m A below meth c H locs 0 0 QQ (F0 m 0 ls [])) => key _ _ hP va_S.rf) ?_
  intro H locs hP hS
  unfold wp_X12_drift at hw
  refine lv_iload_n hx hb dX12_drift_0 rfl (lv_at hl 1 rfl) ?_
  have q1 := hw.1
  have hw := hw.2
  refine wk_i2l hx hb q1 dX12_drift_1 ?_
  refine lv_lconst (v := iL 1) hx hb dX12_drift_2 rfl ?_
  refine lv_ldc2 (own := RX12) (v := iL 99) hx hb hown (htb _ kl_X12_169) dX12_drift_3 ?_
  refine wk_rip (wk_callS (rest := []) C0 cl_X12_67 (ok_X12_in hI hw) hP rfl rfl (Nat.le_of_ble_eq_true rfl) (wk_room (by decide) (by decide)) hl.1 dX12_drift_6 ⟨Nat.le_refl _, Nat.le_refl _⟩) hS (fun r2 H locs hw hP hS => ?_)
  have q3 := hw.1
  have hw := hw.2
  refine wk_if_ne hx hb q3 (tgt := 15) dX12_drift_9 (by decide) (fun hh => ?_) (fun hh => ?_)
  · have hw := hw.2 hh
    refine lv_aload_n hx hb dX12_drift_15 rfl (lv_at hl 0 rfl) ?_
    refine wk_rip (wk_callV (rest := []) C0 cl_X12_160 (ok_X12_refusal hI hw) hP (by decide) sh_65 rfl rfl rfl (Nat.le_of_ble_eq_true rfl) (wk_room (by decide) (by decide)) hl.1 dX12_drift_16 ⟨Nat.le_refl _, Nat.le_refl _⟩) hS (fun r4 H locs hw hP hS => ?_)
    have q5 := hw.1
    have hw := hw.2
    refine wk_if_ge hx hb q5 (tgt := 27) dX12_drift_19 (by decide) (fun hh => ?_) (fun hh => ?_)
    · have hw := hw.1 hh
      refine lv_iconst (v := iI 0) hx hb dX12_drift_27 rfl ?_
      refine lv_istore_n (lv' := [(2, .int (iI 0)), (0, .ref (ad 65)), (1, .int (iI a1))]) hx hb dX12_drift_28 rfl hl (by decide) rfl (fun ls hl => ?_)
      obtain ⟨I29, hI29, hw⟩ := hw
      have kI29 : ∀ (k29 : Nat) (y2_6 : Int) (s7 : Mem) (H : Heap) (locs : List Loc) (ls : Array Slot), wP D cA ad s7 H → va_S (wA ad) s.heap H locs → lv_has ls 4 [(0, .ref (ad 65)), (1, .int (iI a1)), (2, .int (iI y2_6))] → I29 k29 y2_6 s7 → W p l e (rmL 3) s m A below meth c H locs 0 0 QQ (F0 m 29 ls []) := by
        intro k29
        induction k29 using Nat.strongRecOn with
        | _ k29 ih29 =>
          intro y2_6 s7 H locs ls hP hS hl hw
          have hw := hI29 k29 y2_6 s7 hw
          refine lv_iload_n hx hb dX12_drift_29 rfl (lv_at hl 2 rfl) ?_
          refine lv_iload_n hx hb dX12_drift_30 rfl (lv_at hl 1 rfl) ?_
          have q8 := hw.1
          have hw := hw.2
          refine wk_icmp_ge hx hb q8 q1 (tgt := 68) dX12_drift_31 (by decide) (fun hh => ?_) (fun hh => ?_)
          · have hw := hw.1 hh
            refine lv_aload_n hx hb dX12_drift_68 rfl (lv_at hl 0 rfl) ?_
            refine wk_rip (wk_callV (rest := []) C0 cl_X12_145 (ok_X12_coldest hI hw) hP (by decide) sh_65 rfl rfl rfl (Nat.le_of_ble_eq_true rfl) (wk_room (by decide) (by decide)) hl.1 dX12_drift_69 ⟨Nat.le_refl _, Nat.le_refl _⟩) hS (fun r9 H locs hw hP hS => ?_)
            exact hret _ _ _ _ _ _ hw hP hS dX12_drift_72
          · have hw := hw.2 hh
            refine lv_aload_n hx hb dX12_drift_34 rfl (lv_at hl 0 rfl) ?_
            refine wk_rv (wk_callV (rest := []) C0 cl_X12_163 (ok_X12_notes hI hw) hP (by decide) sh_65 rfl rfl rfl (Nat.le_of_ble_eq_true rfl) (wk_room (by decide) (by decide)) hl.1 dX12_drift_35 ⟨Nat.le_refl _, Nat.le_refl _⟩) hS (fun s10 H locs hw hP hS => ?_)
            refine lv_aload_n hx hb dX12_drift_38 rfl (lv_at hl 0 rfl) ?_
            refine lv_bipush (v := iI 6) hx hb dX12_drift_39 (by decide +kernel) ?_
            refine wk_ri (wk_callV (rest := []) C0 cl_X12_184 (ok_X12_draws hI hw) hP (by decide) sh_65 rfl rfl rfl (Nat.le_of_ble_eq_true rfl) (wk_room (by decide) (by decide)) hl.1 dX12_drift_41 ⟨Nat.le_refl _, Nat.le_refl _⟩) hS (fun r11 s12 H locs hw hP hS => ?_)
            refine lv_istore_n (lv' := [(3, .int (iI r11)), (0, .ref (ad 65)), (1, .int (iI a1)), (2, .int (iI y2_6))]) hx hb dX12_drift_44 rfl hl (by decide) rfl (fun ls hl => ?_)
            refine lv_aload_n hx hb dX12_drift_45 rfl (lv_at hl 1 rfl) ?_
            refine lv_iload_n hx hb dX12_drift_46 rfl (lv_at hl 0 rfl) ?_
            refine lv_iconst (v := iI 4) hx hb dX12_drift_47 rfl ?_
            have q13 := hw.1
            have hw := hw.2
            obtain ⟨X59, hX59, hw⟩ := hw
            have kX59 : ∀ (v14 : Int) (H : Heap) (locs : List Loc) (ls : Array Slot), wP D cA ad s12 H → va_S (wA ad) s.heap H locs → lv_has ls 4 [(0, .ref (ad 65)), (1, .int (iI a1)), (2, .int (iI y2_6))] → X59 v14 → W p l e (rmL 3) s m A below meth c H locs 0 0 QQ (F0 m 59 ls [.int (iI v14), .ref (ad 65)]) := by
              intro v14 H locs ls hP hS hl hw
              have hw := hX59 v14 hw
              refine wk_rv (wk_callV (rest := []) C0 cl_X12_166 (ok_X12_goesOn hI hw) hP (by decide) sh_65 rfl rfl rfl (Nat.le_of_ble_eq_true rfl) (wk_room (by decide) (by decide)) hl.1 dX12_drift_59 ⟨Nat.le_refl _, Nat.le_refl _⟩) hS (fun s15 H locs hw hP hS => ?_)
              refine wk_iinc (lv' := fun x2_16 => [(2, .int (iI x2_16)), (0, .ref (ad 65)), (1, .int (iI a1))]) hx hb dX12_drift_62 hl (k := 2) rfl (by decide) (fun _ => rfl) (fun x2_16 ls ex2_16 hl => ?_)
              have hw := hw x2_16 ex2_16
              refine lv_goto (tgt := 29) hx hb dX12_drift_65 (by decide) ?_
              obtain ⟨k17, hk17, hw⟩ := hw
              exact ih29 k17 hk17 x2_16 s15 _ _ _ hP hS (lv_sub hl [1, 2, 0] rfl) hw
            refine wk_icmp_ge hx hb q13 ⟨by decide, by decide⟩ (tgt := 55) dX12_drift_48 (by decide) (fun hh => ?_) (fun hh => ?_)
            · have hw := hw.1 hh
              refine lv_aload_n hx hb dX12_drift_55 rfl (lv_at hl 1 rfl) ?_
              refine wk_rip (wk_callV (rest := [.ref (ad 65)]) C0 cl_X12_171 (ok_X12_lawful hI hw) hP (by decide) sh_65 rfl rfl rfl (Nat.le_of_ble_eq_true rfl) (wk_room (by decide) (by decide)) hl.1 dX12_drift_56 ⟨Nat.le_refl _, Nat.le_refl _⟩) hS (fun r18 H locs hw hP hS => ?_)
              exact kX59 r18 _ _ _ hP hS (lv_sub hl [1, 2, 3] rfl) hw
            · have hw := hw.2 hh
              refine lv_iload_n hx hb dX12_drift_51 rfl (lv_at hl 0 rfl) ?_
              refine lv_goto (tgt := 59) hx hb dX12_drift_52 (by decide) ?_
              exact kX59 r11 _ _ _ hP hS (lv_sub hl [1, 2, 3] rfl) hw
      obtain ⟨k19, hw⟩ := hw
      exact kI29 k19 0 sg _ _ _ hP hS (lv_sub hl [1, 2, 0] rfl) hw
    · have hw := hw.2 hh
      refine lv_aload_n hx hb dX12_drift_22 rfl (lv_at hl 0 rfl) ?_
      refine wk_rip (wk_callV (rest := []) C0 cl_X12_160 (ok_X12_refusal hI hw) hP (by decide) sh_65 rfl rfl rfl (Nat.le_of_ble_eq_true rfl) (wk_room (by decide) (by decide)) hl.1 dX12_drift_23 ⟨Nat.le_refl _, Nat.le_refl _⟩) hS (fun r20 H locs hw hP hS => ?_)
      exact hret _ _ _ _ _ _ hw hP hS dX12_drift_26
  · have hw := hw.1 hh
    refine lv_ldc (own := RX12) (v := iI (-1000000002)) hx hb hown (htb _ ki_X12_71) dX12_drift_12 ?_
    exact hret _ _ _ _ _ _ hw hP hS dX12_drift_14

set_option maxRecDepth 100000 in
set_option maxHeartbeats 4000000 in
theorem ok_X12_undo {l : Launch} {D : va_G} {cA : Nat → ClassId} {ad : Nat → Nat} (hI : wI ad) {a1 : Int} {sg : Mem} {Q : Int → Mem → Prop} (hw : wp_X12_undo a1 sg Q) : wMi l D cA ad yX12_undo cX12_undo 3 (some .int) 2 [.ref (ad 65), .int (iI a1)] sg Q := by
  refine wk_ofI (by decide) hI (Nat.le_of_ble_eq_true rfl) ?_
  intro p e s m below meth c A QQ ls C0 hret hl hP
  have hx := C0.1
  have hb := C0.2.1
  have hown := C0.2.2.2.1
  have htb := C0.2.2.2.2.1
  have hl : lv_has ls 3 [(0, .ref (ad 65)), (1, .int (iI a1))] := hl
  refine (fun (key : ∀ (H : Heap) (locs : List Loc), wP D cA ad sg H → va_S (wA ad) s.heap H locs → W p l e (rmL 2) s m A below meth c H locs 0 0 QQ (F0 m 0 ls [])) => key _ _ hP va_S.rf) ?_
  intro H locs hP hS
  unfold wp_X12_undo at hw
  refine lv_iload_n hx hb dX12_undo_0 rfl (lv_at hl 1 rfl) ?_
  have q1 := hw.1
  have hw := hw.2
  refine wk_i2l hx hb q1 dX12_undo_1 ?_
  refine lv_lconst (v := iL 1) hx hb dX12_undo_2 rfl ?_
  refine lv_ldc2 (own := RX12) (v := iL 30) hx hb hown (htb _ kl_X12_187) dX12_undo_3 ?_
  refine wk_rip (wk_callS (rest := []) C0 cl_X12_67 (ok_X12_in hI hw) hP rfl rfl (Nat.le_of_ble_eq_true rfl) (wk_room (by decide) (by decide)) hl.1 dX12_undo_6 ⟨Nat.le_refl _, Nat.le_refl _⟩) hS (fun r2 H locs hw hP hS => ?_)
  have q3 := hw.1
  have hw := hw.2
  refine wk_if_ne hx hb q3 (tgt := 15) dX12_undo_9 (by decide) (fun hh => ?_) (fun hh => ?_)
  · have hw := hw.2 hh
    refine lv_iload_n hx hb dX12_undo_15 rfl (lv_at hl 1 rfl) ?_
    refine lv_aload_n hx hb dX12_undo_16 rfl (lv_at hl 0 rfl) ?_
    refine wk_getI C0 fl_X12_119 hP (by decide) sh_65 rfl dX12_undo_17 ?_
    have q4 := hw.1
    have hw := hw.2
    refine wk_icmp_le hx hb q1 q4 (tgt := 26) dX12_undo_20 (by decide) (fun hh => ?_) (fun hh => ?_)
    · have hw := hw.1 hh
      refine lv_aload_n hx hb dX12_undo_26 rfl (lv_at hl 0 rfl) ?_
      refine lv_dup hx hb dX12_undo_27 rfl ?_
      refine wk_getI C0 fl_X12_119 hP (by decide) sh_65 rfl dX12_undo_28 ?_
      refine lv_iload_n hx hb dX12_undo_31 rfl (lv_at hl 1 rfl) ?_
      refine wk_isub hx hb dX12_undo_32 ?_
      refine wk_putI C0 fl_X12_119 rfl rfl hP hS (by decide) sh_65 rfl dX12_undo_33 (fun s5 H locs es5 hP hS => ?_)
      have hw := hw s5 es5
      refine lv_iconst (v := iI 0) hx hb dX12_undo_36 rfl ?_
      refine lv_istore_n (lv' := [(2, .int (iI 0)), (0, .ref (ad 65)), (1, .int (iI a1))]) hx hb dX12_undo_37 rfl hl (by decide) rfl (fun ls hl => ?_)
      obtain ⟨I38, hI38, hw⟩ := hw
      have kI38 : ∀ (k38 : Nat) (y2_6 : Int) (s7 : Mem) (H : Heap) (locs : List Loc) (ls : Array Slot), wP D cA ad s7 H → va_S (wA ad) s.heap H locs → lv_has ls 3 [(0, .ref (ad 65)), (2, .int (iI y2_6))] → I38 k38 y2_6 s7 → W p l e (rmL 2) s m A below meth c H locs 0 0 QQ (F0 m 38 ls []) := by
        intro k38
        induction k38 using Nat.strongRecOn with
        | _ k38 ih38 =>
          intro y2_6 s7 H locs ls hP hS hl hw
          have hw := hI38 k38 y2_6 s7 hw
          refine lv_iload_n hx hb dX12_undo_38 rfl (lv_at hl 1 rfl) ?_
          refine lv_bipush (v := iI 13) hx hb dX12_undo_39 (by decide +kernel) ?_
          have q8 := hw.1
          have hw := hw.2
          refine wk_icmp_ge hx hb q8 ⟨by decide, by decide⟩ (tgt := 70) dX12_undo_41 (by decide) (fun hh => ?_) (fun hh => ?_)
          · have hw := hw.1 hh
            refine lv_aload_n hx hb dX12_undo_70 rfl (lv_at hl 0 rfl) ?_
            refine wk_getR 69 C0 fl_X12_19 hP (by decide) sh_65 rfl dX12_undo_71 ?_
            refine lv_iconst (v := iI 0) hx hb dX12_undo_74 rfl ?_
            refine wk_iald C0 hP (by decide) sh_69 (by decide) (by decide) (by decide) dX12_undo_75 ?_
            rw [show (0 : Int).toNat = 0 from rfl]
            exact hret _ _ _ _ _ _ hw hP hS dX12_undo_76
          · have hw := hw.2 hh
            refine lv_aload_n hx hb dX12_undo_44 rfl (lv_at hl 0 rfl) ?_
            refine wk_getR 69 C0 fl_X12_19 hP (by decide) sh_65 rfl dX12_undo_45 ?_
            refine lv_iload_n hx hb dX12_undo_48 rfl (lv_at hl 1 rfl) ?_
            refine lv_aload_n hx hb dX12_undo_49 rfl (lv_at hl 0 rfl) ?_
            refine wk_getR 71 C0 fl_X12_25 hP (by decide) sh_65 rfl dX12_undo_50 ?_
            refine lv_bipush (v := iI 13) hx hb dX12_undo_53 (by decide +kernel) ?_
            refine lv_aload_n hx hb dX12_undo_55 rfl (lv_at hl 0 rfl) ?_
            refine wk_getI C0 fl_X12_119 hP (by decide) sh_65 rfl dX12_undo_56 ?_
            refine wk_imul hx hb dX12_undo_59 ?_
            refine lv_iload_n hx hb dX12_undo_60 rfl (lv_at hl 1 rfl) ?_
            refine wk_iadd hx hb dX12_undo_61 ?_
            have q9 := hw.1
            have hw := hw.2
            refine wk_iald C0 hP (by decide) sh_71 q9.1 q9.2 (by decide) dX12_undo_62 ?_
            have q10 := hw.1
            have hw := hw.2
            refine wk_iast C0 hP hS (by decide) sh_69 q10.1 q10.2 (by decide) dX12_undo_63 (fun s11 H locs es11 hP hS => ?_)
            have hw := hw s11 es11
            refine wk_iinc (lv' := fun x2_12 => [(2, .int (iI x2_12)), (0, .ref (ad 65))]) hx hb dX12_undo_64 hl (k := 1) rfl (by decide) (fun _ => rfl) (fun x2_12 ls ex2_12 hl => ?_)
            have hw := hw x2_12 ex2_12
            refine lv_goto (tgt := 38) hx hb dX12_undo_67 (by decide) ?_
            obtain ⟨k13, hk13, hw⟩ := hw
            exact ih38 k13 hk13 x2_12 s11 _ _ _ hP hS (lv_sub hl [1, 0] rfl) hw
      obtain ⟨k14, hw⟩ := hw
      exact kI38 k14 0 s5 _ _ _ hP hS (lv_sub hl [1, 0] rfl) hw
    · have hw := hw.2 hh
      refine lv_ldc (own := RX12) (v := iI (-1000000003)) hx hb hown (htb _ ki_X12_158) dX12_undo_23 ?_
      exact hret _ _ _ _ _ _ hw hP hS dX12_undo_25
  · have hw := hw.1 hh
    refine lv_ldc (own := RX12) (v := iI (-1000000002)) hx hb hown (htb _ ki_X12_71) dX12_undo_12 ?_
    exact hret _ _ _ _ _ _ hw hP hS dX12_undo_14

set_option maxRecDepth 100000 in
set_option maxHeartbeats 4000000 in
theorem ok_X12_asides {l : Launch} {D : va_G} {cA : Nat → ClassId} {ad : Nat → Nat} (hI : wI ad) {sg : Mem} {Q : Mem → Prop} (hw : wp_X12_asides sg Q) : wMv l D cA ad yX12_asides cX12_asides 2 none 1 [.ref (ad 65)] sg Q := by
  refine wk_ofV (by decide) hI (Nat.le_of_ble_eq_true rfl) ?_
  intro p e s m below meth c A QQ ls C0 hret hl hP
  have hx := C0.1
  have hb := C0.2.1
  have hown := C0.2.2.2.1
  have htb := C0.2.2.2.2.1
  have hl : lv_has ls 2 [(0, .ref (ad 65))] := hl
  refine (fun (key : ∀ (H : Heap) (locs : List Loc), wP D cA ad sg H → va_S (wA ad) s.heap H locs → W p l e (rmL 1) s m A below meth c H locs 0 0 QQ (F0 m 0 ls [])) => key _ _ hP va_S.rf) ?_
  intro H locs hP hS
  unfold wp_X12_asides at hw
  refine lv_iconst (v := iI 0) hx hb dX12_asides_0 rfl ?_
  refine lv_istore_n (lv' := [(1, .int (iI 0)), (0, .ref (ad 65))]) hx hb dX12_asides_1 rfl hl (by decide) rfl (fun ls hl => ?_)
  obtain ⟨I2, hI2, hw⟩ := hw
  have kI2 : ∀ (k2 : Nat) (y1_1 : Int) (s2 : Mem) (H : Heap) (locs : List Loc) (ls : Array Slot), wP D cA ad s2 H → va_S (wA ad) s.heap H locs → lv_has ls 2 [(0, .ref (ad 65)), (1, .int (iI y1_1))] → I2 k2 y1_1 s2 → W p l e (rmL 1) s m A below meth c H locs 0 0 QQ (F0 m 2 ls []) := by
    intro k2
    induction k2 using Nat.strongRecOn with
    | _ k2 ih2 =>
      intro y1_1 s2 H locs ls hP hS hl hw
      have hw := hI2 k2 y1_1 s2 hw
      refine lv_iload_n hx hb dX12_asides_2 rfl (lv_at hl 1 rfl) ?_
      refine lv_bipush (v := iI 13) hx hb dX12_asides_3 (by decide +kernel) ?_
      have q3 := hw.1
      have hw := hw.2
      refine wk_icmp_ge hx hb q3 ⟨by decide, by decide⟩ (tgt := 26) dX12_asides_5 (by decide) (fun hh => ?_) (fun hh => ?_)
      · have hw := hw.1 hh
        exact hret _ _ _ _ _ hw hP hS dX12_asides_26
      · have hw := hw.2 hh
        refine lv_aload_n hx hb dX12_asides_8 rfl (lv_at hl 0 rfl) ?_
        refine wk_getR 72 C0 fl_X12_28 hP (by decide) sh_65 rfl dX12_asides_9 ?_
        refine lv_iload_n hx hb dX12_asides_12 rfl (lv_at hl 1 rfl) ?_
        refine lv_aload_n hx hb dX12_asides_13 rfl (lv_at hl 0 rfl) ?_
        refine wk_getR 69 C0 fl_X12_19 hP (by decide) sh_65 rfl dX12_asides_14 ?_
        refine lv_iload_n hx hb dX12_asides_17 rfl (lv_at hl 1 rfl) ?_
        have q4 := hw.1
        have hw := hw.2
        refine wk_iald C0 hP (by decide) sh_69 q4.1 q4.2 (by decide) dX12_asides_18 ?_
        refine wk_iast C0 hP hS (by decide) sh_72 q4.1 q4.2 (by decide) dX12_asides_19 (fun s5 H locs es5 hP hS => ?_)
        have hw := hw s5 es5
        refine wk_iinc (lv' := fun x1_6 => [(1, .int (iI x1_6)), (0, .ref (ad 65))]) hx hb dX12_asides_20 hl (k := 1) rfl (by decide) (fun _ => rfl) (fun x1_6 ls ex1_6 hl => ?_)
        have hw := hw x1_6 ex1_6
        refine lv_goto (tgt := 2) hx hb dX12_asides_23 (by decide) ?_
        obtain ⟨k7, hk7, hw⟩ := hw
        exact ih2 k7 hk7 x1_6 s5 _ _ _ hP hS (lv_sub hl [1, 0] rfl) hw
  obtain ⟨k8, hw⟩ := hw
  exact kI2 k8 0 sg _ _ _ hP hS (lv_sub hl [1, 0] rfl) hw

set_option maxRecDepth 100000 in
set_option maxHeartbeats 4000000 in
theorem ok_X12_backs {l : Launch} {D : va_G} {cA : Nat → ClassId} {ad : Nat → Nat} (hI : wI ad) {sg : Mem} {Q : Mem → Prop} (hw : wp_X12_backs sg Q) : wMv l D cA ad yX12_backs cX12_backs 2 none 1 [.ref (ad 65)] sg Q := by
  refine wk_ofV (by decide) hI (Nat.le_of_ble_eq_true rfl) ?_
  intro p e s m below meth c A QQ ls C0 hret hl hP
  have hx := C0.1
  have hb := C0.2.1
  have hown := C0.2.2.2.1
  have htb := C0.2.2.2.2.1
  have hl : lv_has ls 2 [(0, .ref (ad 65))] := hl
  refine (fun (key : ∀ (H : Heap) (locs : List Loc), wP D cA ad sg H → va_S (wA ad) s.heap H locs → W p l e (rmL 1) s m A below meth c H locs 0 0 QQ (F0 m 0 ls [])) => key _ _ hP va_S.rf) ?_
  intro H locs hP hS
  unfold wp_X12_backs at hw
  refine lv_iconst (v := iI 0) hx hb dX12_backs_0 rfl ?_
  refine lv_istore_n (lv' := [(1, .int (iI 0)), (0, .ref (ad 65))]) hx hb dX12_backs_1 rfl hl (by decide) rfl (fun ls hl => ?_)
  obtain ⟨I2, hI2, hw⟩ := hw
  have kI2 : ∀ (k2 : Nat) (y1_1 : Int) (s2 : Mem) (H : Heap) (locs : List Loc) (ls : Array Slot), wP D cA ad s2 H → va_S (wA ad) s.heap H locs → lv_has ls 2 [(0, .ref (ad 65)), (1, .int (iI y1_1))] → I2 k2 y1_1 s2 → W p l e (rmL 1) s m A below meth c H locs 0 0 QQ (F0 m 2 ls []) := by
    intro k2
    induction k2 using Nat.strongRecOn with
    | _ k2 ih2 =>
      intro y1_1 s2 H locs ls hP hS hl hw
      have hw := hI2 k2 y1_1 s2 hw
      refine lv_iload_n hx hb dX12_backs_2 rfl (lv_at hl 1 rfl) ?_
      refine lv_bipush (v := iI 13) hx hb dX12_backs_3 (by decide +kernel) ?_
      have q3 := hw.1
      have hw := hw.2
      refine wk_icmp_ge hx hb q3 ⟨by decide, by decide⟩ (tgt := 26) dX12_backs_5 (by decide) (fun hh => ?_) (fun hh => ?_)
      · have hw := hw.1 hh
        exact hret _ _ _ _ _ hw hP hS dX12_backs_26
      · have hw := hw.2 hh
        refine lv_aload_n hx hb dX12_backs_8 rfl (lv_at hl 0 rfl) ?_
        refine wk_getR 69 C0 fl_X12_19 hP (by decide) sh_65 rfl dX12_backs_9 ?_
        refine lv_iload_n hx hb dX12_backs_12 rfl (lv_at hl 1 rfl) ?_
        refine lv_aload_n hx hb dX12_backs_13 rfl (lv_at hl 0 rfl) ?_
        refine wk_getR 72 C0 fl_X12_28 hP (by decide) sh_65 rfl dX12_backs_14 ?_
        refine lv_iload_n hx hb dX12_backs_17 rfl (lv_at hl 1 rfl) ?_
        have q4 := hw.1
        have hw := hw.2
        refine wk_iald C0 hP (by decide) sh_72 q4.1 q4.2 (by decide) dX12_backs_18 ?_
        refine wk_iast C0 hP hS (by decide) sh_69 q4.1 q4.2 (by decide) dX12_backs_19 (fun s5 H locs es5 hP hS => ?_)
        have hw := hw s5 es5
        refine wk_iinc (lv' := fun x1_6 => [(1, .int (iI x1_6)), (0, .ref (ad 65))]) hx hb dX12_backs_20 hl (k := 1) rfl (by decide) (fun _ => rfl) (fun x1_6 ls ex1_6 hl => ?_)
        have hw := hw x1_6 ex1_6
        refine lv_goto (tgt := 2) hx hb dX12_backs_23 (by decide) ?_
        obtain ⟨k7, hk7, hw⟩ := hw
        exact ih2 k7 hk7 x1_6 s5 _ _ _ hP hS (lv_sub hl [1, 0] rfl) hw
  obtain ⟨k8, hw⟩ := hw
  exact kI2 k8 0 sg _ _ _ hP hS (lv_sub hl [1, 0] rfl) hw

set_option maxRecDepth 100000 in
set_option maxHeartbeats 4000000 in
theorem ok_X12_least {l : Launch} {D : va_G} {cA : Nat → ClassId} {ad : Nat → Nat} (hI : wI ad) {a1 : Int} {sg : Mem} {Q : Int → Prop} (hw : wp_X12_least a1 sg Q) : wMi l D cA ad yX12_least cX12_least 2 (some .int) 1 [.int (iI a1)] sg (fun z u => u = sg ∧ Q z) := by
  refine wk_ofI (by decide) hI (Nat.le_of_ble_eq_true rfl) ?_
  intro p e s m below meth c A QQ ls C0 hret hl hP
  have hx := C0.1
  have hb := C0.2.1
  have hown := C0.2.2.2.1
  have htb := C0.2.2.2.2.1
  have hl : lv_has ls 2 [(0, .int (iI a1))] := hl
  refine (fun (key : ∀ (H : Heap) (locs : List Loc), wP D cA ad sg H → va_S (wA ad) s.heap H locs → W p l e (rmL 1) s m A below meth c H locs 0 0 QQ (F0 m 0 ls [])) => key _ _ hP va_S.rf) ?_
  intro H locs hP hS
  unfold wp_X12_least at hw
  refine lv_iconst (v := iI 0) hx hb dX12_least_0 rfl ?_
  refine lv_istore_n (lv' := [(1, .int (iI 0)), (0, .int (iI a1))]) hx hb dX12_least_1 rfl hl (by decide) rfl (fun ls hl => ?_)
  obtain ⟨I2, hI2, hw⟩ := hw
  have kI2 : ∀ (k2 : Nat) (y1_1 : Int) (H : Heap) (locs : List Loc) (ls : Array Slot), wP D cA ad sg H → va_S (wA ad) s.heap H locs → lv_has ls 2 [(0, .int (iI a1)), (1, .int (iI y1_1))] → I2 k2 y1_1 → W p l e (rmL 1) s m A below meth c H locs 0 0 QQ (F0 m 2 ls []) := by
    intro k2
    induction k2 using Nat.strongRecOn with
    | _ k2 ih2 =>
      intro y1_1 H locs ls hP hS hl hw
      have hw := hI2 k2 y1_1 hw
      refine lv_iload_n hx hb dX12_least_2 rfl (lv_at hl 0 rfl) ?_
      refine lv_iload_n hx hb dX12_least_3 rfl (lv_at hl 1 rfl) ?_
      refine wk_ishr hx hb dX12_least_4 ?_
      refine lv_iconst (v := iI 1) hx hb dX12_least_5 rfl ?_
      refine wk_iand hx hb dX12_least_6 ?_
      have q2 := hw.1
      have hw := hw.2
      refine wk_if_ne hx hb q2 (tgt := 16) dX12_least_7 (by decide) (fun hh => ?_) (fun hh => ?_)
      · have hw := hw.2 hh
        refine lv_iload_n hx hb dX12_least_16 rfl (lv_at hl 1 rfl) ?_
        exact hret _ _ _ _ _ _ ⟨rfl, hw⟩ hP hS dX12_least_17
      · have hw := hw.1 hh
        refine wk_iinc (lv' := fun x1_3 => [(1, .int (iI x1_3)), (0, .int (iI a1))]) hx hb dX12_least_10 hl (k := 1) rfl (by decide) (fun _ => rfl) (fun x1_3 ls ex1_3 hl => ?_)
        have hw := hw x1_3 ex1_3
        refine lv_goto (tgt := 2) hx hb dX12_least_13 (by decide) ?_
        obtain ⟨k4, hk4, hw⟩ := hw
        exact ih2 k4 hk4 x1_3 _ _ _ hP hS (lv_sub hl [1, 0] rfl) hw
  obtain ⟨k5, hw⟩ := hw
  exact kI2 k5 0 _ _ _ hP hS (lv_sub hl [1, 0] rfl) hw

set_option maxRecDepth 100000 in
set_option maxHeartbeats 4000000 in
theorem ok_X12_firstAwake {l : Launch} {D : va_G} {cA : Nat → ClassId} {ad : Nat → Nat} (hI : wI ad) {a1 : Int} {sg : Mem} {Q : Int → Mem → Prop} (hw : wp_X12_firstAwake a1 sg Q) : wMi l D cA ad yX12_firstAwake cX12_firstAwake 4 (some .int) 3 [.ref (ad 65), .int (iI a1)] sg Q := by
  refine wk_ofI (by decide) hI (Nat.le_of_ble_eq_true rfl) ?_
  intro p e s m below meth c A QQ ls C0 hret hl hP
  have hx := C0.1
  have hb := C0.2.1
  have hown := C0.2.2.2.1
  have htb := C0.2.2.2.2.1
  have hl : lv_has ls 4 [(0, .ref (ad 65)), (1, .int (iI a1))] := hl
  refine (fun (key : ∀ (H : Heap) (locs : List Loc), wP D cA ad sg H → va_S (wA ad) s.heap H locs → W p l e (rmL 3) s m A below meth c H locs 0 0 QQ (F0 m 0 ls [])) => key _ _ hP va_S.rf) ?_
  intro H locs hP hS
  unfold wp_X12_firstAwake at hw
  refine lv_iload_n hx hb dX12_firstAwake_0 rfl (lv_at hl 1 rfl) ?_
  have q1 := hw.1
  have hw := hw.2
  refine wk_i2l hx hb q1 dX12_firstAwake_1 ?_
  refine lv_lconst (v := iL 0) hx hb dX12_firstAwake_2 rfl ?_
  refine lv_lconst (v := iL 1) hx hb dX12_firstAwake_3 rfl ?_
  refine wk_rip (wk_callS (rest := []) C0 cl_X12_67 (ok_X12_in hI hw) hP rfl rfl (Nat.le_of_ble_eq_true rfl) (wk_room (by decide) (by decide)) hl.1 dX12_firstAwake_4 ⟨Nat.le_refl _, Nat.le_refl _⟩) hS (fun r2 H locs hw hP hS => ?_)
  have q3 := hw.1
  have hw := hw.2
  refine wk_if_ne hx hb q3 (tgt := 13) dX12_firstAwake_7 (by decide) (fun hh => ?_) (fun hh => ?_)
  · have hw := hw.2 hh
    refine lv_aload_n hx hb dX12_firstAwake_13 rfl (lv_at hl 0 rfl) ?_
    refine wk_rv (wk_callV (rest := []) C0 cl_X12_189 (ok_X12_asides hI hw) hP (by decide) sh_65 rfl rfl rfl (Nat.le_of_ble_eq_true rfl) (wk_room (by decide) (by decide)) hl.1 dX12_firstAwake_14 ⟨Nat.le_refl _, Nat.le_refl _⟩) hS (fun s4 H locs hw hP hS => ?_)
    refine lv_iconst (v := iI (-1)) hx hb dX12_firstAwake_17 rfl ?_
    refine lv_istore_n (lv' := [(2, .int (iI (-1))), (0, .ref (ad 65)), (1, .int (iI a1))]) hx hb dX12_firstAwake_18 rfl hl (by decide) rfl (fun ls hl => ?_)
    refine lv_iconst (v := iI 0) hx hb dX12_firstAwake_19 rfl ?_
    refine lv_istore_n (lv' := [(3, .int (iI 0)), (2, .int (iI (-1))), (0, .ref (ad 65)), (1, .int (iI a1))]) hx hb dX12_firstAwake_20 rfl hl (by decide) rfl (fun ls hl => ?_)
    obtain ⟨I21, hI21, hw⟩ := hw
    have kI21 : ∀ (k21 : Nat) (y2_5 : Int) (y3_6 : Int) (s7 : Mem) (H : Heap) (locs : List Loc) (ls : Array Slot), wP D cA ad s7 H → va_S (wA ad) s.heap H locs → lv_has ls 4 [(0, .ref (ad 65)), (1, .int (iI a1)), (2, .int (iI y2_5)), (3, .int (iI y3_6))] → I21 k21 y2_5 y3_6 s7 → W p l e (rmL 3) s m A below meth c H locs 0 0 QQ (F0 m 21 ls []) := by
      intro k21
      induction k21 using Nat.strongRecOn with
      | _ k21 ih21 =>
        intro y2_5 y3_6 s7 H locs ls hP hS hl hw
        have hw := hI21 k21 y2_5 y3_6 s7 hw
        refine lv_iload_n hx hb dX12_firstAwake_21 rfl (lv_at hl 3 rfl) ?_
        refine lv_bipush (v := iI 100) hx hb dX12_firstAwake_22 (by decide +kernel) ?_
        have q8 := hw.1
        have hw := hw.2
        obtain ⟨X80, hX80, hw⟩ := hw
        have kX80 : ∀ (H : Heap) (locs : List Loc) (ls : Array Slot), wP D cA ad s7 H → va_S (wA ad) s.heap H locs → lv_has ls 4 [(0, .ref (ad 65)), (2, .int (iI y2_5))] → X80 → W p l e (rmL 3) s m A below meth c H locs 0 0 QQ (F0 m 80 ls []) := by
          intro H locs ls hP hS hl hw
          have hw := hX80 hw
          refine lv_aload_n hx hb dX12_firstAwake_80 rfl (lv_at hl 0 rfl) ?_
          refine wk_rv (wk_callV (rest := []) C0 cl_X12_195 (ok_X12_backs hI hw) hP (by decide) sh_65 rfl rfl rfl (Nat.le_of_ble_eq_true rfl) (wk_room (by decide) (by decide)) hl.1 dX12_firstAwake_81 ⟨Nat.le_refl _, Nat.le_refl _⟩) hS (fun s9 H locs hw hP hS => ?_)
          refine lv_iload_n hx hb dX12_firstAwake_84 rfl (lv_at hl 1 rfl) ?_
          exact hret _ _ _ _ _ _ hw hP hS dX12_firstAwake_85
        refine wk_icmp_ge hx hb q8 ⟨by decide, by decide⟩ (tgt := 80) dX12_firstAwake_24 (by decide) (fun hh => ?_) (fun hh => ?_)
        · have hw := hw.1 hh
          exact kX80  _ _ _ hP hS (lv_sub hl [0, 2] rfl) hw
        · have hw := hw.2 hh
          refine lv_iload_n hx hb dX12_firstAwake_27 rfl (lv_at hl 2 rfl) ?_
          refine lv_iconst (v := iI (-1)) hx hb dX12_firstAwake_28 rfl ?_
          have q10 := hw.1
          have hw := hw.2
          refine wk_icmp_ne hx hb q10 ⟨by decide, by decide⟩ (tgt := 80) dX12_firstAwake_29 (by decide) (fun hh => ?_) (fun hh => ?_)
          · have hw := hw.2 hh
            exact kX80  _ _ _ hP hS (lv_sub hl [0, 2] rfl) hw
          · have hw := hw.1 hh
            refine lv_aload_n hx hb dX12_firstAwake_32 rfl (lv_at hl 0 rfl) ?_
            refine wk_rip (wk_callV (rest := []) C0 cl_X12_122 (ok_X12_inBed hI hw) hP (by decide) sh_65 rfl rfl rfl (Nat.le_of_ble_eq_true rfl) (wk_room (by decide) (by decide)) hl.1 dX12_firstAwake_33 ⟨Nat.le_refl _, Nat.le_refl _⟩) hS (fun r11 H locs hw hP hS => ?_)
            have q12 := hw.1
            have hw := hw.2
            refine wk_if_eq hx hb q12 (tgt := 80) dX12_firstAwake_36 (by decide) (fun hh => ?_) (fun hh => ?_)
            · have hw := hw.1 hh
              exact kX80  _ _ _ hP hS (lv_sub hl [0, 2] rfl) hw
            · have hw := hw.2 hh
              refine lv_aload_n hx hb dX12_firstAwake_39 rfl (lv_at hl 0 rfl) ?_
              refine wk_rip (wk_callV (rest := []) C0 cl_X12_142 (ok_X12_awake hI hw) hP (by decide) sh_65 rfl rfl rfl (Nat.le_of_ble_eq_true rfl) (wk_room (by decide) (by decide)) hl.1 dX12_firstAwake_40 ⟨Nat.le_refl _, Nat.le_refl _⟩) hS (fun r13 H locs hw hP hS => ?_)
              have q14 := hw.1
              have hw := hw.2
              obtain ⟨X65, hX65, hw⟩ := hw
              have kX65 : ∀ (v15 : Int) (H : Heap) (locs : List Loc) (ls : Array Slot), wP D cA ad s7 H → va_S (wA ad) s.heap H locs → lv_has ls 4 [(0, .ref (ad 65)), (1, .int (iI a1)), (3, .int (iI y3_6))] → X65 v15 → W p l e (rmL 3) s m A below meth c H locs 0 0 QQ (F0 m 65 ls [.int (iI v15)]) := by
                intro v15 H locs ls hP hS hl hw
                have hw := hX65 v15 hw
                refine lv_istore_n (lv' := [(2, .int (iI v15)), (0, .ref (ad 65)), (1, .int (iI a1)), (3, .int (iI y3_6))]) hx hb dX12_firstAwake_65 rfl hl (by decide) rfl (fun ls hl => ?_)
                refine lv_aload_n hx hb dX12_firstAwake_66 rfl (lv_at hl 1 rfl) ?_
                refine lv_aload_n hx hb dX12_firstAwake_67 rfl (lv_at hl 1 rfl) ?_
                refine wk_rip (wk_callV (rest := [.ref (ad 65)]) C0 cl_X12_171 (ok_X12_lawful hI hw) hP (by decide) sh_65 rfl rfl rfl (Nat.le_of_ble_eq_true rfl) (wk_room (by decide) (by decide)) hl.1 dX12_firstAwake_68 ⟨Nat.le_refl _, Nat.le_refl _⟩) hS (fun r16 H locs hw hP hS => ?_)
                refine wk_rv (wk_callV (rest := []) C0 cl_X12_166 (ok_X12_goesOn hI hw) hP (by decide) sh_65 rfl rfl rfl (Nat.le_of_ble_eq_true rfl) (wk_room (by decide) (by decide)) hl.1 dX12_firstAwake_71 ⟨Nat.le_refl _, Nat.le_refl _⟩) hS (fun s17 H locs hw hP hS => ?_)
                refine wk_iinc (lv' := fun x3_18 => [(3, .int (iI x3_18)), (2, .int (iI v15)), (0, .ref (ad 65)), (1, .int (iI a1))]) hx hb dX12_firstAwake_74 hl (k := 3) rfl (by decide) (fun _ => rfl) (fun x3_18 ls ex3_18 hl => ?_)
                have hw := hw x3_18 ex3_18
                refine lv_goto (tgt := 21) hx hb dX12_firstAwake_77 (by decide) ?_
                obtain ⟨k19, hk19, hw⟩ := hw
                exact ih21 k19 hk19 v15 x3_18 s17 _ _ _ hP hS (lv_sub hl [2, 3, 1, 0] rfl) hw
              refine wk_if_ne hx hb q14 (tgt := 50) dX12_firstAwake_43 (by decide) (fun hh => ?_) (fun hh => ?_)
              · have hw := hw.2 hh
                refine lv_iload_n hx hb dX12_firstAwake_50 rfl (lv_at hl 1 rfl) ?_
                refine wk_if_ne hx hb q1 (tgt := 58) dX12_firstAwake_51 (by decide) (fun hh => ?_) (fun hh => ?_)
                · have hw := hw.2 hh
                  refine lv_aload_n hx hb dX12_firstAwake_58 rfl (lv_at hl 0 rfl) ?_
                  refine wk_rip (wk_callV (rest := []) C0 cl_X12_142 (ok_X12_awake hI hw) hP (by decide) sh_65 rfl rfl rfl (Nat.le_of_ble_eq_true rfl) (wk_room (by decide) (by decide)) hl.1 dX12_firstAwake_59 ⟨Nat.le_refl _, Nat.le_refl _⟩) hS (fun r20 H locs hw hP hS => ?_)
                  refine wk_rip (wk_callS (rest := []) C0 cl_X12_192 (ok_X12_least hI hw) hP rfl rfl (Nat.le_of_ble_eq_true rfl) (wk_room (by decide) (by decide)) hl.1 dX12_firstAwake_62 ⟨Nat.le_refl _, Nat.le_refl _⟩) hS (fun r21 H locs hw hP hS => ?_)
                  exact kX65 r21 _ _ _ hP hS (lv_sub hl [0, 1, 3] rfl) hw
                · have hw := hw.1 hh
                  refine lv_iload_n hx hb dX12_firstAwake_54 rfl (lv_at hl 3 rfl) ?_
                  refine lv_goto (tgt := 65) hx hb dX12_firstAwake_55 (by decide) ?_
                  exact kX65 y3_6 _ _ _ hP hS (lv_sub hl [0, 1, 3] rfl) hw
              · have hw := hw.1 hh
                refine lv_iconst (v := iI (-1)) hx hb dX12_firstAwake_46 rfl ?_
                refine lv_goto (tgt := 65) hx hb dX12_firstAwake_47 (by decide) ?_
                exact kX65 (-1) _ _ _ hP hS (lv_sub hl [0, 1, 3] rfl) hw
    obtain ⟨k22, hw⟩ := hw
    exact kI21 k22 (-1) 0 s4 _ _ _ hP hS (lv_sub hl [2, 3, 1, 0] rfl) hw
  · have hw := hw.1 hh
    refine lv_ldc (own := RX12) (v := iI (-1000000002)) hx hb hown (htb _ ki_X12_71) dX12_firstAwake_10 ?_
    exact hret _ _ _ _ _ _ hw hP hS dX12_firstAwake_12

set_option maxRecDepth 100000 in
set_option maxHeartbeats 4000000 in
theorem ok_X12_power {l : Launch} {D : va_G} {cA : Nat → ClassId} {ad : Nat → Nat} (hI : wI ad) {a1 : Int} {sg : Mem} {Q : Int → Prop} (hw : wp_X12_power a1 sg Q) : wMi l D cA ad yX12_power cX12_power 1 (some .int) 1 [.int (iI a1)] sg (fun z u => u = sg ∧ Q z) := by
  refine wk_ofI (by decide) hI (Nat.le_of_ble_eq_true rfl) ?_
  intro p e s m below meth c A QQ ls C0 hret hl hP
  have hx := C0.1
  have hb := C0.2.1
  have hown := C0.2.2.2.1
  have htb := C0.2.2.2.2.1
  have hl : lv_has ls 1 [(0, .int (iI a1))] := hl
  refine (fun (key : ∀ (H : Heap) (locs : List Loc), wP D cA ad sg H → va_S (wA ad) s.heap H locs → W p l e (rmL 1) s m A below meth c H locs 0 0 QQ (F0 m 0 ls [])) => key _ _ hP va_S.rf) ?_
  intro H locs hP hS
  unfold wp_X12_power at hw
  refine lv_iconst (v := iI 1) hx hb dX12_power_0 rfl ?_
  refine lv_iconst (v := iI 2) hx hb dX12_power_1 rfl ?_
  refine lv_iload_n hx hb dX12_power_2 rfl (lv_at hl 0 rfl) ?_
  refine wk_imul hx hb dX12_power_3 ?_
  refine wk_ishl hx hb dX12_power_4 ?_
  exact hret _ _ _ _ _ _ ⟨rfl, hw⟩ hP hS dX12_power_5

set_option maxRecDepth 100000 in
set_option maxHeartbeats 4000000 in
theorem ok_X12_word {l : Launch} {D : va_G} {cA : Nat → ClassId} {ad : Nat → Nat} (hI : wI ad) {a1 : Int} {a2 : Int} {a3 : Int} {sg : Mem} {Q : Int → Prop} (hw : wp_X12_word a1 a2 a3 sg Q) : wMi l D cA ad yX12_word cX12_word 3 (some .int) 1 [.int (iI a1), .int (iI a2), .int (iI a3)] sg (fun z u => u = sg ∧ Q z) := by
  refine wk_ofI (by decide) hI (Nat.le_of_ble_eq_true rfl) ?_
  intro p e s m below meth c A QQ ls C0 hret hl hP
  have hx := C0.1
  have hb := C0.2.1
  have hown := C0.2.2.2.1
  have htb := C0.2.2.2.2.1
  have hl : lv_has ls 3 [(0, .int (iI a1)), (1, .int (iI a2)), (2, .int (iI a3))] := hl
  refine (fun (key : ∀ (H : Heap) (locs : List Loc), wP D cA ad sg H → va_S (wA ad) s.heap H locs → W p l e (rmL 1) s m A below meth c H locs 0 0 QQ (F0 m 0 ls [])) => key _ _ hP va_S.rf) ?_
  intro H locs hP hS
  unfold wp_X12_word at hw
  refine lv_iload_n hx hb dX12_word_0 rfl (lv_at hl 0 rfl) ?_
  refine lv_iconst (v := iI 2) hx hb dX12_word_1 rfl ?_
  refine lv_iload_n hx hb dX12_word_2 rfl (lv_at hl 1 rfl) ?_
  refine lv_iconst (v := iI 1) hx hb dX12_word_3 rfl ?_
  refine wk_isub hx hb dX12_word_4 ?_
  refine lv_iload_n hx hb dX12_word_5 rfl (lv_at hl 2 rfl) ?_
  refine wk_isub hx hb dX12_word_6 ?_
  refine wk_imul hx hb dX12_word_7 ?_
  refine wk_ishr hx hb dX12_word_8 ?_
  refine lv_iconst (v := iI 3) hx hb dX12_word_9 rfl ?_
  refine wk_iand hx hb dX12_word_10 ?_
  exact hret _ _ _ _ _ _ ⟨rfl, hw⟩ hP hS dX12_word_11

set_option maxRecDepth 100000 in
set_option maxHeartbeats 4000000 in
theorem ok_X12_sleeps {l : Launch} {D : va_G} {cA : Nat → ClassId} {ad : Nat → Nat} (hI : wI ad) {a1 : Int} {a2 : Int} {a3 : Int} {sg : Mem} {Q : Int → Mem → Prop} (hw : wp_X12_sleeps a1 a2 a3 sg Q) : wMi l D cA ad yX12_sleeps cX12_sleeps 6 (some .boolean) 3 [.ref (ad 65), .int (iI a1), .int (iI a2), .int (iI a3)] sg Q := by
  refine wk_ofZ (by decide) hI (Nat.le_of_ble_eq_true rfl) ?_
  intro p e s m below meth c A QQ ls C0 hret hl hP
  have hx := C0.1
  have hb := C0.2.1
  have hown := C0.2.2.2.1
  have htb := C0.2.2.2.2.1
  have hl : lv_has ls 6 [(0, .ref (ad 65)), (1, .int (iI a1)), (2, .int (iI a2)), (3, .int (iI a3))] := hl
  refine (fun (key : ∀ (H : Heap) (locs : List Loc), wP D cA ad sg H → va_S (wA ad) s.heap H locs → W p l e (rmL 3) s m A below meth c H locs 0 0 QQ (F0 m 0 ls [])) => key _ _ hP va_S.rf) ?_
  intro H locs hP hS
  unfold wp_X12_sleeps at hw
  refine lv_iconst (v := iI 1) hx hb dX12_sleeps_0 rfl ?_
  refine lv_istore (lv' := [(4, .int (iI 1)), (0, .ref (ad 65)), (1, .int (iI a1)), (2, .int (iI a2)), (3, .int (iI a3))]) hx hb dX12_sleeps_1 hl (by decide) rfl (fun ls hl => ?_)
  refine lv_iconst (v := iI 0) hx hb dX12_sleeps_3 rfl ?_
  refine lv_istore (lv' := [(5, .int (iI 0)), (4, .int (iI 1)), (0, .ref (ad 65)), (1, .int (iI a1)), (2, .int (iI a2)), (3, .int (iI a3))]) hx hb dX12_sleeps_4 hl (by decide) rfl (fun ls hl => ?_)
  obtain ⟨I6, hI6, hw⟩ := hw
  have kI6 : ∀ (k6 : Nat) (y4_1 : Int) (y5_2 : Int) (s3 : Mem) (H : Heap) (locs : List Loc) (ls : Array Slot), wP D cA ad s3 H → va_S (wA ad) s.heap H locs → lv_has ls 6 [(0, .ref (ad 65)), (1, .int (iI a1)), (2, .int (iI a2)), (3, .int (iI a3)), (4, .int (iI y4_1)), (5, .int (iI y5_2))] → I6 k6 y4_1 y5_2 s3 → W p l e (rmL 3) s m A below meth c H locs 0 0 QQ (F0 m 6 ls []) := by
    intro k6
    induction k6 using Nat.strongRecOn with
    | _ k6 ih6 =>
      intro y4_1 y5_2 s3 H locs ls hP hS hl hw
      have hw := hI6 k6 y4_1 y5_2 s3 hw
      refine lv_iload hx hb dX12_sleeps_6 (lv_at hl 5 rfl) ?_
      refine lv_iload_n hx hb dX12_sleeps_8 rfl (lv_at hl 3 rfl) ?_
      have q4 := hw.1
      have hw := hw.2
      have q5 := hw.1
      have hw := hw.2
      refine wk_icmp_ge hx hb q4 q5 (tgt := 50) dX12_sleeps_9 (by decide) (fun hh => ?_) (fun hh => ?_)
      · have hw := hw.1 hh
        refine lv_iload hx hb dX12_sleeps_50 (lv_at hl 4 rfl) ?_
        have qz := hw.1
        have hw := hw.2
        exact hret _ _ _ _ _ _ qz hw hP hS dX12_sleeps_52
      · have hw := hw.2 hh
        refine lv_iload hx hb dX12_sleeps_12 (lv_at hl 4 rfl) ?_
        have q6 := hw.1
        have hw := hw.2
        refine wk_if_eq hx hb q6 (tgt := 50) dX12_sleeps_14 (by decide) (fun hh => ?_) (fun hh => ?_)
        · have hw := hw.1 hh
          refine lv_iload hx hb dX12_sleeps_50 (lv_at hl 4 rfl) ?_
          have qz := hw.1
          have hw := hw.2
          exact hret _ _ _ _ _ _ qz hw hP hS dX12_sleeps_52
        · have hw := hw.2 hh
          refine lv_aload_n hx hb dX12_sleeps_17 rfl (lv_at hl 0 rfl) ?_
          refine lv_iload_n hx hb dX12_sleeps_18 rfl (lv_at hl 1 rfl) ?_
          refine lv_iload_n hx hb dX12_sleeps_19 rfl (lv_at hl 2 rfl) ?_
          refine lv_iload hx hb dX12_sleeps_20 (lv_at hl 5 rfl) ?_
          refine lv_iload_n hx hb dX12_sleeps_22 rfl (lv_at hl 2 rfl) ?_
          have q7 := hw.1
          have hw := hw.2
          have q8 := hw.1
          have hw := hw.2
          refine wk_irem hx hb q4 q7 q8 dX12_sleeps_23 ?_
          refine wk_rip (wk_callS (rest := [.ref (ad 65)]) C0 cl_X12_198 (ok_X12_word hI hw) hP rfl rfl (Nat.le_of_ble_eq_true rfl) (wk_room (by decide) (by decide)) hl.1 dX12_sleeps_24 ⟨Nat.le_refl _, Nat.le_refl _⟩) hS (fun r9 H locs hw hP hS => ?_)
          refine wk_rv (wk_callV (rest := []) C0 cl_X12_166 (ok_X12_goesOn hI hw) hP (by decide) sh_65 rfl rfl rfl (Nat.le_of_ble_eq_true rfl) (wk_room (by decide) (by decide)) hl.1 dX12_sleeps_27 ⟨Nat.le_refl _, Nat.le_refl _⟩) hS (fun s10 H locs hw hP hS => ?_)
          refine lv_aload_n hx hb dX12_sleeps_30 rfl (lv_at hl 0 rfl) ?_
          refine wk_rip (wk_callV (rest := []) C0 cl_X12_142 (ok_X12_awake hI hw) hP (by decide) sh_65 rfl rfl rfl (Nat.le_of_ble_eq_true rfl) (wk_room (by decide) (by decide)) hl.1 dX12_sleeps_31 ⟨Nat.le_refl _, Nat.le_refl _⟩) hS (fun r11 H locs hw hP hS => ?_)
          have q12 := hw.1
          have hw := hw.2
          have kX42 : ∀ v13 : Int, v13 = (if r11 = 0 then 1 else 0) → ∀ (ls : Array Slot), lv_has ls 6 [(0, .ref (ad 65)), (1, .int (iI a1)), (2, .int (iI a2)), (3, .int (iI a3)), (5, .int (iI y5_2))] → W p l e (rmL 3) s m A below meth c H locs 0 0 QQ (F0 m 42 ls [.int (iI v13)]) := by
            intro v13 ev13 ls hl
            have hw := hw v13 ev13
            refine lv_istore (lv' := [(4, .int (iI v13)), (0, .ref (ad 65)), (1, .int (iI a1)), (2, .int (iI a2)), (3, .int (iI a3)), (5, .int (iI y5_2))]) hx hb dX12_sleeps_42 hl (by decide) rfl (fun ls hl => ?_)
            refine wk_iinc (lv' := fun x5_14 => [(5, .int (iI x5_14)), (4, .int (iI v13)), (0, .ref (ad 65)), (1, .int (iI a1)), (2, .int (iI a2)), (3, .int (iI a3))]) hx hb dX12_sleeps_44 hl (k := 5) rfl (by decide) (fun _ => rfl) (fun x5_14 ls ex5_14 hl => ?_)
            have hw := hw x5_14 ex5_14
            refine lv_goto (tgt := 6) hx hb dX12_sleeps_47 (by decide) ?_
            obtain ⟨k15, hk15, hw⟩ := hw
            exact ih6 k15 hk15 v13 x5_14 s10 _ _ _ hP hS (lv_sub hl [2, 3, 4, 5, 1, 0] rfl) hw
          refine wk_if_ne hx hb q12 (tgt := 41) dX12_sleeps_34 (by decide) (fun hh16 => ?_) (fun hh16 => ?_)
          · refine lv_iconst (v := iI 0) hx hb dX12_sleeps_41 rfl ?_
            exact kX42 0 (by rw [if_neg hh16]) ls (lv_sub hl [0, 1, 2, 3, 5] rfl)
          · refine lv_iconst (v := iI 1) hx hb dX12_sleeps_37 rfl ?_
            refine lv_goto (tgt := 42) hx hb dX12_sleeps_38 (by decide) ?_
            exact kX42 1 (by rw [if_pos hh16]) ls (lv_sub hl [0, 1, 2, 3, 5] rfl)
  obtain ⟨k17, hw⟩ := hw
  exact kI6 k17 1 0 sg _ _ _ hP hS (lv_sub hl [2, 3, 4, 5, 1, 0] rfl) hw

set_option maxRecDepth 100000 in
set_option maxHeartbeats 4000000 in
theorem ok_X12_turnsFor {l : Launch} {D : va_G} {cA : Nat → ClassId} {ad : Nat → Nat} (hI : wI ad) {a1 : Int} {a2 : Int} {sg : Mem} {Q : Int → Mem → Prop} (hw : wp_X12_turnsFor a1 a2 sg Q) : wMi l D cA ad yX12_turnsFor cX12_turnsFor 11 (some .int) 4 [.ref (ad 65), .int (iI a1), .int (iI a2)] sg Q := by
  refine wk_ofI (by decide) hI (Nat.le_of_ble_eq_true rfl) ?_
  intro p e s m below meth c A QQ ls C0 hret hl hP
  have hx := C0.1
  have hb := C0.2.1
  have hown := C0.2.2.2.1
  have htb := C0.2.2.2.2.1
  have hl : lv_has ls 11 [(0, .ref (ad 65)), (1, .int (iI a1)), (2, .int (iI a2))] := hl
  refine (fun (key : ∀ (H : Heap) (locs : List Loc), wP D cA ad sg H → va_S (wA ad) s.heap H locs → W p l e (rmL 4) s m A below meth c H locs 0 0 QQ (F0 m 0 ls [])) => key _ _ hP va_S.rf) ?_
  intro H locs hP hS
  unfold wp_X12_turnsFor at hw
  refine lv_iload_n hx hb dX12_turnsFor_0 rfl (lv_at hl 1 rfl) ?_
  have q1 := hw.1
  have hw := hw.2
  refine wk_i2l hx hb q1 dX12_turnsFor_1 ?_
  refine lv_lconst (v := iL 1) hx hb dX12_turnsFor_2 rfl ?_
  refine lv_ldc2 (own := RX12) (v := iL 5) hx hb hown (htb _ kl_X12_202) dX12_turnsFor_3 ?_
  refine wk_rip (wk_callS (rest := []) C0 cl_X12_67 (ok_X12_in hI hw) hP rfl rfl (Nat.le_of_ble_eq_true rfl) (wk_room (by decide) (by decide)) hl.1 dX12_turnsFor_6 ⟨Nat.le_refl _, Nat.le_refl _⟩) hS (fun r2 H locs hw hP hS => ?_)
  have q3 := hw.1
  have hw := hw.2
  refine wk_if_ne hx hb q3 (tgt := 15) dX12_turnsFor_9 (by decide) (fun hh => ?_) (fun hh => ?_)
  · have hw := hw.2 hh
    refine lv_aload_n hx hb dX12_turnsFor_15 rfl (lv_at hl 0 rfl) ?_
    refine wk_rip (wk_callV (rest := []) C0 cl_X12_122 (ok_X12_inBed hI hw) hP (by decide) sh_65 rfl rfl rfl (Nat.le_of_ble_eq_true rfl) (wk_room (by decide) (by decide)) hl.1 dX12_turnsFor_16 ⟨Nat.le_refl _, Nat.le_refl _⟩) hS (fun r4 H locs hw hP hS => ?_)
    have q5 := hw.1
    have hw := hw.2
    refine wk_if_ne hx hb q5 (tgt := 25) dX12_turnsFor_19 (by decide) (fun hh => ?_) (fun hh => ?_)
    · have hw := hw.2 hh
      refine lv_aload_n hx hb dX12_turnsFor_25 rfl (lv_at hl 0 rfl) ?_
      refine wk_rv (wk_callV (rest := []) C0 cl_X12_189 (ok_X12_asides hI hw) hP (by decide) sh_65 rfl rfl rfl (Nat.le_of_ble_eq_true rfl) (wk_room (by decide) (by decide)) hl.1 dX12_turnsFor_26 ⟨Nat.le_refl _, Nat.le_refl _⟩) hS (fun s6 H locs hw hP hS => ?_)
      refine lv_iconst (v := iI (-1)) hx hb dX12_turnsFor_29 rfl ?_
      refine lv_istore_n (lv' := [(3, .int (iI (-1))), (0, .ref (ad 65)), (1, .int (iI a1)), (2, .int (iI a2))]) hx hb dX12_turnsFor_30 rfl hl (by decide) rfl (fun ls hl => ?_)
      refine lv_iconst (v := iI (-1)) hx hb dX12_turnsFor_31 rfl ?_
      refine lv_istore (lv' := [(4, .int (iI (-1))), (3, .int (iI (-1))), (0, .ref (ad 65)), (1, .int (iI a1)), (2, .int (iI a2))]) hx hb dX12_turnsFor_32 hl (by decide) rfl (fun ls hl => ?_)
      refine lv_iconst (v := iI 0) hx hb dX12_turnsFor_34 rfl ?_
      refine lv_istore (lv' := [(5, .int (iI 0)), (4, .int (iI (-1))), (3, .int (iI (-1))), (0, .ref (ad 65)), (1, .int (iI a1)), (2, .int (iI a2))]) hx hb dX12_turnsFor_35 hl (by decide) rfl (fun ls hl => ?_)
      refine lv_iconst (v := iI 0) hx hb dX12_turnsFor_37 rfl ?_
      refine lv_istore (lv' := [(6, .int (iI 0)), (5, .int (iI 0)), (4, .int (iI (-1))), (3, .int (iI (-1))), (0, .ref (ad 65)), (1, .int (iI a1)), (2, .int (iI a2))]) hx hb dX12_turnsFor_38 hl (by decide) rfl (fun ls hl => ?_)
      obtain ⟨I40, hI40, hw⟩ := hw
      have kI40 : ∀ (k40 : Nat) (y3_7 : Int) (y4_8 : Int) (y5_9 : Int) (y6_10 : Int) (s11 : Mem) (H : Heap) (locs : List Loc) (ls : Array Slot), wP D cA ad s11 H → va_S (wA ad) s.heap H locs → lv_has ls 11 [(0, .ref (ad 65)), (1, .int (iI a1)), (2, .int (iI a2)), (3, .int (iI y3_7)), (4, .int (iI y4_8)), (5, .int (iI y5_9)), (6, .int (iI y6_10))] → I40 k40 y3_7 y4_8 y5_9 y6_10 s11 → W p l e (rmL 4) s m A below meth c H locs 0 0 QQ (F0 m 40 ls []) := by
        intro k40
        induction k40 using Nat.strongRecOn with
        | _ k40 ih40 =>
          intro y3_7 y4_8 y5_9 y6_10 s11 H locs ls hP hS hl hw
          have hw := hI40 k40 y3_7 y4_8 y5_9 y6_10 s11 hw
          refine lv_iload hx hb dX12_turnsFor_40 (lv_at hl 6 rfl) ?_
          refine lv_iload_n hx hb dX12_turnsFor_42 rfl (lv_at hl 1 rfl) ?_
          refine wk_rip (wk_callS (rest := [.int (iI y6_10)]) C0 cl_X12_204 (ok_X12_power hI hw) hP rfl rfl (Nat.le_of_ble_eq_true rfl) (wk_room (by decide) (by decide)) hl.1 dX12_turnsFor_43 ⟨Nat.le_refl _, Nat.le_refl _⟩) hS (fun r12 H locs hw hP hS => ?_)
          have q13 := hw.1
          have hw := hw.2
          have q14 := hw.1
          have hw := hw.2
          refine wk_icmp_ge hx hb q13 q14 (tgt := 151) dX12_turnsFor_46 (by decide) (fun hh => ?_) (fun hh => ?_)
          · have hw := hw.1 hh
            refine lv_iload_n hx hb dX12_turnsFor_151 rfl (lv_at hl 3 rfl) ?_
            refine lv_iconst (v := iI (-1)) hx hb dX12_turnsFor_152 rfl ?_
            have q15 := hw.1
            have hw := hw.2
            refine wk_icmp_ne hx hb q15 ⟨by decide, by decide⟩ (tgt := 160) dX12_turnsFor_153 (by decide) (fun hh => ?_) (fun hh => ?_)
            · have hw := hw.2 hh
              refine lv_iload_n hx hb dX12_turnsFor_160 rfl (lv_at hl 2 rfl) ?_
              refine lv_iconst (v := iI (-1)) hx hb dX12_turnsFor_161 rfl ?_
              have q16 := hw.1
              have hw := hw.2
              refine wk_icmp_ne hx hb q16 ⟨by decide, by decide⟩ (tgt := 170) dX12_turnsFor_162 (by decide) (fun hh => ?_) (fun hh => ?_)
              · have hw := hw.2 hh
                refine lv_iload_n hx hb dX12_turnsFor_170 rfl (lv_at hl 2 rfl) ?_
                refine wk_i2l hx hb q16 dX12_turnsFor_171 ?_
                refine lv_lconst (v := iL 0) hx hb dX12_turnsFor_172 rfl ?_
                refine lv_iload_n hx hb dX12_turnsFor_173 rfl (lv_at hl 1 rfl) ?_
                refine lv_iconst (v := iI 1) hx hb dX12_turnsFor_174 rfl ?_
                refine wk_isub hx hb dX12_turnsFor_175 ?_
                have q17 := hw.1
                have hw := hw.2
                refine wk_i2l hx hb q17 dX12_turnsFor_176 ?_
                refine wk_rip (wk_callS (rest := []) C0 cl_X12_67 (ok_X12_in hI hw) hP rfl rfl (Nat.le_of_ble_eq_true rfl) (wk_room (by decide) (by decide)) hl.1 dX12_turnsFor_177 ⟨Nat.le_refl _, Nat.le_refl _⟩) hS (fun r18 H locs hw hP hS => ?_)
                have q19 := hw.1
                have hw := hw.2
                refine wk_if_eq hx hb q19 (tgt := 192) dX12_turnsFor_180 (by decide) (fun hh => ?_) (fun hh => ?_)
                · have hw := hw.1 hh
                  refine lv_iconst (v := iI (-1)) hx hb dX12_turnsFor_192 rfl ?_
                  exact hret _ _ _ _ _ _ hw hP hS dX12_turnsFor_193
                · have hw := hw.2 hh
                  refine lv_iload_n hx hb dX12_turnsFor_183 rfl (lv_at hl 3 rfl) ?_
                  refine lv_iload_n hx hb dX12_turnsFor_184 rfl (lv_at hl 1 rfl) ?_
                  refine lv_iload_n hx hb dX12_turnsFor_185 rfl (lv_at hl 2 rfl) ?_
                  refine wk_rip (wk_callS (rest := []) C0 cl_X12_198 (ok_X12_word hI hw) hP rfl rfl (Nat.le_of_ble_eq_true rfl) (wk_room (by decide) (by decide)) hl.1 dX12_turnsFor_186 ⟨Nat.le_refl _, Nat.le_refl _⟩) hS (fun r20 H locs hw hP hS => ?_)
                  refine lv_goto (tgt := 193) hx hb dX12_turnsFor_189 (by decide) ?_
                  exact hret _ _ _ _ _ _ hw hP hS dX12_turnsFor_193
              · have hw := hw.1 hh
                refine lv_iload hx hb dX12_turnsFor_165 (lv_at hl 4 rfl) ?_
                refine lv_goto (tgt := 193) hx hb dX12_turnsFor_167 (by decide) ?_
                exact hret _ _ _ _ _ _ hw hP hS dX12_turnsFor_193
            · have hw := hw.1 hh
              refine lv_iconst (v := iI (-1)) hx hb dX12_turnsFor_156 rfl ?_
              refine lv_goto (tgt := 193) hx hb dX12_turnsFor_157 (by decide) ?_
              exact hret _ _ _ _ _ _ hw hP hS dX12_turnsFor_193
          · have hw := hw.2 hh
            refine lv_aload_n hx hb dX12_turnsFor_49 rfl (lv_at hl 0 rfl) ?_
            refine lv_iload hx hb dX12_turnsFor_50 (lv_at hl 6 rfl) ?_
            refine lv_iload_n hx hb dX12_turnsFor_52 rfl (lv_at hl 1 rfl) ?_
            refine lv_iload_n hx hb dX12_turnsFor_53 rfl (lv_at hl 1 rfl) ?_
            refine wk_ri (wk_callV (rest := []) C0 cl_X12_207 (ok_X12_sleeps hI hw) hP (by decide) sh_65 rfl rfl rfl (Nat.le_of_ble_eq_true rfl) (wk_room (by decide) (by decide)) hl.1 dX12_turnsFor_54 ⟨Nat.le_refl _, Nat.le_refl _⟩) hS (fun r21 s22 H locs hw hP hS => ?_)
            refine lv_istore (lv' := [(7, .int (iI r21)), (0, .ref (ad 65)), (1, .int (iI a1)), (2, .int (iI a2)), (3, .int (iI y3_7)), (4, .int (iI y4_8)), (5, .int (iI y5_9)), (6, .int (iI y6_10))]) hx hb dX12_turnsFor_57 hl (by decide) rfl (fun ls hl => ?_)
            refine lv_aload_n hx hb dX12_turnsFor_59 rfl (lv_at hl 1 rfl) ?_
            refine wk_rip (wk_callV (rest := []) C0 cl_X12_145 (ok_X12_coldest hI hw) hP (by decide) sh_65 rfl rfl rfl (Nat.le_of_ble_eq_true rfl) (wk_room (by decide) (by decide)) hl.1 dX12_turnsFor_60 ⟨Nat.le_refl _, Nat.le_refl _⟩) hS (fun r23 H locs hw hP hS => ?_)
            refine lv_istore (lv' := [(8, .int (iI r23)), (7, .int (iI r21)), (0, .ref (ad 65)), (1, .int (iI a1)), (2, .int (iI a2)), (3, .int (iI y3_7)), (4, .int (iI y4_8)), (5, .int (iI y5_9)), (6, .int (iI y6_10))]) hx hb dX12_turnsFor_63 hl (by decide) rfl (fun ls hl => ?_)
            refine lv_iconst (v := iI 0) hx hb dX12_turnsFor_65 rfl ?_
            refine lv_istore (lv' := [(9, .int (iI 0)), (8, .int (iI r23)), (7, .int (iI r21)), (0, .ref (ad 65)), (1, .int (iI a1)), (2, .int (iI a2)), (3, .int (iI y3_7)), (4, .int (iI y4_8)), (5, .int (iI y5_9)), (6, .int (iI y6_10))]) hx hb dX12_turnsFor_66 hl (by decide) rfl (fun ls hl => ?_)
            refine lv_iconst (v := iI 0) hx hb dX12_turnsFor_68 rfl ?_
            refine lv_istore (lv' := [(10, .int (iI 0)), (9, .int (iI 0)), (8, .int (iI r23)), (7, .int (iI r21)), (0, .ref (ad 65)), (1, .int (iI a1)), (2, .int (iI a2)), (3, .int (iI y3_7)), (4, .int (iI y4_8)), (5, .int (iI y5_9)), (6, .int (iI y6_10))]) hx hb dX12_turnsFor_69 hl (by decide) rfl (fun ls hl => ?_)
            obtain ⟨I71, hI71, hw⟩ := hw
            have kI71 : ∀ (k71 : Nat) (y9_24 : Int) (y10_25 : Int) (H : Heap) (locs : List Loc) (ls : Array Slot), wP D cA ad s22 H → va_S (wA ad) s.heap H locs → lv_has ls 11 [(0, .ref (ad 65)), (1, .int (iI a1)), (2, .int (iI a2)), (3, .int (iI y3_7)), (4, .int (iI y4_8)), (5, .int (iI y5_9)), (6, .int (iI y6_10)), (7, .int (iI r21)), (8, .int (iI r23)), (9, .int (iI y9_24)), (10, .int (iI y10_25))] → I71 k71 y9_24 y10_25 → W p l e (rmL 4) s m A below meth c H locs 0 0 QQ (F0 m 71 ls []) := by
              intro k71
              induction k71 using Nat.strongRecOn with
              | _ k71 ih71 =>
                intro y9_24 y10_25 H locs ls hP hS hl hw
                have hw := hI71 k71 y9_24 y10_25 hw
                refine lv_iload hx hb dX12_turnsFor_71 (lv_at hl 10 rfl) ?_
                refine lv_iload_n hx hb dX12_turnsFor_73 rfl (lv_at hl 1 rfl) ?_
                have q26 := hw.1
                have hw := hw.2
                refine wk_icmp_ge hx hb q26 q1 (tgt := 104) dX12_turnsFor_74 (by decide) (fun hh => ?_) (fun hh => ?_)
                · have hw := hw.1 hh
                  refine lv_aload_n hx hb dX12_turnsFor_104 rfl (lv_at hl 0 rfl) ?_
                  refine wk_rv (wk_callV (rest := []) C0 cl_X12_195 (ok_X12_backs hI hw) hP (by decide) sh_65 rfl rfl rfl (Nat.le_of_ble_eq_true rfl) (wk_room (by decide) (by decide)) hl.1 dX12_turnsFor_105 ⟨Nat.le_refl _, Nat.le_refl _⟩) hS (fun s27 H locs hw hP hS => ?_)
                  refine lv_iload hx hb dX12_turnsFor_108 (lv_at hl 7 rfl) ?_
                  have q28 := hw.1
                  have hw := hw.2
                  have hs := hw.1
                  have hw := hw.2
                  have kX145 : ∀ y3_33 : Int, y3_33 = (if r21 = 0 then y3_7 else if y4_8 < r23 then y6_10 else if r23 = y4_8 then if y5_9 ≤ y9_24 then y3_7 else y6_10 else y3_7) → ∀ y4_34 : Int, y4_34 = (if r21 = 0 then y4_8 else if y4_8 < r23 then r23 else if r23 = y4_8 then if y5_9 ≤ y9_24 then y4_8 else r23 else y4_8) → ∀ y5_35 : Int, y5_35 = (if r21 = 0 then y5_9 else if y4_8 < r23 then y9_24 else if r23 = y4_8 then if y5_9 ≤ y9_24 then y5_9 else y9_24 else y5_9) → ∀ (ls : Array Slot), lv_has ls 11 [(0, .ref (ad 65)), (1, .int (iI a1)), (2, .int (iI a2)), (3, .int (iI y3_33)), (4, .int (iI y4_34)), (5, .int (iI y5_35)), (6, .int (iI y6_10))] → W p l e (rmL 4) s m A below meth c H locs 0 0 QQ (F0 m 145 ls []) := by
                    intro y3_33 ey3_33 y4_34 ey4_34 y5_35 ey5_35 ls hl
                    have hw := hw y3_33 ey3_33 y4_34 ey4_34 y5_35 ey5_35
                    refine wk_iinc (lv' := fun x6_36 => [(6, .int (iI x6_36)), (0, .ref (ad 65)), (1, .int (iI a1)), (2, .int (iI a2)), (3, .int (iI y3_33)), (4, .int (iI y4_34)), (5, .int (iI y5_35))]) hx hb dX12_turnsFor_145 hl (k := 6) rfl (by decide) (fun _ => rfl) (fun x6_36 ls ex6_36 hl => ?_)
                    have hw := hw x6_36 ex6_36
                    refine lv_goto (tgt := 40) hx hb dX12_turnsFor_148 (by decide) ?_
                    obtain ⟨k37, hk37, hw⟩ := hw
                    exact ih40 k37 hk37 y3_33 y4_34 y5_35 x6_36 s27 _ _ _ hP hS (lv_sub hl [1, 2, 3, 4, 5, 6, 0] rfl) hw
                  refine wk_if_eq hx hb q28 (tgt := 145) dX12_turnsFor_110 (by decide) (fun hh38 => ?_) (fun hh38 => ?_)
                  · exact kX145 y3_7 (by rw [if_pos hh38]) y4_8 (by rw [if_pos hh38]) y5_9 (by rw [if_pos hh38]) ls (lv_sub hl [0, 1, 2, 3, 4, 5, 6] rfl)
                  · have hs := hs.2 hh38
                    refine lv_iload hx hb dX12_turnsFor_113 (lv_at hl 8 rfl) ?_
                    refine lv_iload hx hb dX12_turnsFor_115 (lv_at hl 4 rfl) ?_
                    have q29 := hs.1
                    have hs := hs.2
                    have q30 := hs.1
                    have hs := hs.2
                    refine wk_icmp_gt hx hb q29 q30 (tgt := 134) dX12_turnsFor_117 (by decide) (fun hh39 => ?_) (fun hh39 => ?_)
                    · refine lv_iload hx hb dX12_turnsFor_134 (lv_at hl 6 rfl) ?_
                      refine lv_istore_n (lv' := [(3, .int (iI y6_10)), (0, .ref (ad 65)), (1, .int (iI a1)), (2, .int (iI a2)), (4, .int (iI y4_8)), (5, .int (iI y5_9)), (6, .int (iI y6_10)), (7, .int (iI r21)), (8, .int (iI r23)), (9, .int (iI y9_24)), (10, .int (iI y10_25))]) hx hb dX12_turnsFor_136 rfl hl (by decide) rfl (fun ls hl => ?_)
                      refine lv_iload hx hb dX12_turnsFor_137 (lv_at hl 8 rfl) ?_
                      refine lv_istore (lv' := [(4, .int (iI r23)), (3, .int (iI y6_10)), (0, .ref (ad 65)), (1, .int (iI a1)), (2, .int (iI a2)), (5, .int (iI y5_9)), (6, .int (iI y6_10)), (7, .int (iI r21)), (8, .int (iI r23)), (9, .int (iI y9_24)), (10, .int (iI y10_25))]) hx hb dX12_turnsFor_139 hl (by decide) rfl (fun ls hl => ?_)
                      refine lv_iload hx hb dX12_turnsFor_141 (lv_at hl 9 rfl) ?_
                      refine lv_istore (lv' := [(5, .int (iI y9_24)), (4, .int (iI r23)), (3, .int (iI y6_10)), (0, .ref (ad 65)), (1, .int (iI a1)), (2, .int (iI a2)), (6, .int (iI y6_10)), (7, .int (iI r21)), (8, .int (iI r23)), (9, .int (iI y9_24)), (10, .int (iI y10_25))]) hx hb dX12_turnsFor_143 hl (by decide) rfl (fun ls hl => ?_)
                      exact kX145 y6_10 (by rw [if_neg hh38, if_pos hh39]) r23 (by rw [if_neg hh38, if_pos hh39]) y9_24 (by rw [if_neg hh38, if_pos hh39]) ls (lv_sub hl [3, 4, 5, 2, 1, 0, 6] rfl)
                    · have hs := hs.2 hh39
                      refine lv_iload hx hb dX12_turnsFor_120 (lv_at hl 8 rfl) ?_
                      refine lv_iload hx hb dX12_turnsFor_122 (lv_at hl 4 rfl) ?_
                      refine wk_icmp_ne hx hb q29 q30 (tgt := 145) dX12_turnsFor_124 (by decide) (fun hh40 => ?_) (fun hh40 => ?_)
                      · exact kX145 y3_7 (by rw [if_neg hh38, if_neg hh39, if_neg hh40]) y4_8 (by rw [if_neg hh38, if_neg hh39, if_neg hh40]) y5_9 (by rw [if_neg hh38, if_neg hh39, if_neg hh40]) ls (lv_sub hl [0, 1, 2, 3, 4, 5, 6] rfl)
                      · have hs := hs.1 hh40
                        refine lv_iload hx hb dX12_turnsFor_127 (lv_at hl 9 rfl) ?_
                        refine lv_iload hx hb dX12_turnsFor_129 (lv_at hl 5 rfl) ?_
                        have q31 := hs.1
                        have hs := hs.2
                        have q32 := hs
                        refine wk_icmp_ge hx hb q31 q32 (tgt := 145) dX12_turnsFor_131 (by decide) (fun hh41 => ?_) (fun hh41 => ?_)
                        · exact kX145 y3_7 (by rw [if_neg hh38, if_neg hh39, if_pos hh40, if_pos hh41]) y4_8 (by rw [if_neg hh38, if_neg hh39, if_pos hh40, if_pos hh41]) y5_9 (by rw [if_neg hh38, if_neg hh39, if_pos hh40, if_pos hh41]) ls (lv_sub hl [0, 1, 2, 3, 4, 5, 6] rfl)
                        · refine lv_iload hx hb dX12_turnsFor_134 (lv_at hl 6 rfl) ?_
                          refine lv_istore_n (lv' := [(3, .int (iI y6_10)), (0, .ref (ad 65)), (1, .int (iI a1)), (2, .int (iI a2)), (4, .int (iI y4_8)), (5, .int (iI y5_9)), (6, .int (iI y6_10)), (7, .int (iI r21)), (8, .int (iI r23)), (9, .int (iI y9_24)), (10, .int (iI y10_25))]) hx hb dX12_turnsFor_136 rfl hl (by decide) rfl (fun ls hl => ?_)
                          refine lv_iload hx hb dX12_turnsFor_137 (lv_at hl 8 rfl) ?_
                          refine lv_istore (lv' := [(4, .int (iI r23)), (3, .int (iI y6_10)), (0, .ref (ad 65)), (1, .int (iI a1)), (2, .int (iI a2)), (5, .int (iI y5_9)), (6, .int (iI y6_10)), (7, .int (iI r21)), (8, .int (iI r23)), (9, .int (iI y9_24)), (10, .int (iI y10_25))]) hx hb dX12_turnsFor_139 hl (by decide) rfl (fun ls hl => ?_)
                          refine lv_iload hx hb dX12_turnsFor_141 (lv_at hl 9 rfl) ?_
                          refine lv_istore (lv' := [(5, .int (iI y9_24)), (4, .int (iI r23)), (3, .int (iI y6_10)), (0, .ref (ad 65)), (1, .int (iI a1)), (2, .int (iI a2)), (6, .int (iI y6_10)), (7, .int (iI r21)), (8, .int (iI r23)), (9, .int (iI y9_24)), (10, .int (iI y10_25))]) hx hb dX12_turnsFor_143 hl (by decide) rfl (fun ls hl => ?_)
                          exact kX145 y6_10 (by rw [if_neg hh38, if_neg hh39, if_pos hh40, if_neg hh41]) r23 (by rw [if_neg hh38, if_neg hh39, if_pos hh40, if_neg hh41]) y9_24 (by rw [if_neg hh38, if_neg hh39, if_pos hh40, if_neg hh41]) ls (lv_sub hl [3, 4, 5, 2, 1, 0, 6] rfl)
                · have hw := hw.2 hh
                  refine lv_iload hx hb dX12_turnsFor_77 (lv_at hl 9 rfl) ?_
                  refine lv_iload hx hb dX12_turnsFor_79 (lv_at hl 6 rfl) ?_
                  refine lv_iload_n hx hb dX12_turnsFor_81 rfl (lv_at hl 1 rfl) ?_
                  refine lv_iload hx hb dX12_turnsFor_82 (lv_at hl 10 rfl) ?_
                  refine wk_rip (wk_callS (rest := [.int (iI y9_24)]) C0 cl_X12_198 (ok_X12_word hI hw) hP rfl rfl (Nat.le_of_ble_eq_true rfl) (wk_room (by decide) (by decide)) hl.1 dX12_turnsFor_84 ⟨Nat.le_refl _, Nat.le_refl _⟩) hS (fun r42 H locs hw hP hS => ?_)
                  have q43 := hw.1
                  have hw := hw.2
                  have kX95 : ∀ v44 : Int, v44 = (if r42 = 0 then 0 else 1) → ∀ (ls : Array Slot), lv_has ls 11 [(0, .ref (ad 65)), (1, .int (iI a1)), (2, .int (iI a2)), (3, .int (iI y3_7)), (4, .int (iI y4_8)), (5, .int (iI y5_9)), (6, .int (iI y6_10)), (7, .int (iI r21)), (8, .int (iI r23)), (10, .int (iI y10_25))] → W p l e (rmL 4) s m A below meth c H locs 0 0 QQ (F0 m 95 ls [.int (iI v44), .int (iI y9_24)]) := by
                    intro v44 ev44 ls hl
                    have hw := hw v44 ev44
                    refine wk_iadd hx hb dX12_turnsFor_95 ?_
                    refine wk_top (fun x9_45 ex9_45 => ?_)
                    have hw := hw x9_45 ex9_45
                    refine lv_istore (lv' := [(9, .int (iI x9_45)), (0, .ref (ad 65)), (1, .int (iI a1)), (2, .int (iI a2)), (3, .int (iI y3_7)), (4, .int (iI y4_8)), (5, .int (iI y5_9)), (6, .int (iI y6_10)), (7, .int (iI r21)), (8, .int (iI r23)), (10, .int (iI y10_25))]) hx hb dX12_turnsFor_96 hl (by decide) rfl (fun ls hl => ?_)
                    refine wk_iinc (lv' := fun x10_46 => [(10, .int (iI x10_46)), (9, .int (iI x9_45)), (0, .ref (ad 65)), (1, .int (iI a1)), (2, .int (iI a2)), (3, .int (iI y3_7)), (4, .int (iI y4_8)), (5, .int (iI y5_9)), (6, .int (iI y6_10)), (7, .int (iI r21)), (8, .int (iI r23))]) hx hb dX12_turnsFor_98 hl (k := 10) rfl (by decide) (fun _ => rfl) (fun x10_46 ls ex10_46 hl => ?_)
                    have hw := hw x10_46 ex10_46
                    refine lv_goto (tgt := 71) hx hb dX12_turnsFor_101 (by decide) ?_
                    obtain ⟨k47, hk47, hw⟩ := hw
                    exact ih71 k47 hk47 x9_45 x10_46 _ _ _ hP hS (lv_sub hl [2, 3, 4, 5, 6, 7, 8, 9, 10, 1, 0] rfl) hw
                  refine wk_if_ne hx hb q43 (tgt := 94) dX12_turnsFor_87 (by decide) (fun hh48 => ?_) (fun hh48 => ?_)
                  · refine lv_iconst (v := iI 1) hx hb dX12_turnsFor_94 rfl ?_
                    exact kX95 1 (by rw [if_neg hh48]) ls (lv_sub hl [0, 1, 2, 3, 4, 5, 6, 7, 8, 10] rfl)
                  · refine lv_iconst (v := iI 0) hx hb dX12_turnsFor_90 rfl ?_
                    refine lv_goto (tgt := 95) hx hb dX12_turnsFor_91 (by decide) ?_
                    exact kX95 0 (by rw [if_pos hh48]) ls (lv_sub hl [0, 1, 2, 3, 4, 5, 6, 7, 8, 10] rfl)
            obtain ⟨k49, hw⟩ := hw
            exact kI71 k49 0 0 _ _ _ hP hS (lv_sub hl [4, 5, 6, 7, 8, 9, 10, 3, 2, 1, 0] rfl) hw
      obtain ⟨k50, hw⟩ := hw
      exact kI40 k50 (-1) (-1) 0 0 s6 _ _ _ hP hS (lv_sub hl [4, 5, 6, 3, 2, 1, 0] rfl) hw
    · have hw := hw.1 hh
      refine lv_ldc (own := RX12) (v := iI (-1000000003)) hx hb hown (htb _ ki_X12_158) dX12_turnsFor_22 ?_
      exact hret _ _ _ _ _ _ hw hP hS dX12_turnsFor_24
  · have hw := hw.1 hh
    refine lv_ldc (own := RX12) (v := iI (-1000000002)) hx hb hown (htb _ ki_X12_71) dX12_turnsFor_12 ?_
    exact hret _ _ _ _ _ _ hw hP hS dX12_turnsFor_14

set_option maxRecDepth 100000 in
set_option maxHeartbeats 4000000 in
theorem ok_X12_rhyme {l : Launch} {D : va_G} {cA : Nat → ClassId} {ad : Nat → Nat} (hI : wI ad) {a1 : Int} {a2 : Int} {sg : Mem} {Q : Int → Mem → Prop} (hw : wp_X12_rhyme a1 a2 sg Q) : wMi l D cA ad yX12_rhyme cX12_rhyme 6 (some .int) 4 [.ref (ad 65), .int (iI a1), .int (iI a2)] sg Q := by
  refine wk_ofI (by decide) hI (Nat.le_of_ble_eq_true rfl) ?_
  intro p e s m below meth c A QQ ls C0 hret hl hP
  have hx := C0.1
  have hb := C0.2.1
  have hown := C0.2.2.2.1
  have htb := C0.2.2.2.2.1
  have hl : lv_has ls 6 [(0, .ref (ad 65)), (1, .int (iI a1)), (2, .int (iI a2))] := hl
  refine (fun (key : ∀ (H : Heap) (locs : List Loc), wP D cA ad sg H → va_S (wA ad) s.heap H locs → W p l e (rmL 4) s m A below meth c H locs 0 0 QQ (F0 m 0 ls [])) => key _ _ hP va_S.rf) ?_
  intro H locs hP hS
  unfold wp_X12_rhyme at hw
  refine lv_iload_n hx hb dX12_rhyme_0 rfl (lv_at hl 1 rfl) ?_
  have q1 := hw.1
  have hw := hw.2
  refine wk_i2l hx hb q1 dX12_rhyme_1 ?_
  refine lv_lconst (v := iL 1) hx hb dX12_rhyme_2 rfl ?_
  refine lv_ldc2 (own := RX12) (v := iL 30) hx hb hown (htb _ kl_X12_187) dX12_rhyme_3 ?_
  refine wk_rip (wk_callS (rest := []) C0 cl_X12_67 (ok_X12_in hI hw) hP rfl rfl (Nat.le_of_ble_eq_true rfl) (wk_room (by decide) (by decide)) hl.1 dX12_rhyme_6 ⟨Nat.le_refl _, Nat.le_refl _⟩) hS (fun r2 H locs hw hP hS => ?_)
  have q3 := hw.1
  have hw := hw.2
  refine wk_if_ne hx hb q3 (tgt := 15) dX12_rhyme_9 (by decide) (fun hh => ?_) (fun hh => ?_)
  · have hw := hw.2 hh
    refine lv_aload_n hx hb dX12_rhyme_15 rfl (lv_at hl 0 rfl) ?_
    refine wk_rip (wk_callV (rest := []) C0 cl_X12_122 (ok_X12_inBed hI hw) hP (by decide) sh_65 rfl rfl rfl (Nat.le_of_ble_eq_true rfl) (wk_room (by decide) (by decide)) hl.1 dX12_rhyme_16 ⟨Nat.le_refl _, Nat.le_refl _⟩) hS (fun r4 H locs hw hP hS => ?_)
    have q5 := hw.1
    have hw := hw.2
    refine wk_if_ne hx hb q5 (tgt := 25) dX12_rhyme_19 (by decide) (fun hh => ?_) (fun hh => ?_)
    · have hw := hw.2 hh
      refine lv_aload_n hx hb dX12_rhyme_25 rfl (lv_at hl 0 rfl) ?_
      refine wk_rv (wk_callV (rest := []) C0 cl_X12_189 (ok_X12_asides hI hw) hP (by decide) sh_65 rfl rfl rfl (Nat.le_of_ble_eq_true rfl) (wk_room (by decide) (by decide)) hl.1 dX12_rhyme_26 ⟨Nat.le_refl _, Nat.le_refl _⟩) hS (fun s6 H locs hw hP hS => ?_)
      refine lv_iconst (v := iI 1) hx hb dX12_rhyme_29 rfl ?_
      refine lv_istore_n (lv' := [(3, .int (iI 1)), (0, .ref (ad 65)), (1, .int (iI a1)), (2, .int (iI a2))]) hx hb dX12_rhyme_30 rfl hl (by decide) rfl (fun ls hl => ?_)
      obtain ⟨I31, hI31, hw⟩ := hw
      have kI31 : ∀ (k31 : Nat) (y3_7 : Int) (s8 : Mem) (H : Heap) (locs : List Loc) (ls : Array Slot), wP D cA ad s8 H → va_S (wA ad) s.heap H locs → lv_has ls 6 [(0, .ref (ad 65)), (1, .int (iI a1)), (2, .int (iI a2)), (3, .int (iI y3_7))] → I31 k31 y3_7 s8 → W p l e (rmL 4) s m A below meth c H locs 0 0 QQ (F0 m 31 ls []) := by
        intro k31
        induction k31 using Nat.strongRecOn with
        | _ k31 ih31 =>
          intro y3_7 s8 H locs ls hP hS hl hw
          have hw := hI31 k31 y3_7 s8 hw
          refine lv_iload_n hx hb dX12_rhyme_31 rfl (lv_at hl 3 rfl) ?_
          refine lv_iconst (v := iI 5) hx hb dX12_rhyme_32 rfl ?_
          have q9 := hw.1
          have hw := hw.2
          refine wk_icmp_ge hx hb q9 ⟨by decide, by decide⟩ (tgt := 113) dX12_rhyme_33 (by decide) (fun hh => ?_) (fun hh => ?_)
          · have hw := hw.1 hh
            refine lv_iconst (v := iI (-1)) hx hb dX12_rhyme_113 rfl ?_
            exact hret _ _ _ _ _ _ hw hP hS dX12_rhyme_114
          · have hw := hw.2 hh
            refine lv_iconst (v := iI 0) hx hb dX12_rhyme_36 rfl ?_
            refine lv_istore (lv' := [(4, .int (iI 0)), (0, .ref (ad 65)), (1, .int (iI a1)), (2, .int (iI a2)), (3, .int (iI y3_7))]) hx hb dX12_rhyme_37 hl (by decide) rfl (fun ls hl => ?_)
            obtain ⟨I39, hI39, hw⟩ := hw
            have kI39 : ∀ (k39 : Nat) (y4_10 : Int) (s11 : Mem) (H : Heap) (locs : List Loc) (ls : Array Slot), wP D cA ad s11 H → va_S (wA ad) s.heap H locs → lv_has ls 6 [(0, .ref (ad 65)), (1, .int (iI a1)), (2, .int (iI a2)), (3, .int (iI y3_7)), (4, .int (iI y4_10))] → I39 k39 y4_10 s11 → W p l e (rmL 4) s m A below meth c H locs 0 0 QQ (F0 m 39 ls []) := by
              intro k39
              induction k39 using Nat.strongRecOn with
              | _ k39 ih39 =>
                intro y4_10 s11 H locs ls hP hS hl hw
                have hw := hI39 k39 y4_10 s11 hw
                refine lv_iload hx hb dX12_rhyme_39 (lv_at hl 4 rfl) ?_
                refine lv_iload_n hx hb dX12_rhyme_41 rfl (lv_at hl 3 rfl) ?_
                refine wk_rip (wk_callS (rest := [.int (iI y4_10)]) C0 cl_X12_204 (ok_X12_power hI hw) hP rfl rfl (Nat.le_of_ble_eq_true rfl) (wk_room (by decide) (by decide)) hl.1 dX12_rhyme_42 ⟨Nat.le_refl _, Nat.le_refl _⟩) hS (fun r12 H locs hw hP hS => ?_)
                have q13 := hw.1
                have hw := hw.2
                have q14 := hw.1
                have hw := hw.2
                refine wk_icmp_ge hx hb q13 q14 (tgt := 107) dX12_rhyme_45 (by decide) (fun hh => ?_) (fun hh => ?_)
                · have hw := hw.1 hh
                  refine wk_iinc (lv' := fun x3_15 => [(3, .int (iI x3_15)), (0, .ref (ad 65)), (1, .int (iI a1)), (2, .int (iI a2)), (4, .int (iI y4_10))]) hx hb dX12_rhyme_107 hl (k := 3) rfl (by decide) (fun _ => rfl) (fun x3_15 ls ex3_15 hl => ?_)
                  have hw := hw x3_15 ex3_15
                  refine lv_goto (tgt := 31) hx hb dX12_rhyme_110 (by decide) ?_
                  obtain ⟨k16, hk16, hw⟩ := hw
                  exact ih31 k16 hk16 x3_15 s11 _ _ _ hP hS (lv_sub hl [1, 2, 3, 0] rfl) hw
                · have hw := hw.2 hh
                  refine lv_aload_n hx hb dX12_rhyme_48 rfl (lv_at hl 0 rfl) ?_
                  refine lv_iload hx hb dX12_rhyme_49 (lv_at hl 4 rfl) ?_
                  refine lv_iload_n hx hb dX12_rhyme_51 rfl (lv_at hl 3 rfl) ?_
                  refine lv_iload_n hx hb dX12_rhyme_52 rfl (lv_at hl 1 rfl) ?_
                  refine wk_ri (wk_callV (rest := []) C0 cl_X12_207 (ok_X12_sleeps hI hw) hP (by decide) sh_65 rfl rfl rfl (Nat.le_of_ble_eq_true rfl) (wk_room (by decide) (by decide)) hl.1 dX12_rhyme_53 ⟨Nat.le_refl _, Nat.le_refl _⟩) hS (fun r17 s18 H locs hw hP hS => ?_)
                  refine lv_istore (lv' := [(5, .int (iI r17)), (0, .ref (ad 65)), (1, .int (iI a1)), (2, .int (iI a2)), (3, .int (iI y3_7)), (4, .int (iI y4_10))]) hx hb dX12_rhyme_56 hl (by decide) rfl (fun ls hl => ?_)
                  refine lv_aload_n hx hb dX12_rhyme_58 rfl (lv_at hl 1 rfl) ?_
                  refine wk_rv (wk_callV (rest := []) C0 cl_X12_195 (ok_X12_backs hI hw) hP (by decide) sh_65 rfl rfl rfl (Nat.le_of_ble_eq_true rfl) (wk_room (by decide) (by decide)) hl.1 dX12_rhyme_59 ⟨Nat.le_refl _, Nat.le_refl _⟩) hS (fun s19 H locs hw hP hS => ?_)
                  refine lv_iload hx hb dX12_rhyme_62 (lv_at hl 0 rfl) ?_
                  have q20 := hw.1
                  have hw := hw.2
                  refine wk_if_eq hx hb q20 (tgt := 101) dX12_rhyme_64 (by decide) (fun hh => ?_) (fun hh => ?_)
                  · have hw := hw.1 hh
                    refine wk_iinc (lv' := fun x4_21 => [(4, .int (iI x4_21)), (5, .int (iI r17)), (0, .ref (ad 65)), (1, .int (iI a1)), (2, .int (iI a2)), (3, .int (iI y3_7))]) hx hb dX12_rhyme_101 hl (k := 5) rfl (by decide) (fun _ => rfl) (fun x4_21 ls ex4_21 hl => ?_)
                    have hw := hw x4_21 ex4_21
                    refine lv_goto (tgt := 39) hx hb dX12_rhyme_104 (by decide) ?_
                    obtain ⟨k22, hk22, hw⟩ := hw
                    exact ih39 k22 hk22 x4_21 s19 _ _ _ hP hS (lv_sub hl [2, 3, 4, 5, 0] rfl) hw
                  · have hw := hw.2 hh
                    refine lv_iload_n hx hb dX12_rhyme_67 rfl (lv_at hl 3 rfl) ?_
                    refine lv_iconst (v := iI (-1)) hx hb dX12_rhyme_68 rfl ?_
                    have q23 := hw.1
                    have hw := hw.2
                    refine wk_icmp_ne hx hb q23 ⟨by decide, by decide⟩ (tgt := 76) dX12_rhyme_69 (by decide) (fun hh => ?_) (fun hh => ?_)
                    · have hw := hw.2 hh
                      refine lv_iload_n hx hb dX12_rhyme_76 rfl (lv_at hl 3 rfl) ?_
                      refine wk_i2l hx hb q23 dX12_rhyme_77 ?_
                      refine lv_lconst (v := iL 0) hx hb dX12_rhyme_78 rfl ?_
                      refine lv_iload_n hx hb dX12_rhyme_79 rfl (lv_at hl 4 rfl) ?_
                      refine lv_iconst (v := iI 1) hx hb dX12_rhyme_80 rfl ?_
                      refine wk_isub hx hb dX12_rhyme_81 ?_
                      have q24 := hw.1
                      have hw := hw.2
                      refine wk_i2l hx hb q24 dX12_rhyme_82 ?_
                      refine wk_rip (wk_callS (rest := []) C0 cl_X12_67 (ok_X12_in hI hw) hP rfl rfl (Nat.le_of_ble_eq_true rfl) (wk_room (by decide) (by decide)) hl.1 dX12_rhyme_83 ⟨Nat.le_refl _, Nat.le_refl _⟩) hS (fun r25 H locs hw hP hS => ?_)
                      have q26 := hw.1
                      have hw := hw.2
                      refine wk_if_eq hx hb q26 (tgt := 99) dX12_rhyme_86 (by decide) (fun hh => ?_) (fun hh => ?_)
                      · have hw := hw.1 hh
                        refine lv_iconst (v := iI (-1)) hx hb dX12_rhyme_99 rfl ?_
                        exact hret _ _ _ _ _ _ hw hP hS dX12_rhyme_100
                      · have hw := hw.2 hh
                        refine lv_iload hx hb dX12_rhyme_89 (lv_at hl 5 rfl) ?_
                        refine lv_iload_n hx hb dX12_rhyme_91 rfl (lv_at hl 4 rfl) ?_
                        refine lv_iload_n hx hb dX12_rhyme_92 rfl (lv_at hl 3 rfl) ?_
                        refine wk_rip (wk_callS (rest := []) C0 cl_X12_198 (ok_X12_word hI hw) hP rfl rfl (Nat.le_of_ble_eq_true rfl) (wk_room (by decide) (by decide)) hl.1 dX12_rhyme_93 ⟨Nat.le_refl _, Nat.le_refl _⟩) hS (fun r27 H locs hw hP hS => ?_)
                        refine lv_goto (tgt := 100) hx hb dX12_rhyme_96 (by decide) ?_
                        exact hret _ _ _ _ _ _ hw hP hS dX12_rhyme_100
                    · have hw := hw.1 hh
                      refine lv_iload_n hx hb dX12_rhyme_72 rfl (lv_at hl 4 rfl) ?_
                      refine lv_goto (tgt := 100) hx hb dX12_rhyme_73 (by decide) ?_
                      exact hret _ _ _ _ _ _ hw hP hS dX12_rhyme_100
            obtain ⟨k28, hw⟩ := hw
            exact kI39 k28 0 s8 _ _ _ hP hS (lv_sub hl [1, 2, 3, 4, 0] rfl) hw
      obtain ⟨k29, hw⟩ := hw
      exact kI31 k29 1 s6 _ _ _ hP hS (lv_sub hl [1, 2, 3, 0] rfl) hw
    · have hw := hw.1 hh
      refine lv_ldc (own := RX12) (v := iI (-1000000003)) hx hb hown (htb _ ki_X12_158) dX12_rhyme_22 ?_
      exact hret _ _ _ _ _ _ hw hP hS dX12_rhyme_24
  · have hw := hw.1 hh
    refine lv_ldc (own := RX12) (v := iI (-1000000002)) hx hb hown (htb _ ki_X12_71) dX12_rhyme_12 ?_
    exact hret _ _ _ _ _ _ hw hP hS dX12_rhyme_14

set_option maxRecDepth 100000 in
set_option maxHeartbeats 4000000 in
theorem ok_X12_laid {l : Launch} {D : va_G} {cA : Nat → ClassId} {ad : Nat → Nat} (hI : wI ad) {a1 : Int} {a2 : Int} {sg : Mem} {Q : Int → Mem → Prop} (hw : wp_X12_laid a1 a2 sg Q) : wMi l D cA ad yX12_laid cX12_laid 12 (some .int) 3 [.ref (ad 65), .int (iI a1), .int (iI a2)] sg Q := by
  refine wk_ofI (by decide) hI (Nat.le_of_ble_eq_true rfl) ?_
  intro p e s m below meth c A QQ ls C0 hret hl hP
  have hx := C0.1
  have hb := C0.2.1
  have hown := C0.2.2.2.1
  have htb := C0.2.2.2.2.1
  have hl : lv_has ls 12 [(0, .ref (ad 65)), (1, .int (iI a1)), (2, .int (iI a2))] := hl
  refine (fun (key : ∀ (H : Heap) (locs : List Loc), wP D cA ad sg H → va_S (wA ad) s.heap H locs → W p l e (rmL 3) s m A below meth c H locs 0 0 QQ (F0 m 0 ls [])) => key _ _ hP va_S.rf) ?_
  intro H locs hP hS
  unfold wp_X12_laid at hw
  refine lv_iload_n hx hb dX12_laid_0 rfl (lv_at hl 1 rfl) ?_
  have q1 := hw.1
  have hw := hw.2
  refine wk_i2l hx hb q1 dX12_laid_1 ?_
  refine lv_lconst (v := iL 1) hx hb dX12_laid_2 rfl ?_
  refine lv_ldc2 (own := RX12) (v := iL 9) hx hb hown (htb _ kl_X12_211) dX12_laid_3 ?_
  refine wk_rip (wk_callS (rest := []) C0 cl_X12_67 (ok_X12_in hI hw) hP rfl rfl (Nat.le_of_ble_eq_true rfl) (wk_room (by decide) (by decide)) hl.1 dX12_laid_6 ⟨Nat.le_refl _, Nat.le_refl _⟩) hS (fun r2 H locs hw hP hS => ?_)
  have q3 := hw.1
  have hw := hw.2
  refine wk_if_ne hx hb q3 (tgt := 15) dX12_laid_9 (by decide) (fun hh => ?_) (fun hh => ?_)
  · have hw := hw.2 hh
    refine lv_iconst (v := iI 0) hx hb dX12_laid_15 rfl ?_
    refine lv_istore_n (lv' := [(3, .int (iI 0)), (0, .ref (ad 65)), (1, .int (iI a1)), (2, .int (iI a2))]) hx hb dX12_laid_16 rfl hl (by decide) rfl (fun ls hl => ?_)
    refine lv_iconst (v := iI 0) hx hb dX12_laid_17 rfl ?_
    refine lv_istore (lv' := [(4, .int (iI 0)), (3, .int (iI 0)), (0, .ref (ad 65)), (1, .int (iI a1)), (2, .int (iI a2))]) hx hb dX12_laid_18 hl (by decide) rfl (fun ls hl => ?_)
    obtain ⟨I20, hI20, hw⟩ := hw
    have kI20 : ∀ (k20 : Nat) (y3_4 : Int) (y4_5 : Int) (s6 : Mem) (H : Heap) (locs : List Loc) (ls : Array Slot), wP D cA ad s6 H → va_S (wA ad) s.heap H locs → lv_has ls 12 [(0, .ref (ad 65)), (1, .int (iI a1)), (2, .int (iI a2)), (3, .int (iI y3_4)), (4, .int (iI y4_5))] → I20 k20 y3_4 y4_5 s6 → W p l e (rmL 3) s m A below meth c H locs 0 0 QQ (F0 m 20 ls []) := by
      intro k20
      induction k20 using Nat.strongRecOn with
      | _ k20 ih20 =>
        intro y3_4 y4_5 s6 H locs ls hP hS hl hw
        have hw := hI20 k20 y3_4 y4_5 s6 hw
        refine lv_iload hx hb dX12_laid_20 (lv_at hl 4 rfl) ?_
        refine lv_aload_n hx hb dX12_laid_22 rfl (lv_at hl 0 rfl) ?_
        refine wk_getR 67 C0 fl_X12_13 hP (by decide) sh_65 rfl dX12_laid_23 ?_
        refine lv_iconst (v := iI 0) hx hb dX12_laid_26 rfl ?_
        refine wk_iald C0 hP (by decide) sh_67 (by decide) (by decide) (by decide) dX12_laid_27 ?_
        rw [show (0 : Int).toNat = 0 from rfl]
        have q7 := hw.1
        have hw := hw.2
        have q8 := hw.1
        have hw := hw.2
        refine wk_icmp_ge hx hb q7 q8 (tgt := 61) dX12_laid_28 (by decide) (fun hh => ?_) (fun hh => ?_)
        · have hw := hw.1 hh
          refine lv_iload_n hx hb dX12_laid_61 rfl (lv_at hl 3 rfl) ?_
          have q9 := hw.1
          have hw := hw.2
          refine wk_if_ne hx hb q9 (tgt := 67) dX12_laid_62 (by decide) (fun hh => ?_) (fun hh => ?_)
          · have hw := hw.2 hh
            refine lv_aload_n hx hb dX12_laid_67 rfl (lv_at hl 0 rfl) ?_
            refine wk_rv (wk_callV (rest := []) C0 cl_X12_189 (ok_X12_asides hI hw) hP (by decide) sh_65 rfl rfl rfl (Nat.le_of_ble_eq_true rfl) (wk_room (by decide) (by decide)) hl.1 dX12_laid_68 ⟨Nat.le_refl _, Nat.le_refl _⟩) hS (fun s10 H locs hw hP hS => ?_)
            refine lv_aload_n hx hb dX12_laid_71 rfl (lv_at hl 0 rfl) ?_
            refine wk_rip (wk_callV (rest := []) C0 cl_X12_122 (ok_X12_inBed hI hw) hP (by decide) sh_65 rfl rfl rfl (Nat.le_of_ble_eq_true rfl) (wk_room (by decide) (by decide)) hl.1 dX12_laid_72 ⟨Nat.le_refl _, Nat.le_refl _⟩) hS (fun r11 H locs hw hP hS => ?_)
            refine lv_istore (lv' := [(4, .int (iI r11)), (0, .ref (ad 65)), (1, .int (iI a1)), (2, .int (iI a2)), (3, .int (iI y3_4))]) hx hb dX12_laid_75 hl (by decide) rfl (fun ls hl => ?_)
            refine lv_iconst (v := iI 1) hx hb dX12_laid_77 rfl ?_
            refine lv_istore (lv' := [(5, .int (iI 1)), (4, .int (iI r11)), (0, .ref (ad 65)), (1, .int (iI a1)), (2, .int (iI a2)), (3, .int (iI y3_4))]) hx hb dX12_laid_78 hl (by decide) rfl (fun ls hl => ?_)
            refine lv_iconst (v := iI 0) hx hb dX12_laid_80 rfl ?_
            refine lv_istore (lv' := [(6, .int (iI 0)), (5, .int (iI 1)), (4, .int (iI r11)), (0, .ref (ad 65)), (1, .int (iI a1)), (2, .int (iI a2)), (3, .int (iI y3_4))]) hx hb dX12_laid_81 hl (by decide) rfl (fun ls hl => ?_)
            obtain ⟨I83, hI83, hw⟩ := hw
            have kI83 : ∀ (k83 : Nat) (y5_12 : Int) (y6_13 : Int) (H : Heap) (locs : List Loc) (ls : Array Slot), wP D cA ad s10 H → va_S (wA ad) s.heap H locs → lv_has ls 12 [(0, .ref (ad 65)), (1, .int (iI a1)), (2, .int (iI a2)), (3, .int (iI y3_4)), (4, .int (iI r11)), (5, .int (iI y5_12)), (6, .int (iI y6_13))] → I83 k83 y5_12 y6_13 → W p l e (rmL 3) s m A below meth c H locs 0 0 QQ (F0 m 83 ls []) := by
              intro k83
              induction k83 using Nat.strongRecOn with
              | _ k83 ih83 =>
                intro y5_12 y6_13 H locs ls hP hS hl hw
                have hw := hI83 k83 y5_12 y6_13 hw
                refine lv_iload hx hb dX12_laid_83 (lv_at hl 6 rfl) ?_
                refine lv_iload_n hx hb dX12_laid_85 rfl (lv_at hl 3 rfl) ?_
                have q14 := hw.1
                have hw := hw.2
                refine wk_icmp_ge hx hb q14 q9 (tgt := 102) dX12_laid_86 (by decide) (fun hh => ?_) (fun hh => ?_)
                · have hw := hw.1 hh
                  refine lv_iconst (v := iI (-1)) hx hb dX12_laid_102 rfl ?_
                  refine lv_istore (lv' := [(6, .int (iI (-1))), (0, .ref (ad 65)), (1, .int (iI a1)), (2, .int (iI a2)), (3, .int (iI y3_4)), (4, .int (iI r11)), (5, .int (iI y5_12))]) hx hb dX12_laid_103 hl (by decide) rfl (fun ls hl => ?_)
                  refine lv_iconst (v := iI 0) hx hb dX12_laid_105 rfl ?_
                  refine lv_istore (lv' := [(7, .int (iI 0)), (6, .int (iI (-1))), (0, .ref (ad 65)), (1, .int (iI a1)), (2, .int (iI a2)), (3, .int (iI y3_4)), (4, .int (iI r11)), (5, .int (iI y5_12))]) hx hb dX12_laid_106 hl (by decide) rfl (fun ls hl => ?_)
                  obtain ⟨I108, hI108, hw⟩ := hw
                  have kI108 : ∀ (k108 : Nat) (y6_15 : Int) (y7_16 : Int) (s17 : Mem) (H : Heap) (locs : List Loc) (ls : Array Slot), wP D cA ad s17 H → va_S (wA ad) s.heap H locs → lv_has ls 12 [(0, .ref (ad 65)), (1, .int (iI a1)), (2, .int (iI a2)), (3, .int (iI y3_4)), (4, .int (iI r11)), (5, .int (iI y5_12)), (6, .int (iI y6_15)), (7, .int (iI y7_16))] → I108 k108 y6_15 y7_16 s17 → W p l e (rmL 3) s m A below meth c H locs 0 0 QQ (F0 m 108 ls []) := by
                    intro k108
                    induction k108 using Nat.strongRecOn with
                    | _ k108 ih108 =>
                      intro y6_15 y7_16 s17 H locs ls hP hS hl hw
                      have hw := hI108 k108 y6_15 y7_16 s17 hw
                      refine lv_iload hx hb dX12_laid_108 (lv_at hl 7 rfl) ?_
                      refine lv_iload hx hb dX12_laid_110 (lv_at hl 5 rfl) ?_
                      have q18 := hw.1
                      have hw := hw.2
                      have q19 := hw.1
                      have hw := hw.2
                      refine wk_icmp_ge hx hb q18 q19 (tgt := 302) dX12_laid_112 (by decide) (fun hh => ?_) (fun hh => ?_)
                      · have hw := hw.1 hh
                        refine lv_iload_n hx hb dX12_laid_302 rfl (lv_at hl 2 rfl) ?_
                        refine lv_iconst (v := iI (-1)) hx hb dX12_laid_303 rfl ?_
                        have q20 := hw.1
                        have hw := hw.2
                        refine wk_icmp_ne hx hb q20 ⟨by decide, by decide⟩ (tgt := 312) dX12_laid_304 (by decide) (fun hh => ?_) (fun hh => ?_)
                        · have hw := hw.2 hh
                          refine lv_iload_n hx hb dX12_laid_312 rfl (lv_at hl 2 rfl) ?_
                          refine wk_i2l hx hb q20 dX12_laid_313 ?_
                          refine lv_lconst (v := iL 0) hx hb dX12_laid_314 rfl ?_
                          refine lv_iload_n hx hb dX12_laid_315 rfl (lv_at hl 3 rfl) ?_
                          refine lv_iconst (v := iI 1) hx hb dX12_laid_316 rfl ?_
                          refine wk_isub hx hb dX12_laid_317 ?_
                          have q21 := hw.1
                          have hw := hw.2
                          refine wk_i2l hx hb q21 dX12_laid_318 ?_
                          refine wk_rip (wk_callS (rest := []) C0 cl_X12_67 (ok_X12_in hI hw) hP rfl rfl (Nat.le_of_ble_eq_true rfl) (wk_room (by decide) (by decide)) hl.1 dX12_laid_319 ⟨Nat.le_refl _, Nat.le_refl _⟩) hS (fun r22 H locs hw hP hS => ?_)
                          have q23 := hw.1
                          have hw := hw.2
                          refine wk_if_eq hx hb q23 (tgt := 334) dX12_laid_322 (by decide) (fun hh => ?_) (fun hh => ?_)
                          · have hw := hw.1 hh
                            refine lv_iconst (v := iI (-1)) hx hb dX12_laid_334 rfl ?_
                            exact hret _ _ _ _ _ _ hw hP hS dX12_laid_335
                          · have hw := hw.2 hh
                            refine lv_aload_n hx hb dX12_laid_325 rfl (lv_at hl 0 rfl) ?_
                            refine wk_getR 75 C0 fl_X12_37 hP (by decide) sh_65 rfl dX12_laid_326 ?_
                            refine lv_iload_n hx hb dX12_laid_329 rfl (lv_at hl 2 rfl) ?_
                            have q24 := hw.1
                            have hw := hw.2
                            refine wk_iald C0 hP (by decide) sh_75 q24.1 q24.2 (by decide) dX12_laid_330 ?_
                            refine lv_goto (tgt := 335) hx hb dX12_laid_331 (by decide) ?_
                            exact hret _ _ _ _ _ _ hw hP hS dX12_laid_335
                        · have hw := hw.1 hh
                          refine lv_iload hx hb dX12_laid_307 (lv_at hl 6 rfl) ?_
                          refine lv_goto (tgt := 335) hx hb dX12_laid_309 (by decide) ?_
                          exact hret _ _ _ _ _ _ hw hP hS dX12_laid_335
                      · have hw := hw.2 hh
                        refine lv_iconst (v := iI 0) hx hb dX12_laid_115 rfl ?_
                        refine lv_istore (lv' := [(8, .int (iI 0)), (0, .ref (ad 65)), (1, .int (iI a1)), (2, .int (iI a2)), (3, .int (iI y3_4)), (4, .int (iI r11)), (5, .int (iI y5_12)), (6, .int (iI y6_15)), (7, .int (iI y7_16))]) hx hb dX12_laid_116 hl (by decide) rfl (fun ls hl => ?_)
                        refine lv_iload hx hb dX12_laid_118 (lv_at hl 8 rfl) ?_
                        refine lv_istore (lv' := [(9, .int (iI y7_16)), (8, .int (iI 0)), (0, .ref (ad 65)), (1, .int (iI a1)), (2, .int (iI a2)), (3, .int (iI y3_4)), (4, .int (iI r11)), (5, .int (iI y5_12)), (6, .int (iI y6_15)), (7, .int (iI y7_16))]) hx hb dX12_laid_120 hl (by decide) rfl (fun ls hl => ?_)
                        refine lv_iload_n hx hb dX12_laid_122 rfl (lv_at hl 5 rfl) ?_
                        refine lv_iconst (v := iI 1) hx hb dX12_laid_123 rfl ?_
                        refine wk_isub hx hb dX12_laid_124 ?_
                        refine wk_top (fun x10_25 ex10_25 => ?_)
                        have hw := hw x10_25 ex10_25
                        refine lv_istore (lv' := [(10, .int (iI x10_25)), (9, .int (iI y7_16)), (8, .int (iI 0)), (0, .ref (ad 65)), (1, .int (iI a1)), (2, .int (iI a2)), (3, .int (iI y3_4)), (4, .int (iI r11)), (5, .int (iI y5_12)), (6, .int (iI y6_15)), (7, .int (iI y7_16))]) hx hb dX12_laid_125 hl (by decide) rfl (fun ls hl => ?_)
                        obtain ⟨I127, hI127, hw⟩ := hw
                        have kI127 : ∀ (k127 : Nat) (y8_26 : Int) (y9_27 : Int) (y10_28 : Int) (s29 : Mem) (H : Heap) (locs : List Loc) (ls : Array Slot), wP D cA ad s29 H → va_S (wA ad) s.heap H locs → lv_has ls 12 [(0, .ref (ad 65)), (1, .int (iI a1)), (2, .int (iI a2)), (3, .int (iI y3_4)), (4, .int (iI r11)), (5, .int (iI y5_12)), (6, .int (iI y6_15)), (7, .int (iI y7_16)), (8, .int (iI y8_26)), (9, .int (iI y9_27)), (10, .int (iI y10_28))] → I127 k127 y8_26 y9_27 y10_28 s29 → W p l e (rmL 3) s m A below meth c H locs 0 0 QQ (F0 m 127 ls []) := by
                          intro k127
                          induction k127 using Nat.strongRecOn with
                          | _ k127 ih127 =>
                            intro y8_26 y9_27 y10_28 s29 H locs ls hP hS hl hw
                            have hw := hI127 k127 y8_26 y9_27 y10_28 s29 hw
                            refine lv_iload hx hb dX12_laid_127 (lv_at hl 10 rfl) ?_
                            have q30 := hw.1
                            have hw := hw.2
                            refine wk_if_lt hx hb q30 (tgt := 171) dX12_laid_129 (by decide) (fun hh => ?_) (fun hh => ?_)
                            · have hw := hw.1 hh
                              refine lv_iload hx hb dX12_laid_171 (lv_at hl 8 rfl) ?_
                              refine lv_iload hx hb dX12_laid_173 (lv_at hl 4 rfl) ?_
                              have q31 := hw.1
                              have hw := hw.2
                              have q32 := hw.1
                              have hw := hw.2
                              obtain ⟨X296, hX296, hw⟩ := hw
                              have kX296 : ∀ (y6_33 : Int) (s34 : Mem) (H : Heap) (locs : List Loc) (ls : Array Slot), wP D cA ad s34 H → va_S (wA ad) s.heap H locs → lv_has ls 12 [(0, .ref (ad 65)), (1, .int (iI a1)), (2, .int (iI a2)), (3, .int (iI y3_4)), (4, .int (iI r11)), (5, .int (iI y5_12)), (6, .int (iI y6_33)), (7, .int (iI y7_16))] → X296 y6_33 s34 → W p l e (rmL 3) s m A below meth c H locs 0 0 QQ (F0 m 296 ls []) := by
                                intro y6_33 s34 H locs ls hP hS hl hw
                                have hw := hX296 y6_33 s34 hw
                                refine wk_iinc (lv' := fun x7_35 => [(7, .int (iI x7_35)), (0, .ref (ad 65)), (1, .int (iI a1)), (2, .int (iI a2)), (3, .int (iI y3_4)), (4, .int (iI r11)), (5, .int (iI y5_12)), (6, .int (iI y6_33))]) hx hb dX12_laid_296 hl (k := 7) rfl (by decide) (fun _ => rfl) (fun x7_35 ls ex7_35 hl => ?_)
                                have hw := hw x7_35 ex7_35
                                refine lv_goto (tgt := 108) hx hb dX12_laid_299 (by decide) ?_
                                obtain ⟨k36, hk36, hw⟩ := hw
                                exact ih108 k36 hk36 y6_33 x7_35 s34 _ _ _ hP hS (lv_sub hl [1, 2, 3, 4, 5, 6, 7, 0] rfl) hw
                              refine wk_icmp_ne hx hb q31 q32 (tgt := 296) dX12_laid_175 (by decide) (fun hh => ?_) (fun hh => ?_)
                              · have hw := hw.2 hh
                                exact kX296 y6_15 s29 _ _ _ hP hS (lv_sub hl [0, 1, 2, 3, 4, 5, 6, 7] rfl) hw
                              · have hw := hw.1 hh
                                refine lv_iconst (v := iI 0) hx hb dX12_laid_178 rfl ?_
                                refine lv_istore (lv' := [(10, .int (iI 0)), (0, .ref (ad 65)), (1, .int (iI a1)), (2, .int (iI a2)), (3, .int (iI y3_4)), (4, .int (iI r11)), (5, .int (iI y5_12)), (6, .int (iI y6_15)), (7, .int (iI y7_16)), (8, .int (iI y8_26)), (9, .int (iI y9_27))]) hx hb dX12_laid_179 hl (by decide) rfl (fun ls hl => ?_)
                                obtain ⟨I181, hI181, hw⟩ := hw
                                have kI181 : ∀ (k181 : Nat) (y10_37 : Int) (s38 : Mem) (H : Heap) (locs : List Loc) (ls : Array Slot), wP D cA ad s38 H → va_S (wA ad) s.heap H locs → lv_has ls 12 [(0, .ref (ad 65)), (1, .int (iI a1)), (2, .int (iI a2)), (3, .int (iI y3_4)), (4, .int (iI r11)), (5, .int (iI y5_12)), (6, .int (iI y6_15)), (7, .int (iI y7_16)), (10, .int (iI y10_37))] → I181 k181 y10_37 s38 → W p l e (rmL 3) s m A below meth c H locs 0 0 QQ (F0 m 181 ls []) := by
                                  intro k181
                                  induction k181 using Nat.strongRecOn with
                                  | _ k181 ih181 =>
                                    intro y10_37 s38 H locs ls hP hS hl hw
                                    have hw := hI181 k181 y10_37 s38 hw
                                    refine lv_iload hx hb dX12_laid_181 (lv_at hl 8 rfl) ?_
                                    refine lv_iload_n hx hb dX12_laid_183 rfl (lv_at hl 3 rfl) ?_
                                    have q39 := hw.1
                                    have hw := hw.2
                                    refine wk_icmp_ge hx hb q39 q9 (tgt := 214) dX12_laid_184 (by decide) (fun hh => ?_) (fun hh => ?_)
                                    · have hw := hw.1 hh
                                      refine lv_iconst (v := iI 0) hx hb dX12_laid_214 rfl ?_
                                      refine lv_istore (lv' := [(10, .int (iI 0)), (0, .ref (ad 65)), (1, .int (iI a1)), (2, .int (iI a2)), (3, .int (iI y3_4)), (4, .int (iI r11)), (5, .int (iI y5_12)), (6, .int (iI y6_15)), (7, .int (iI y7_16))]) hx hb dX12_laid_215 hl (by decide) rfl (fun ls hl => ?_)
                                      obtain ⟨I217, hI217, hw⟩ := hw
                                      have kI217 : ∀ (k217 : Nat) (y10_40 : Int) (s41 : Mem) (H : Heap) (locs : List Loc) (ls : Array Slot), wP D cA ad s41 H → va_S (wA ad) s.heap H locs → lv_has ls 12 [(0, .ref (ad 65)), (1, .int (iI a1)), (2, .int (iI a2)), (3, .int (iI y3_4)), (4, .int (iI r11)), (5, .int (iI y5_12)), (6, .int (iI y6_15)), (7, .int (iI y7_16)), (10, .int (iI y10_40))] → I217 k217 y10_40 s41 → W p l e (rmL 3) s m A below meth c H locs 0 0 QQ (F0 m 217 ls []) := by
                                        intro k217
                                        induction k217 using Nat.strongRecOn with
                                        | _ k217 ih217 =>
                                          intro y10_40 s41 H locs ls hP hS hl hw
                                          have hw := hI217 k217 y10_40 s41 hw
                                          refine lv_iload hx hb dX12_laid_217 (lv_at hl 8 rfl) ?_
                                          refine lv_iload_n hx hb dX12_laid_219 rfl (lv_at hl 1 rfl) ?_
                                          have q42 := hw.1
                                          have hw := hw.2
                                          refine wk_icmp_ge hx hb q42 q1 (tgt := 234) dX12_laid_220 (by decide) (fun hh => ?_) (fun hh => ?_)
                                          · have hw := hw.1 hh
                                            refine lv_aload_n hx hb dX12_laid_234 rfl (lv_at hl 0 rfl) ?_
                                            refine wk_rip (wk_callV (rest := []) C0 cl_X12_145 (ok_X12_coldest hI hw) hP (by decide) sh_65 rfl rfl rfl (Nat.le_of_ble_eq_true rfl) (wk_room (by decide) (by decide)) hl.1 dX12_laid_235 ⟨Nat.le_refl _, Nat.le_refl _⟩) hS (fun r43 H locs hw hP hS => ?_)
                                            refine lv_istore (lv' := [(10, .int (iI r43)), (0, .ref (ad 65)), (1, .int (iI a1)), (2, .int (iI a2)), (3, .int (iI y3_4)), (4, .int (iI r11)), (5, .int (iI y5_12)), (6, .int (iI y6_15)), (7, .int (iI y7_16))]) hx hb dX12_laid_238 hl (by decide) rfl (fun ls hl => ?_)
                                            refine lv_iconst (v := iI 0) hx hb dX12_laid_240 rfl ?_
                                            refine lv_istore (lv' := [(11, .int (iI 0)), (10, .int (iI r43)), (0, .ref (ad 65)), (1, .int (iI a1)), (2, .int (iI a2)), (3, .int (iI y3_4)), (4, .int (iI r11)), (5, .int (iI y5_12)), (6, .int (iI y6_15)), (7, .int (iI y7_16))]) hx hb dX12_laid_241 hl (by decide) rfl (fun ls hl => ?_)
                                            obtain ⟨I243, hI243, hw⟩ := hw
                                            have kI243 : ∀ (k243 : Nat) (y11_44 : Int) (s45 : Mem) (H : Heap) (locs : List Loc) (ls : Array Slot), wP D cA ad s45 H → va_S (wA ad) s.heap H locs → lv_has ls 12 [(0, .ref (ad 65)), (1, .int (iI a1)), (2, .int (iI a2)), (3, .int (iI y3_4)), (4, .int (iI r11)), (5, .int (iI y5_12)), (6, .int (iI y6_15)), (7, .int (iI y7_16)), (10, .int (iI r43)), (11, .int (iI y11_44))] → I243 k243 y11_44 s45 → W p l e (rmL 3) s m A below meth c H locs 0 0 QQ (F0 m 243 ls []) := by
                                              intro k243
                                              induction k243 using Nat.strongRecOn with
                                              | _ k243 ih243 =>
                                                intro y11_44 s45 H locs ls hP hS hl hw
                                                have hw := hI243 k243 y11_44 s45 hw
                                                refine lv_iload hx hb dX12_laid_243 (lv_at hl 9 rfl) ?_
                                                refine lv_iload_n hx hb dX12_laid_245 rfl (lv_at hl 3 rfl) ?_
                                                have q46 := hw.1
                                                have hw := hw.2
                                                obtain ⟨X276, hX276, hw⟩ := hw
                                                have kX276 : ∀ (H : Heap) (locs : List Loc) (ls : Array Slot), wP D cA ad s45 H → va_S (wA ad) s.heap H locs → lv_has ls 12 [(0, .ref (ad 65)), (1, .int (iI a1)), (2, .int (iI a2)), (3, .int (iI y3_4)), (4, .int (iI r11)), (5, .int (iI y5_12)), (6, .int (iI y6_15)), (7, .int (iI y7_16)), (10, .int (iI r43))] → X276 → W p l e (rmL 3) s m A below meth c H locs 0 0 QQ (F0 m 276 ls []) := by
                                                  intro H locs ls hP hS hl hw
                                                  have hw := hX276 hw
                                                  refine lv_iload hx hb dX12_laid_276 (lv_at hl 8 rfl) ?_
                                                  refine lv_iload hx hb dX12_laid_278 (lv_at hl 6 rfl) ?_
                                                  have q47 := hw.1
                                                  have hw := hw.2
                                                  have q48 := hw.1
                                                  have hw := hw.2
                                                  have kX290 : ∀ v49 : Int, v49 = (if r43 ≤ y6_15 then y6_15 else r43) → ∀ (ls : Array Slot), lv_has ls 12 [(0, .ref (ad 65)), (1, .int (iI a1)), (2, .int (iI a2)), (3, .int (iI y3_4)), (4, .int (iI r11)), (5, .int (iI y5_12)), (7, .int (iI y7_16))] → W p l e (rmL 3) s m A below meth c H locs 0 0 QQ (F0 m 290 ls [.int (iI v49)]) := by
                                                    intro v49 ev49 ls hl
                                                    have hw := hw v49 ev49
                                                    refine lv_istore (lv' := [(6, .int (iI v49)), (0, .ref (ad 65)), (1, .int (iI a1)), (2, .int (iI a2)), (3, .int (iI y3_4)), (4, .int (iI r11)), (5, .int (iI y5_12)), (7, .int (iI y7_16))]) hx hb dX12_laid_290 hl (by decide) rfl (fun ls hl => ?_)
                                                    refine lv_aload_n hx hb dX12_laid_292 rfl (lv_at hl 1 rfl) ?_
                                                    refine wk_rv (wk_callV (rest := []) C0 cl_X12_195 (ok_X12_backs hI hw) hP (by decide) sh_65 rfl rfl rfl (Nat.le_of_ble_eq_true rfl) (wk_room (by decide) (by decide)) hl.1 dX12_laid_293 ⟨Nat.le_refl _, Nat.le_refl _⟩) hS (fun s50 H locs hw hP hS => ?_)
                                                    exact kX296 v49 s50 _ _ _ hP hS (lv_sub hl [1, 2, 3, 4, 5, 6, 0, 7] rfl) hw
                                                  refine wk_icmp_le hx hb q47 q48 (tgt := 288) dX12_laid_280 (by decide) (fun hh51 => ?_) (fun hh51 => ?_)
                                                  · refine lv_iload hx hb dX12_laid_288 (lv_at hl 6 rfl) ?_
                                                    exact kX290 y6_15 (by rw [if_pos hh51]) ls (lv_sub hl [0, 1, 2, 3, 4, 5, 7] rfl)
                                                  · refine lv_iload hx hb dX12_laid_283 (lv_at hl 8 rfl) ?_
                                                    refine lv_goto (tgt := 290) hx hb dX12_laid_285 (by decide) ?_
                                                    exact kX290 r43 (by rw [if_neg hh51]) ls (lv_sub hl [0, 1, 2, 3, 4, 5, 7] rfl)
                                                refine wk_icmp_ge hx hb q46 q9 (tgt := 276) dX12_laid_246 (by decide) (fun hh => ?_) (fun hh => ?_)
                                                · have hw := hw.1 hh
                                                  exact kX276  _ _ _ hP hS (lv_sub hl [0, 1, 2, 3, 4, 5, 6, 7, 8] rfl) hw
                                                · have hw := hw.2 hh
                                                  refine lv_iload hx hb dX12_laid_249 (lv_at hl 8 rfl) ?_
                                                  refine lv_iload hx hb dX12_laid_251 (lv_at hl 6 rfl) ?_
                                                  have q52 := hw.1
                                                  have hw := hw.2
                                                  have q53 := hw.1
                                                  have hw := hw.2
                                                  refine wk_icmp_le hx hb q52 q53 (tgt := 276) dX12_laid_253 (by decide) (fun hh => ?_) (fun hh => ?_)
                                                  · have hw := hw.1 hh
                                                    exact kX276  _ _ _ hP hS (lv_sub hl [0, 1, 2, 3, 4, 5, 6, 7, 8] rfl) hw
                                                  · have hw := hw.2 hh
                                                    refine lv_aload_n hx hb dX12_laid_256 rfl (lv_at hl 0 rfl) ?_
                                                    refine wk_getR 75 C0 fl_X12_37 hP (by decide) sh_65 rfl dX12_laid_257 ?_
                                                    refine lv_iload hx hb dX12_laid_260 (lv_at hl 9 rfl) ?_
                                                    refine lv_aload_n hx hb dX12_laid_262 rfl (lv_at hl 0 rfl) ?_
                                                    refine wk_getR 74 C0 fl_X12_34 hP (by decide) sh_65 rfl dX12_laid_263 ?_
                                                    refine lv_iload hx hb dX12_laid_266 (lv_at hl 9 rfl) ?_
                                                    have q54 := hw.1
                                                    have hw := hw.2
                                                    refine wk_iald C0 hP (by decide) sh_74 q54.1 q54.2 (by decide) dX12_laid_268 ?_
                                                    refine wk_iast C0 hP hS (by decide) sh_75 q54.1 q54.2 (by decide) dX12_laid_269 (fun s55 H locs es55 hP hS => ?_)
                                                    have hw := hw s55 es55
                                                    refine wk_iinc (lv' := fun x11_56 => [(11, .int (iI x11_56)), (0, .ref (ad 65)), (1, .int (iI a1)), (2, .int (iI a2)), (3, .int (iI y3_4)), (4, .int (iI r11)), (5, .int (iI y5_12)), (6, .int (iI y6_15)), (7, .int (iI y7_16)), (10, .int (iI r43))]) hx hb dX12_laid_270 hl (k := 9) rfl (by decide) (fun _ => rfl) (fun x11_56 ls ex11_56 hl => ?_)
                                                    have hw := hw x11_56 ex11_56
                                                    refine lv_goto (tgt := 243) hx hb dX12_laid_273 (by decide) ?_
                                                    obtain ⟨k57, hk57, hw⟩ := hw
                                                    exact ih243 k57 hk57 x11_56 s55 _ _ _ hP hS (lv_sub hl [1, 2, 3, 4, 5, 6, 7, 8, 9, 0] rfl) hw
                                            obtain ⟨k58, hw⟩ := hw
                                            exact kI243 k58 0 s41 _ _ _ hP hS (lv_sub hl [2, 3, 4, 5, 6, 7, 8, 9, 1, 0] rfl) hw
                                          · have hw := hw.2 hh
                                            refine lv_aload_n hx hb dX12_laid_223 rfl (lv_at hl 0 rfl) ?_
                                            refine lv_iconst (v := iI 0) hx hb dX12_laid_224 rfl ?_
                                            refine wk_rv (wk_callV (rest := []) C0 cl_X12_166 (ok_X12_goesOn hI hw) hP (by decide) sh_65 rfl rfl rfl (Nat.le_of_ble_eq_true rfl) (wk_room (by decide) (by decide)) hl.1 dX12_laid_225 ⟨Nat.le_refl _, Nat.le_refl _⟩) hS (fun s59 H locs hw hP hS => ?_)
                                            refine wk_iinc (lv' := fun x10_60 => [(10, .int (iI x10_60)), (0, .ref (ad 65)), (1, .int (iI a1)), (2, .int (iI a2)), (3, .int (iI y3_4)), (4, .int (iI r11)), (5, .int (iI y5_12)), (6, .int (iI y6_15)), (7, .int (iI y7_16))]) hx hb dX12_laid_228 hl (k := 8) rfl (by decide) (fun _ => rfl) (fun x10_60 ls ex10_60 hl => ?_)
                                            have hw := hw x10_60 ex10_60
                                            refine lv_goto (tgt := 217) hx hb dX12_laid_231 (by decide) ?_
                                            obtain ⟨k61, hk61, hw⟩ := hw
                                            exact ih217 k61 hk61 x10_60 s59 _ _ _ hP hS (lv_sub hl [1, 2, 3, 4, 5, 6, 7, 8, 0] rfl) hw
                                      obtain ⟨k62, hw⟩ := hw
                                      exact kI217 k62 0 s38 _ _ _ hP hS (lv_sub hl [1, 2, 3, 4, 5, 6, 7, 8, 0] rfl) hw
                                    · have hw := hw.2 hh
                                      refine lv_aload_n hx hb dX12_laid_187 rfl (lv_at hl 0 rfl) ?_
                                      refine wk_getR 69 C0 fl_X12_19 hP (by decide) sh_65 rfl dX12_laid_188 ?_
                                      refine lv_iconst (v := iI 1) hx hb dX12_laid_191 rfl ?_
                                      refine lv_aload_n hx hb dX12_laid_192 rfl (lv_at hl 0 rfl) ?_
                                      refine wk_getR 73 C0 fl_X12_31 hP (by decide) sh_65 rfl dX12_laid_193 ?_
                                      refine lv_iload hx hb dX12_laid_196 (lv_at hl 8 rfl) ?_
                                      have q63 := hw.1
                                      have hw := hw.2
                                      refine wk_iald C0 hP (by decide) sh_73 q63.1 q63.2 (by decide) dX12_laid_198 ?_
                                      refine wk_iadd hx hb dX12_laid_199 ?_
                                      refine lv_aload_n hx hb dX12_laid_200 rfl (lv_at hl 0 rfl) ?_
                                      refine wk_getR 74 C0 fl_X12_34 hP (by decide) sh_65 rfl dX12_laid_201 ?_
                                      refine lv_iload hx hb dX12_laid_204 (lv_at hl 8 rfl) ?_
                                      refine wk_iald C0 hP (by decide) sh_74 q63.1 q63.2 (by decide) dX12_laid_206 ?_
                                      have q64 := hw.1
                                      have hw := hw.2
                                      refine wk_iast C0 hP hS (by decide) sh_69 q64.1 q64.2 (by decide) dX12_laid_207 (fun s65 H locs es65 hP hS => ?_)
                                      have hw := hw s65 es65
                                      refine wk_iinc (lv' := fun x10_66 => [(10, .int (iI x10_66)), (0, .ref (ad 65)), (1, .int (iI a1)), (2, .int (iI a2)), (3, .int (iI y3_4)), (4, .int (iI r11)), (5, .int (iI y5_12)), (6, .int (iI y6_15)), (7, .int (iI y7_16))]) hx hb dX12_laid_208 hl (k := 8) rfl (by decide) (fun _ => rfl) (fun x10_66 ls ex10_66 hl => ?_)
                                      have hw := hw x10_66 ex10_66
                                      refine lv_goto (tgt := 181) hx hb dX12_laid_211 (by decide) ?_
                                      obtain ⟨k67, hk67, hw⟩ := hw
                                      exact ih181 k67 hk67 x10_66 s65 _ _ _ hP hS (lv_sub hl [1, 2, 3, 4, 5, 6, 7, 8, 0] rfl) hw
                                obtain ⟨k68, hw⟩ := hw
                                exact kI181 k68 0 s29 _ _ _ hP hS (lv_sub hl [1, 2, 3, 4, 5, 6, 7, 8, 0] rfl) hw
                            · have hw := hw.2 hh
                              refine lv_aload_n hx hb dX12_laid_132 rfl (lv_at hl 0 rfl) ?_
                              refine wk_getR 74 C0 fl_X12_34 hP (by decide) sh_65 rfl dX12_laid_133 ?_
                              refine lv_iload hx hb dX12_laid_136 (lv_at hl 10 rfl) ?_
                              refine lv_iload hx hb dX12_laid_138 (lv_at hl 9 rfl) ?_
                              refine lv_bipush (v := iI 6) hx hb dX12_laid_140 (by decide +kernel) ?_
                              have q69 := hw.1
                              have hw := hw.2
                              refine wk_irem hx hb q69 ⟨by decide, by decide⟩ (by decide) dX12_laid_142 ?_
                              have q70 := hw.1
                              have hw := hw.2
                              refine wk_iast C0 hP hS (by decide) sh_74 q70.1 q70.2 (by decide) dX12_laid_143 (fun s71 H locs es71 hP hS => ?_)
                              have hw := hw s71 es71
                              refine lv_iload hx hb dX12_laid_144 (lv_at hl 9 rfl) ?_
                              refine lv_bipush (v := iI 6) hx hb dX12_laid_146 (by decide +kernel) ?_
                              refine wk_idiv hx hb q69 ⟨by decide, by decide⟩ (by decide) dX12_laid_148 ?_
                              refine wk_top (fun x9_72 ex9_72 => ?_)
                              have hw := hw x9_72 ex9_72
                              refine lv_istore (lv' := [(9, .int (iI x9_72)), (0, .ref (ad 65)), (1, .int (iI a1)), (2, .int (iI a2)), (3, .int (iI y3_4)), (4, .int (iI r11)), (5, .int (iI y5_12)), (6, .int (iI y6_15)), (7, .int (iI y7_16)), (8, .int (iI y8_26)), (10, .int (iI y10_28))]) hx hb dX12_laid_149 hl (by decide) rfl (fun ls hl => ?_)
                              refine lv_iload hx hb dX12_laid_151 (lv_at hl 9 rfl) ?_
                              refine lv_iconst (v := iI 1) hx hb dX12_laid_153 rfl ?_
                              refine lv_aload_n hx hb dX12_laid_154 rfl (lv_at hl 1 rfl) ?_
                              refine wk_getR 74 C0 fl_X12_34 hP (by decide) sh_65 rfl dX12_laid_155 ?_
                              refine lv_iload hx hb dX12_laid_158 (lv_at hl 10 rfl) ?_
                              refine wk_iald C0 hP (by decide) sh_74 q70.1 q70.2 (by decide) dX12_laid_160 ?_
                              refine wk_ishl hx hb dX12_laid_161 ?_
                              refine wk_ior hx hb dX12_laid_162 ?_
                              refine wk_top (fun x8_73 ex8_73 => ?_)
                              have hw := hw x8_73 ex8_73
                              refine lv_istore (lv' := [(8, .int (iI x8_73)), (9, .int (iI x9_72)), (0, .ref (ad 65)), (1, .int (iI a1)), (2, .int (iI a2)), (3, .int (iI y3_4)), (4, .int (iI r11)), (5, .int (iI y5_12)), (6, .int (iI y6_15)), (7, .int (iI y7_16)), (10, .int (iI y10_28))]) hx hb dX12_laid_163 hl (by decide) rfl (fun ls hl => ?_)
                              refine wk_iinc (lv' := fun x10_74 => [(10, .int (iI x10_74)), (8, .int (iI x8_73)), (9, .int (iI x9_72)), (0, .ref (ad 65)), (1, .int (iI a1)), (2, .int (iI a2)), (3, .int (iI y3_4)), (4, .int (iI r11)), (5, .int (iI y5_12)), (6, .int (iI y6_15)), (7, .int (iI y7_16))]) hx hb dX12_laid_165 hl (k := 10) rfl (by decide) (fun _ => rfl) (fun x10_74 ls ex10_74 hl => ?_)
                              have hw := hw x10_74 ex10_74
                              refine lv_goto (tgt := 127) hx hb dX12_laid_168 (by decide) ?_
                              obtain ⟨k75, hk75, hw⟩ := hw
                              exact ih127 k75 hk75 x8_73 x9_72 x10_74 s71 _ _ _ hP hS (lv_sub hl [3, 4, 5, 6, 7, 8, 9, 10, 1, 2, 0] rfl) hw
                        obtain ⟨k76, hw⟩ := hw
                        exact kI127 k76 0 y7_16 x10_25 s17 _ _ _ hP hS (lv_sub hl [3, 4, 5, 6, 7, 8, 9, 10, 2, 1, 0] rfl) hw
                  obtain ⟨k77, hw⟩ := hw
                  exact kI108 k77 (-1) 0 s10 _ _ _ hP hS (lv_sub hl [2, 3, 4, 5, 6, 7, 1, 0] rfl) hw
                · have hw := hw.2 hh
                  refine lv_iload hx hb dX12_laid_89 (lv_at hl 5 rfl) ?_
                  refine lv_bipush (v := iI 6) hx hb dX12_laid_91 (by decide +kernel) ?_
                  refine wk_imul hx hb dX12_laid_93 ?_
                  refine wk_top (fun x5_78 ex5_78 => ?_)
                  have hw := hw x5_78 ex5_78
                  refine lv_istore (lv' := [(5, .int (iI x5_78)), (0, .ref (ad 65)), (1, .int (iI a1)), (2, .int (iI a2)), (3, .int (iI y3_4)), (4, .int (iI r11)), (6, .int (iI y6_13))]) hx hb dX12_laid_94 hl (by decide) rfl (fun ls hl => ?_)
                  refine wk_iinc (lv' := fun x6_79 => [(6, .int (iI x6_79)), (5, .int (iI x5_78)), (0, .ref (ad 65)), (1, .int (iI a1)), (2, .int (iI a2)), (3, .int (iI y3_4)), (4, .int (iI r11))]) hx hb dX12_laid_96 hl (k := 6) rfl (by decide) (fun _ => rfl) (fun x6_79 ls ex6_79 hl => ?_)
                  have hw := hw x6_79 ex6_79
                  refine lv_goto (tgt := 83) hx hb dX12_laid_99 (by decide) ?_
                  obtain ⟨k80, hk80, hw⟩ := hw
                  exact ih83 k80 hk80 x5_78 x6_79 _ _ _ hP hS (lv_sub hl [2, 3, 4, 5, 6, 1, 0] rfl) hw
            obtain ⟨k81, hw⟩ := hw
            exact kI83 k81 1 0 _ _ _ hP hS (lv_sub hl [3, 4, 5, 6, 2, 1, 0] rfl) hw
          · have hw := hw.1 hh
            refine lv_iconst (v := iI (-1)) hx hb dX12_laid_65 rfl ?_
            exact hret _ _ _ _ _ _ hw hP hS dX12_laid_66
        · have hw := hw.2 hh
          refine lv_aload_n hx hb dX12_laid_31 rfl (lv_at hl 0 rfl) ?_
          refine wk_getR 69 C0 fl_X12_19 hP (by decide) sh_65 rfl dX12_laid_32 ?_
          refine lv_iconst (v := iI 1) hx hb dX12_laid_35 rfl ?_
          refine lv_iload hx hb dX12_laid_36 (lv_at hl 4 rfl) ?_
          refine wk_iadd hx hb dX12_laid_38 ?_
          have q82 := hw.1
          have hw := hw.2
          refine wk_iald C0 hP (by decide) sh_69 q82.1 q82.2 (by decide) dX12_laid_39 ?_
          refine lv_iconst (v := iI (-1)) hx hb dX12_laid_40 rfl ?_
          have q83 := hw.1
          have hw := hw.2
          obtain ⟨X55, hX55, hw⟩ := hw
          have kX55 : ∀ (y3_84 : Int) (s85 : Mem) (H : Heap) (locs : List Loc) (ls : Array Slot), wP D cA ad s85 H → va_S (wA ad) s.heap H locs → lv_has ls 12 [(0, .ref (ad 65)), (1, .int (iI a1)), (2, .int (iI a2)), (3, .int (iI y3_84)), (4, .int (iI y4_5))] → X55 y3_84 s85 → W p l e (rmL 3) s m A below meth c H locs 0 0 QQ (F0 m 55 ls []) := by
            intro y3_84 s85 H locs ls hP hS hl hw
            have hw := hX55 y3_84 s85 hw
            refine wk_iinc (lv' := fun x4_86 => [(4, .int (iI x4_86)), (0, .ref (ad 65)), (1, .int (iI a1)), (2, .int (iI a2)), (3, .int (iI y3_84))]) hx hb dX12_laid_55 hl (k := 4) rfl (by decide) (fun _ => rfl) (fun x4_86 ls ex4_86 hl => ?_)
            have hw := hw x4_86 ex4_86
            refine lv_goto (tgt := 20) hx hb dX12_laid_58 (by decide) ?_
            obtain ⟨k87, hk87, hw⟩ := hw
            exact ih20 k87 hk87 y3_84 x4_86 s85 _ _ _ hP hS (lv_sub hl [1, 2, 3, 4, 0] rfl) hw
          refine wk_icmp_eq hx hb q83 ⟨by decide, by decide⟩ (tgt := 55) dX12_laid_41 (by decide) (fun hh => ?_) (fun hh => ?_)
          · have hw := hw.1 hh
            exact kX55 y3_4 s6 _ _ _ hP hS (lv_sub hl [0, 1, 2, 3, 4] rfl) hw
          · have hw := hw.2 hh
            refine lv_aload_n hx hb dX12_laid_44 rfl (lv_at hl 0 rfl) ?_
            refine wk_getR 73 C0 fl_X12_31 hP (by decide) sh_65 rfl dX12_laid_45 ?_
            refine lv_iload_n hx hb dX12_laid_48 rfl (lv_at hl 3 rfl) ?_
            refine lv_iload hx hb dX12_laid_49 (lv_at hl 4 rfl) ?_
            have q88 := hw.1
            have hw := hw.2
            refine wk_iast C0 hP hS (by decide) sh_73 q88.1 q88.2 (by decide) dX12_laid_51 (fun s89 H locs es89 hP hS => ?_)
            have hw := hw s89 es89
            refine wk_iinc (lv' := fun x3_90 => [(3, .int (iI x3_90)), (0, .ref (ad 65)), (1, .int (iI a1)), (2, .int (iI a2)), (4, .int (iI y4_5))]) hx hb dX12_laid_52 hl (k := 3) rfl (by decide) (fun _ => rfl) (fun x3_90 ls ex3_90 hl => ?_)
            have hw := hw x3_90 ex3_90
            exact kX55 x3_90 s89 _ _ _ hP hS (lv_sub hl [1, 2, 3, 0, 4] rfl) hw
    obtain ⟨k91, hw⟩ := hw
    exact kI20 k91 0 0 sg _ _ _ hP hS (lv_sub hl [2, 3, 4, 1, 0] rfl) hw
  · have hw := hw.1 hh
    refine lv_ldc (own := RX12) (v := iI (-1000000002)) hx hb hown (htb _ ki_X12_71) dX12_laid_12 ?_
    exact hret _ _ _ _ _ _ hw hP hS dX12_laid_14

set_option maxRecDepth 100000 in
set_option maxHeartbeats 4000000 in
theorem ok_X12_change {l : Launch} {D : va_G} {cA : Nat → ClassId} {ad : Nat → Nat} (hI : wI ad) {a1 : Int} {sg : Mem} {Q : Int → Mem → Prop} (hw : wp_X12_change a1 sg Q) : wMi l D cA ad yX12_change cX12_change 9 (some .int) 3 [.ref (ad 65), .int (iI a1)] sg Q := by
  refine wk_ofI (by decide) hI (Nat.le_of_ble_eq_true rfl) ?_
  intro p e s m below meth c A QQ ls C0 hret hl hP
  have hx := C0.1
  have hb := C0.2.1
  have hown := C0.2.2.2.1
  have htb := C0.2.2.2.2.1
  have hl : lv_has ls 9 [(0, .ref (ad 65)), (1, .int (iI a1))] := hl
  refine (fun (key : ∀ (H : Heap) (locs : List Loc), wP D cA ad sg H → va_S (wA ad) s.heap H locs → W p l e (rmL 3) s m A below meth c H locs 0 0 QQ (F0 m 0 ls [])) => key _ _ hP va_S.rf) ?_
  intro H locs hP hS
  unfold wp_X12_change at hw
  refine lv_aload_n hx hb dX12_change_0 rfl (lv_at hl 0 rfl) ?_
  refine wk_rv (wk_callV (rest := []) C0 cl_X12_189 (ok_X12_asides hI hw) hP (by decide) sh_65 rfl rfl rfl (Nat.le_of_ble_eq_true rfl) (wk_room (by decide) (by decide)) hl.1 dX12_change_1 ⟨Nat.le_refl _, Nat.le_refl _⟩) hS (fun s1 H locs hw hP hS => ?_)
  refine lv_aload_n hx hb dX12_change_4 rfl (lv_at hl 0 rfl) ?_
  refine lv_iconst (v := iI 0) hx hb dX12_change_5 rfl ?_
  refine wk_rv (wk_callV (rest := []) C0 cl_X12_166 (ok_X12_goesOn hI hw) hP (by decide) sh_65 rfl rfl rfl (Nat.le_of_ble_eq_true rfl) (wk_room (by decide) (by decide)) hl.1 dX12_change_6 ⟨Nat.le_refl _, Nat.le_refl _⟩) hS (fun s2 H locs hw hP hS => ?_)
  refine lv_iconst (v := iI 0) hx hb dX12_change_9 rfl ?_
  refine lv_istore_n (lv' := [(2, .int (iI 0)), (0, .ref (ad 65)), (1, .int (iI a1))]) hx hb dX12_change_10 rfl hl (by decide) rfl (fun ls hl => ?_)
  obtain ⟨I11, hI11, hw⟩ := hw
  have kI11 : ∀ (k11 : Nat) (y2_3 : Int) (s4 : Mem) (H : Heap) (locs : List Loc) (ls : Array Slot), wP D cA ad s4 H → va_S (wA ad) s.heap H locs → lv_has ls 9 [(0, .ref (ad 65)), (1, .int (iI a1)), (2, .int (iI y2_3))] → I11 k11 y2_3 s4 → W p l e (rmL 3) s m A below meth c H locs 0 0 QQ (F0 m 11 ls []) := by
    intro k11
    induction k11 using Nat.strongRecOn with
    | _ k11 ih11 =>
      intro y2_3 s4 H locs ls hP hS hl hw
      have hw := hI11 k11 y2_3 s4 hw
      refine lv_iload_n hx hb dX12_change_11 rfl (lv_at hl 2 rfl) ?_
      refine lv_aload_n hx hb dX12_change_12 rfl (lv_at hl 0 rfl) ?_
      refine wk_getR 67 C0 fl_X12_13 hP (by decide) sh_65 rfl dX12_change_13 ?_
      refine lv_iconst (v := iI 2) hx hb dX12_change_16 rfl ?_
      refine wk_iald C0 hP (by decide) sh_67 (by decide) (by decide) (by decide) dX12_change_17 ?_
      rw [show (2 : Int).toNat = 2 from rfl]
      have q5 := hw.1
      have hw := hw.2
      have q6 := hw.1
      have hw := hw.2
      refine wk_icmp_ge hx hb q5 q6 (tgt := 42) dX12_change_18 (by decide) (fun hh => ?_) (fun hh => ?_)
      · have hw := hw.1 hh
        refine lv_aload_n hx hb dX12_change_42 rfl (lv_at hl 0 rfl) ?_
        refine wk_rv (wk_callV (rest := []) C0 cl_X12_195 (ok_X12_backs hI hw) hP (by decide) sh_65 rfl rfl rfl (Nat.le_of_ble_eq_true rfl) (wk_room (by decide) (by decide)) hl.1 dX12_change_43 ⟨Nat.le_refl _, Nat.le_refl _⟩) hS (fun s7 H locs hw hP hS => ?_)
        refine lv_iconst (v := iI 0) hx hb dX12_change_46 rfl ?_
        refine lv_istore_n (lv' := [(2, .int (iI 0)), (0, .ref (ad 65)), (1, .int (iI a1))]) hx hb dX12_change_47 rfl hl (by decide) rfl (fun ls hl => ?_)
        refine lv_iconst (v := iI (-1)) hx hb dX12_change_48 rfl ?_
        refine lv_istore_n (lv' := [(3, .int (iI (-1))), (2, .int (iI 0)), (0, .ref (ad 65)), (1, .int (iI a1))]) hx hb dX12_change_49 rfl hl (by decide) rfl (fun ls hl => ?_)
        refine lv_iconst (v := iI 0) hx hb dX12_change_50 rfl ?_
        refine lv_istore (lv' := [(4, .int (iI 0)), (3, .int (iI (-1))), (2, .int (iI 0)), (0, .ref (ad 65)), (1, .int (iI a1))]) hx hb dX12_change_51 hl (by decide) rfl (fun ls hl => ?_)
        obtain ⟨I53, hI53, hw⟩ := hw
        have kI53 : ∀ (k53 : Nat) (y2_8 : Int) (y3_9 : Int) (y4_10 : Int) (s11 : Mem) (H : Heap) (locs : List Loc) (ls : Array Slot), wP D cA ad s11 H → va_S (wA ad) s.heap H locs → lv_has ls 9 [(0, .ref (ad 65)), (1, .int (iI a1)), (2, .int (iI y2_8)), (3, .int (iI y3_9)), (4, .int (iI y4_10))] → I53 k53 y2_8 y3_9 y4_10 s11 → W p l e (rmL 3) s m A below meth c H locs 0 0 QQ (F0 m 53 ls []) := by
          intro k53
          induction k53 using Nat.strongRecOn with
          | _ k53 ih53 =>
            intro y2_8 y3_9 y4_10 s11 H locs ls hP hS hl hw
            have hw := hI53 k53 y2_8 y3_9 y4_10 s11 hw
            refine lv_iload hx hb dX12_change_53 (lv_at hl 4 rfl) ?_
            refine lv_aload_n hx hb dX12_change_55 rfl (lv_at hl 0 rfl) ?_
            refine wk_getR 67 C0 fl_X12_13 hP (by decide) sh_65 rfl dX12_change_56 ?_
            refine lv_iconst (v := iI 2) hx hb dX12_change_59 rfl ?_
            refine wk_iald C0 hP (by decide) sh_67 (by decide) (by decide) (by decide) dX12_change_60 ?_
            rw [show (2 : Int).toNat = 2 from rfl]
            have q12 := hw.1
            have hw := hw.2
            have q13 := hw.1
            have hw := hw.2
            refine wk_icmp_ge hx hb q12 q13 (tgt := 235) dX12_change_61 (by decide) (fun hh => ?_) (fun hh => ?_)
            · have hw := hw.1 hh
              refine lv_iload_n hx hb dX12_change_235 rfl (lv_at hl 1 rfl) ?_
              refine lv_iconst (v := iI (-1)) hx hb dX12_change_236 rfl ?_
              have q14 := hw.1
              have hw := hw.2
              refine wk_icmp_ne hx hb q14 ⟨by decide, by decide⟩ (tgt := 244) dX12_change_237 (by decide) (fun hh => ?_) (fun hh => ?_)
              · have hw := hw.2 hh
                refine lv_iload_n hx hb dX12_change_244 rfl (lv_at hl 3 rfl) ?_
                exact hret _ _ _ _ _ _ hw hP hS dX12_change_245
              · have hw := hw.1 hh
                refine lv_iload_n hx hb dX12_change_240 rfl (lv_at hl 2 rfl) ?_
                refine lv_goto (tgt := 245) hx hb dX12_change_241 (by decide) ?_
                exact hret _ _ _ _ _ _ hw hP hS dX12_change_245
            · have hw := hw.2 hh
              refine lv_iload hx hb dX12_change_64 (lv_at hl 4 rfl) ?_
              refine lv_iconst (v := iI 1) hx hb dX12_change_66 rfl ?_
              refine wk_iadd hx hb dX12_change_67 ?_
              refine wk_top (fun x5_15 ex5_15 => ?_)
              have hw := hw x5_15 ex5_15
              refine lv_istore (lv' := [(5, .int (iI x5_15)), (0, .ref (ad 65)), (1, .int (iI a1)), (2, .int (iI y2_8)), (3, .int (iI y3_9)), (4, .int (iI y4_10))]) hx hb dX12_change_68 hl (by decide) rfl (fun ls hl => ?_)
              obtain ⟨I70, hI70, hw⟩ := hw
              have kI70 : ∀ (k70 : Nat) (y2_16 : Int) (y3_17 : Int) (y5_18 : Int) (s19 : Mem) (H : Heap) (locs : List Loc) (ls : Array Slot), wP D cA ad s19 H → va_S (wA ad) s.heap H locs → lv_has ls 9 [(0, .ref (ad 65)), (1, .int (iI a1)), (2, .int (iI y2_16)), (3, .int (iI y3_17)), (4, .int (iI y4_10)), (5, .int (iI y5_18))] → I70 k70 y2_16 y3_17 y5_18 s19 → W p l e (rmL 3) s m A below meth c H locs 0 0 QQ (F0 m 70 ls []) := by
                intro k70
                induction k70 using Nat.strongRecOn with
                | _ k70 ih70 =>
                  intro y2_16 y3_17 y5_18 s19 H locs ls hP hS hl hw
                  have hw := hI70 k70 y2_16 y3_17 y5_18 s19 hw
                  refine lv_iload hx hb dX12_change_70 (lv_at hl 5 rfl) ?_
                  refine lv_aload_n hx hb dX12_change_72 rfl (lv_at hl 0 rfl) ?_
                  refine wk_getR 67 C0 fl_X12_13 hP (by decide) sh_65 rfl dX12_change_73 ?_
                  refine lv_iconst (v := iI 2) hx hb dX12_change_76 rfl ?_
                  refine wk_iald C0 hP (by decide) sh_67 (by decide) (by decide) (by decide) dX12_change_77 ?_
                  rw [show (2 : Int).toNat = 2 from rfl]
                  have q20 := hw.1
                  have hw := hw.2
                  have q21 := hw.1
                  have hw := hw.2
                  refine wk_icmp_ge hx hb q20 q21 (tgt := 229) dX12_change_78 (by decide) (fun hh => ?_) (fun hh => ?_)
                  · have hw := hw.1 hh
                    refine wk_iinc (lv' := fun x4_22 => [(4, .int (iI x4_22)), (0, .ref (ad 65)), (1, .int (iI a1)), (2, .int (iI y2_16)), (3, .int (iI y3_17)), (5, .int (iI y5_18))]) hx hb dX12_change_229 hl (k := 4) rfl (by decide) (fun _ => rfl) (fun x4_22 ls ex4_22 hl => ?_)
                    have hw := hw x4_22 ex4_22
                    refine lv_goto (tgt := 53) hx hb dX12_change_232 (by decide) ?_
                    obtain ⟨k23, hk23, hw⟩ := hw
                    exact ih53 k23 hk23 y2_16 y3_17 x4_22 s19 _ _ _ hP hS (lv_sub hl [1, 2, 3, 4, 0] rfl) hw
                  · have hw := hw.2 hh
                    refine lv_aload_n hx hb dX12_change_81 rfl (lv_at hl 0 rfl) ?_
                    refine lv_iload hx hb dX12_change_82 (lv_at hl 4 rfl) ?_
                    refine wk_rip (wk_callV (rest := []) C0 cl_X12_133 (ok_X12_placeOf hI hw) hP (by decide) sh_65 rfl rfl rfl (Nat.le_of_ble_eq_true rfl) (wk_room (by decide) (by decide)) hl.1 dX12_change_84 ⟨Nat.le_refl _, Nat.le_refl _⟩) hS (fun r24 H locs hw hP hS => ?_)
                    refine lv_istore (lv' := [(6, .int (iI r24)), (0, .ref (ad 65)), (1, .int (iI a1)), (2, .int (iI y2_16)), (3, .int (iI y3_17)), (4, .int (iI y4_10)), (5, .int (iI y5_18))]) hx hb dX12_change_87 hl (by decide) rfl (fun ls hl => ?_)
                    refine lv_aload_n hx hb dX12_change_89 rfl (lv_at hl 1 rfl) ?_
                    refine lv_iload hx hb dX12_change_90 (lv_at hl 6 rfl) ?_
                    refine wk_rip (wk_callV (rest := []) C0 cl_X12_133 (ok_X12_placeOf hI hw) hP (by decide) sh_65 rfl rfl rfl (Nat.le_of_ble_eq_true rfl) (wk_room (by decide) (by decide)) hl.1 dX12_change_92 ⟨Nat.le_refl _, Nat.le_refl _⟩) hS (fun r25 H locs hw hP hS => ?_)
                    refine lv_istore (lv' := [(7, .int (iI r25)), (6, .int (iI r24)), (0, .ref (ad 65)), (1, .int (iI a1)), (2, .int (iI y2_16)), (3, .int (iI y3_17)), (4, .int (iI y4_10)), (5, .int (iI y5_18))]) hx hb dX12_change_95 hl (by decide) rfl (fun ls hl => ?_)
                    refine lv_iload hx hb dX12_change_97 (lv_at hl 1 rfl) ?_
                    refine lv_iconst (v := iI (-1)) hx hb dX12_change_99 rfl ?_
                    have q26 := hw.1
                    have hw := hw.2
                    obtain ⟨X223, hX223, hw⟩ := hw
                    have kX223 : ∀ (y2_27 : Int) (y3_28 : Int) (s29 : Mem) (H : Heap) (locs : List Loc) (ls : Array Slot), wP D cA ad s29 H → va_S (wA ad) s.heap H locs → lv_has ls 9 [(0, .ref (ad 65)), (1, .int (iI a1)), (2, .int (iI y2_27)), (3, .int (iI y3_28)), (4, .int (iI y4_10)), (5, .int (iI y5_18))] → X223 y2_27 y3_28 s29 → W p l e (rmL 3) s m A below meth c H locs 0 0 QQ (F0 m 223 ls []) := by
                      intro y2_27 y3_28 s29 H locs ls hP hS hl hw
                      have hw := hX223 y2_27 y3_28 s29 hw
                      refine wk_iinc (lv' := fun x5_30 => [(5, .int (iI x5_30)), (0, .ref (ad 65)), (1, .int (iI a1)), (2, .int (iI y2_27)), (3, .int (iI y3_28)), (4, .int (iI y4_10))]) hx hb dX12_change_223 hl (k := 5) rfl (by decide) (fun _ => rfl) (fun x5_30 ls ex5_30 hl => ?_)
                      have hw := hw x5_30 ex5_30
                      refine lv_goto (tgt := 70) hx hb dX12_change_226 (by decide) ?_
                      obtain ⟨k31, hk31, hw⟩ := hw
                      exact ih70 k31 hk31 y2_27 y3_28 x5_30 s29 _ _ _ hP hS (lv_sub hl [1, 2, 3, 4, 5, 0] rfl) hw
                    refine wk_icmp_eq hx hb q26 ⟨by decide, by decide⟩ (tgt := 223) dX12_change_100 (by decide) (fun hh => ?_) (fun hh => ?_)
                    · have hw := hw.1 hh
                      exact kX223 y2_16 y3_17 s19 _ _ _ hP hS (lv_sub hl [2, 3, 4, 5, 6, 7] rfl) hw
                    · have hw := hw.2 hh
                      refine lv_iload hx hb dX12_change_103 (lv_at hl 0 rfl) ?_
                      refine lv_iconst (v := iI (-1)) hx hb dX12_change_105 rfl ?_
                      have q32 := hw.1
                      have hw := hw.2
                      refine wk_icmp_eq hx hb q32 ⟨by decide, by decide⟩ (tgt := 223) dX12_change_106 (by decide) (fun hh => ?_) (fun hh => ?_)
                      · have hw := hw.1 hh
                        exact kX223 y2_16 y3_17 s19 _ _ _ hP hS (lv_sub hl [2, 3, 4, 5, 6, 7] rfl) hw
                      · have hw := hw.2 hh
                        refine lv_aload_n hx hb dX12_change_109 rfl (lv_at hl 2 rfl) ?_
                        refine wk_getR 69 C0 fl_X12_19 hP (by decide) sh_65 rfl dX12_change_110 ?_
                        refine lv_iconst (v := iI 1) hx hb dX12_change_113 rfl ?_
                        refine lv_iload hx hb dX12_change_114 (lv_at hl 1 rfl) ?_
                        refine wk_iadd hx hb dX12_change_116 ?_
                        refine lv_iload hx hb dX12_change_117 (lv_at hl 7 rfl) ?_
                        have q33 := hw.1
                        have hw := hw.2
                        refine wk_iast C0 hP hS (by decide) sh_69 q33.1 q33.2 (by decide) dX12_change_119 (fun s34 H locs es34 hP hS => ?_)
                        have hw := hw s34 es34
                        refine lv_aload_n hx hb dX12_change_120 rfl (lv_at hl 2 rfl) ?_
                        refine wk_getR 69 C0 fl_X12_19 hP (by decide) sh_65 rfl dX12_change_121 ?_
                        refine lv_iconst (v := iI 1) hx hb dX12_change_124 rfl ?_
                        refine lv_iload hx hb dX12_change_125 (lv_at hl 0 rfl) ?_
                        refine wk_iadd hx hb dX12_change_127 ?_
                        refine lv_iload hx hb dX12_change_128 (lv_at hl 6 rfl) ?_
                        have q35 := hw.1
                        have hw := hw.2
                        refine wk_iast C0 hP hS (by decide) sh_69 q35.1 q35.2 (by decide) dX12_change_130 (fun s36 H locs es36 hP hS => ?_)
                        have hw := hw s36 es36
                        refine lv_aload_n hx hb dX12_change_131 rfl (lv_at hl 2 rfl) ?_
                        refine lv_iconst (v := iI 0) hx hb dX12_change_132 rfl ?_
                        refine wk_rv (wk_callV (rest := []) C0 cl_X12_166 (ok_X12_goesOn hI hw) hP (by decide) sh_65 rfl rfl rfl (Nat.le_of_ble_eq_true rfl) (wk_room (by decide) (by decide)) hl.1 dX12_change_133 ⟨Nat.le_refl _, Nat.le_refl _⟩) hS (fun s37 H locs hw hP hS => ?_)
                        refine lv_aload_n hx hb dX12_change_136 rfl (lv_at hl 2 rfl) ?_
                        refine wk_getR 69 C0 fl_X12_19 hP (by decide) sh_65 rfl dX12_change_137 ?_
                        refine lv_bipush (v := iI 7) hx hb dX12_change_140 (by decide +kernel) ?_
                        refine lv_iload hx hb dX12_change_142 (lv_at hl 6 rfl) ?_
                        refine wk_iadd hx hb dX12_change_144 ?_
                        have q38 := hw.1
                        have hw := hw.2
                        refine wk_iald C0 hP (by decide) sh_69 q38.1 q38.2 (by decide) dX12_change_145 ?_
                        refine lv_aload_n hx hb dX12_change_146 rfl (lv_at hl 2 rfl) ?_
                        refine wk_getR 74 C0 fl_X12_34 hP (by decide) sh_65 rfl dX12_change_147 ?_
                        refine lv_iload hx hb dX12_change_150 (lv_at hl 6 rfl) ?_
                        have q39 := hw.1
                        have hw := hw.2
                        refine wk_iald C0 hP (by decide) sh_74 q39.1 q39.2 (by decide) dX12_change_152 ?_
                        have q40 := hw.1
                        have hw := hw.2
                        have q41 := hw.1
                        have hw := hw.2
                        have hs := hw.1
                        have hw := hw.2
                        have kX181 : ∀ v46 : Int, v46 = (if s37 69 (7 + y4_10).toNat ≤ s37 74 y4_10.toNat then 0 else if s37 69 (7 + y5_18).toNat ≤ s37 74 y5_18.toNat then 0 else 1) → ∀ (ls : Array Slot), lv_has ls 9 [(0, .ref (ad 65)), (1, .int (iI a1)), (2, .int (iI y2_16)), (3, .int (iI y3_17)), (4, .int (iI y4_10)), (5, .int (iI y5_18))] → W p l e (rmL 3) s m A below meth c H locs 0 0 QQ (F0 m 181 ls [.int (iI v46)]) := by
                          intro v46 ev46 ls hl
                          have hw := hw v46 ev46
                          refine lv_istore (lv' := [(8, .int (iI v46)), (0, .ref (ad 65)), (1, .int (iI a1)), (2, .int (iI y2_16)), (3, .int (iI y3_17)), (4, .int (iI y4_10)), (5, .int (iI y5_18))]) hx hb dX12_change_181 hl (by decide) rfl (fun ls hl => ?_)
                          refine lv_aload_n hx hb dX12_change_183 rfl (lv_at hl 1 rfl) ?_
                          refine wk_rv (wk_callV (rest := []) C0 cl_X12_195 (ok_X12_backs hI hw) hP (by decide) sh_65 rfl rfl rfl (Nat.le_of_ble_eq_true rfl) (wk_room (by decide) (by decide)) hl.1 dX12_change_184 ⟨Nat.le_refl _, Nat.le_refl _⟩) hS (fun s47 H locs hw hP hS => ?_)
                          refine lv_iload hx hb dX12_change_187 (lv_at hl 0 rfl) ?_
                          have q48 := hw.1
                          have hw := hw.2
                          have hs := hw.1
                          have hw := hw.2
                          have kX209 : ∀ v51 : Int, v51 = (if v46 = 0 then y3_17 else if y2_16 = a1 then (10 * y4_10) + y5_18 else y3_17) → ∀ (ls : Array Slot), lv_has ls 9 [(0, .ref (ad 65)), (1, .int (iI a1)), (2, .int (iI y2_16)), (4, .int (iI y4_10)), (5, .int (iI y5_18)), (8, .int (iI v46))] → W p l e (rmL 3) s m A below meth c H locs 0 0 QQ (F0 m 209 ls [.int (iI v51)]) := by
                            intro v51 ev51 ls hl
                            have hw := hw v51 ev51
                            refine lv_istore_n (lv' := [(3, .int (iI v51)), (0, .ref (ad 65)), (1, .int (iI a1)), (2, .int (iI y2_16)), (4, .int (iI y4_10)), (5, .int (iI y5_18)), (8, .int (iI v46))]) hx hb dX12_change_209 rfl hl (by decide) rfl (fun ls hl => ?_)
                            refine lv_iload_n hx hb dX12_change_210 rfl (lv_at hl 3 rfl) ?_
                            refine lv_iload hx hb dX12_change_211 (lv_at hl 6 rfl) ?_
                            have kX221 : ∀ v52 : Int, v52 = (if v46 = 0 then 0 else 1) → ∀ (ls : Array Slot), lv_has ls 9 [(0, .ref (ad 65)), (1, .int (iI a1)), (3, .int (iI v51)), (4, .int (iI y4_10)), (5, .int (iI y5_18))] → W p l e (rmL 3) s m A below meth c H locs 0 0 QQ (F0 m 221 ls [.int (iI v52), .int (iI y2_16)]) := by
                              intro v52 ev52 ls hl
                              have hw := hw v52 ev52
                              refine wk_iadd hx hb dX12_change_221 ?_
                              refine wk_top (fun x2_53 ex2_53 => ?_)
                              have hw := hw x2_53 ex2_53
                              refine lv_istore_n (lv' := [(2, .int (iI x2_53)), (0, .ref (ad 65)), (1, .int (iI a1)), (3, .int (iI v51)), (4, .int (iI y4_10)), (5, .int (iI y5_18))]) hx hb dX12_change_222 rfl hl (by decide) rfl (fun ls hl => ?_)
                              exact kX223 x2_53 v51 s47 _ _ _ hP hS (lv_sub hl [1, 2, 0, 3, 4, 5] rfl) hw
                            refine wk_if_eq hx hb q48 (tgt := 220) dX12_change_213 (by decide) (fun hh54 => ?_) (fun hh54 => ?_)
                            · refine lv_iconst (v := iI 0) hx hb dX12_change_220 rfl ?_
                              exact kX221 0 (by rw [if_pos hh54]) ls (lv_sub hl [1, 2, 0, 4, 5] rfl)
                            · refine lv_iconst (v := iI 1) hx hb dX12_change_216 rfl ?_
                              refine lv_goto (tgt := 221) hx hb dX12_change_217 (by decide) ?_
                              exact kX221 1 (by rw [if_neg hh54]) ls (lv_sub hl [1, 2, 0, 4, 5] rfl)
                          refine wk_if_eq hx hb q48 (tgt := 208) dX12_change_189 (by decide) (fun hh55 => ?_) (fun hh55 => ?_)
                          · refine lv_iload_n hx hb dX12_change_208 rfl (lv_at hl 4 rfl) ?_
                            exact kX209 y3_17 (by rw [if_pos hh55]) ls (lv_sub hl [1, 2, 3, 5, 6, 0] rfl)
                          · have hs := hs.2 hh55
                            refine lv_iload_n hx hb dX12_change_192 rfl (lv_at hl 3 rfl) ?_
                            refine lv_iload_n hx hb dX12_change_193 rfl (lv_at hl 2 rfl) ?_
                            have q49 := hs.1
                            have hs := hs.2
                            have q50 := hs
                            refine wk_icmp_ne hx hb q49 q50 (tgt := 208) dX12_change_194 (by decide) (fun hh56 => ?_) (fun hh56 => ?_)
                            · refine lv_iload_n hx hb dX12_change_208 rfl (lv_at hl 4 rfl) ?_
                              exact kX209 y3_17 (by rw [if_neg hh55, if_neg hh56]) ls (lv_sub hl [1, 2, 3, 5, 6, 0] rfl)
                            · refine lv_bipush (v := iI 10) hx hb dX12_change_197 (by decide +kernel) ?_
                              refine lv_iload hx hb dX12_change_199 (lv_at hl 5 rfl) ?_
                              refine wk_imul hx hb dX12_change_201 ?_
                              refine lv_iload hx hb dX12_change_202 (lv_at hl 6 rfl) ?_
                              refine wk_iadd hx hb dX12_change_204 ?_
                              refine lv_goto (tgt := 209) hx hb dX12_change_205 (by decide) ?_
                              exact kX209 ((10 * y4_10) + y5_18) (by rw [if_neg hh55, if_pos hh56]) ls (lv_sub hl [1, 2, 3, 5, 6, 0] rfl)
                        refine wk_icmp_le hx hb q40 q41 (tgt := 180) dX12_change_153 (by decide) (fun hh57 => ?_) (fun hh57 => ?_)
                        · refine lv_iconst (v := iI 0) hx hb dX12_change_180 rfl ?_
                          exact kX181 0 (by rw [if_pos hh57]) ls (lv_sub hl [2, 3, 4, 5, 6, 7] rfl)
                        · have hs := hs.2 hh57
                          refine lv_aload_n hx hb dX12_change_156 rfl (lv_at hl 2 rfl) ?_
                          refine wk_getR 69 C0 fl_X12_19 hP (by decide) sh_65 rfl dX12_change_157 ?_
                          refine lv_bipush (v := iI 7) hx hb dX12_change_160 (by decide +kernel) ?_
                          refine lv_iload hx hb dX12_change_162 (lv_at hl 7 rfl) ?_
                          refine wk_iadd hx hb dX12_change_164 ?_
                          have q42 := hs.1
                          have hs := hs.2
                          refine wk_iald C0 hP (by decide) sh_69 q42.1 q42.2 (by decide) dX12_change_165 ?_
                          refine lv_aload_n hx hb dX12_change_166 rfl (lv_at hl 2 rfl) ?_
                          refine wk_getR 74 C0 fl_X12_34 hP (by decide) sh_65 rfl dX12_change_167 ?_
                          refine lv_iload hx hb dX12_change_170 (lv_at hl 7 rfl) ?_
                          have q43 := hs.1
                          have hs := hs.2
                          refine wk_iald C0 hP (by decide) sh_74 q43.1 q43.2 (by decide) dX12_change_172 ?_
                          have q44 := hs.1
                          have hs := hs.2
                          have q45 := hs
                          refine wk_icmp_le hx hb q44 q45 (tgt := 180) dX12_change_173 (by decide) (fun hh58 => ?_) (fun hh58 => ?_)
                          · refine lv_iconst (v := iI 0) hx hb dX12_change_180 rfl ?_
                            exact kX181 0 (by rw [if_neg hh57, if_pos hh58]) ls (lv_sub hl [2, 3, 4, 5, 6, 7] rfl)
                          · refine lv_iconst (v := iI 1) hx hb dX12_change_176 rfl ?_
                            refine lv_goto (tgt := 181) hx hb dX12_change_177 (by decide) ?_
                            exact kX181 1 (by rw [if_neg hh57, if_neg hh58]) ls (lv_sub hl [2, 3, 4, 5, 6, 7] rfl)
              obtain ⟨k59, hw⟩ := hw
              exact kI70 k59 y2_8 y3_9 x5_15 s11 _ _ _ hP hS (lv_sub hl [1, 2, 3, 4, 5, 0] rfl) hw
        obtain ⟨k60, hw⟩ := hw
        exact kI53 k60 0 (-1) 0 s7 _ _ _ hP hS (lv_sub hl [3, 4, 2, 1, 0] rfl) hw
      · have hw := hw.2 hh
        refine lv_aload_n hx hb dX12_change_21 rfl (lv_at hl 0 rfl) ?_
        refine wk_getR 74 C0 fl_X12_34 hP (by decide) sh_65 rfl dX12_change_22 ?_
        refine lv_iload_n hx hb dX12_change_25 rfl (lv_at hl 2 rfl) ?_
        refine lv_aload_n hx hb dX12_change_26 rfl (lv_at hl 0 rfl) ?_
        refine wk_getR 69 C0 fl_X12_19 hP (by decide) sh_65 rfl dX12_change_27 ?_
        refine lv_bipush (v := iI 7) hx hb dX12_change_30 (by decide +kernel) ?_
        refine lv_iload_n hx hb dX12_change_32 rfl (lv_at hl 2 rfl) ?_
        refine wk_iadd hx hb dX12_change_33 ?_
        have q61 := hw.1
        have hw := hw.2
        refine wk_iald C0 hP (by decide) sh_69 q61.1 q61.2 (by decide) dX12_change_34 ?_
        have q62 := hw.1
        have hw := hw.2
        refine wk_iast C0 hP hS (by decide) sh_74 q62.1 q62.2 (by decide) dX12_change_35 (fun s63 H locs es63 hP hS => ?_)
        have hw := hw s63 es63
        refine wk_iinc (lv' := fun x2_64 => [(2, .int (iI x2_64)), (0, .ref (ad 65)), (1, .int (iI a1))]) hx hb dX12_change_36 hl (k := 2) rfl (by decide) (fun _ => rfl) (fun x2_64 ls ex2_64 hl => ?_)
        have hw := hw x2_64 ex2_64
        refine lv_goto (tgt := 11) hx hb dX12_change_39 (by decide) ?_
        obtain ⟨k65, hk65, hw⟩ := hw
        exact ih11 k65 hk65 x2_64 s63 _ _ _ hP hS (lv_sub hl [1, 2, 0] rfl) hw
  obtain ⟨k66, hw⟩ := hw
  exact kI11 k66 0 s2 _ _ _ hP hS (lv_sub hl [1, 2, 0] rfl) hw

set_option maxRecDepth 100000 in
set_option maxHeartbeats 4000000 in
theorem ok_X12_isState {l : Launch} {D : va_G} {cA : Nat → ClassId} {ad : Nat → Nat} (hI : wI ad) {a1 : Int} {sg : Mem} {Q : Int → Prop} (hw : wp_X12_isState a1 sg Q) : wMi l D cA ad yX12_isState cX12_isState 4 (some .boolean) 1 [.ref (ad 65), .int (iI a1)] sg (fun z u => u = sg ∧ Q z) := by
  refine wk_ofZ (by decide) hI (Nat.le_of_ble_eq_true rfl) ?_
  intro p e s m below meth c A QQ ls C0 hret hl hP
  have hx := C0.1
  have hb := C0.2.1
  have hown := C0.2.2.2.1
  have htb := C0.2.2.2.2.1
  have hl : lv_has ls 4 [(0, .ref (ad 65)), (1, .int (iI a1))] := hl
  refine (fun (key : ∀ (H : Heap) (locs : List Loc), wP D cA ad sg H → va_S (wA ad) s.heap H locs → W p l e (rmL 1) s m A below meth c H locs 0 0 QQ (F0 m 0 ls [])) => key _ _ hP va_S.rf) ?_
  intro H locs hP hS
  unfold wp_X12_isState at hw
  refine lv_iconst (v := iI 1) hx hb dX12_isState_0 rfl ?_
  refine lv_istore_n (lv' := [(2, .int (iI 1)), (0, .ref (ad 65)), (1, .int (iI a1))]) hx hb dX12_isState_1 rfl hl (by decide) rfl (fun ls hl => ?_)
  refine lv_iconst (v := iI 1) hx hb dX12_isState_2 rfl ?_
  refine lv_istore_n (lv' := [(3, .int (iI 1)), (2, .int (iI 1)), (0, .ref (ad 65)), (1, .int (iI a1))]) hx hb dX12_isState_3 rfl hl (by decide) rfl (fun ls hl => ?_)
  obtain ⟨I4, hI4, hw⟩ := hw
  have kI4 : ∀ (k4 : Nat) (y2_1 : Int) (y3_2 : Int) (H : Heap) (locs : List Loc) (ls : Array Slot), wP D cA ad sg H → va_S (wA ad) s.heap H locs → lv_has ls 4 [(0, .ref (ad 65)), (1, .int (iI a1)), (2, .int (iI y2_1)), (3, .int (iI y3_2))] → I4 k4 y2_1 y3_2 → W p l e (rmL 1) s m A below meth c H locs 0 0 QQ (F0 m 4 ls []) := by
    intro k4
    induction k4 using Nat.strongRecOn with
    | _ k4 ih4 =>
      intro y2_1 y3_2 H locs ls hP hS hl hw
      have hw := hI4 k4 y2_1 y3_2 hw
      refine lv_iload_n hx hb dX12_isState_4 rfl (lv_at hl 3 rfl) ?_
      refine lv_bipush (v := iI 13) hx hb dX12_isState_5 (by decide +kernel) ?_
      have q3 := hw.1
      have hw := hw.2
      refine wk_icmp_ge hx hb q3 ⟨by decide, by decide⟩ (tgt := 48) dX12_isState_7 (by decide) (fun hh => ?_) (fun hh => ?_)
      · have hw := hw.1 hh
        refine lv_iload_n hx hb dX12_isState_48 rfl (lv_at hl 2 rfl) ?_
        have qz := hw.1
        have hw := hw.2
        exact hret _ _ _ _ _ _ qz ⟨rfl, hw⟩ hP hS dX12_isState_49
      · have hw := hw.2 hh
        refine lv_iload_n hx hb dX12_isState_10 rfl (lv_at hl 2 rfl) ?_
        have q4 := hw.1
        have hw := hw.2
        have hs := hw.1
        have hw := hw.2
        have kX41 : ∀ v9 : Int, v9 = (if y2_1 = 0 then 0 else if sg 76 (((12 * a1) + y3_2) - 1).toNat = sg 69 y3_2.toNat then 1 else 0) → ∀ (ls : Array Slot), lv_has ls 4 [(0, .ref (ad 65)), (1, .int (iI a1)), (3, .int (iI y3_2))] → W p l e (rmL 1) s m A below meth c H locs 0 0 QQ (F0 m 41 ls [.int (iI v9)]) := by
          intro v9 ev9 ls hl
          have hw := hw v9 ev9
          refine lv_istore_n (lv' := [(2, .int (iI v9)), (0, .ref (ad 65)), (1, .int (iI a1)), (3, .int (iI y3_2))]) hx hb dX12_isState_41 rfl hl (by decide) rfl (fun ls hl => ?_)
          refine wk_iinc (lv' := fun x3_10 => [(3, .int (iI x3_10)), (2, .int (iI v9)), (0, .ref (ad 65)), (1, .int (iI a1))]) hx hb dX12_isState_42 hl (k := 3) rfl (by decide) (fun _ => rfl) (fun x3_10 ls ex3_10 hl => ?_)
          have hw := hw x3_10 ex3_10
          refine lv_goto (tgt := 4) hx hb dX12_isState_45 (by decide) ?_
          obtain ⟨k11, hk11, hw⟩ := hw
          exact ih4 k11 hk11 v9 x3_10 _ _ _ hP hS (lv_sub hl [2, 3, 1, 0] rfl) hw
        refine wk_if_eq hx hb q4 (tgt := 40) dX12_isState_11 (by decide) (fun hh12 => ?_) (fun hh12 => ?_)
        · refine lv_iconst (v := iI 0) hx hb dX12_isState_40 rfl ?_
          exact kX41 0 (by rw [if_pos hh12]) ls (lv_sub hl [0, 1, 3] rfl)
        · have hs := hs.2 hh12
          refine lv_aload_n hx hb dX12_isState_14 rfl (lv_at hl 0 rfl) ?_
          refine wk_getR 76 C0 fl_X12_40 hP (by decide) sh_65 rfl dX12_isState_15 ?_
          refine lv_bipush (v := iI 12) hx hb dX12_isState_18 (by decide +kernel) ?_
          refine lv_iload_n hx hb dX12_isState_20 rfl (lv_at hl 1 rfl) ?_
          refine wk_imul hx hb dX12_isState_21 ?_
          refine lv_iload_n hx hb dX12_isState_22 rfl (lv_at hl 3 rfl) ?_
          refine wk_iadd hx hb dX12_isState_23 ?_
          refine lv_iconst (v := iI 1) hx hb dX12_isState_24 rfl ?_
          refine wk_isub hx hb dX12_isState_25 ?_
          have q5 := hs.1
          have hs := hs.2
          refine wk_iald C0 hP (by decide) sh_76 q5.1 q5.2 (by decide) dX12_isState_26 ?_
          refine lv_aload_n hx hb dX12_isState_27 rfl (lv_at hl 0 rfl) ?_
          refine wk_getR 69 C0 fl_X12_19 hP (by decide) sh_65 rfl dX12_isState_28 ?_
          refine lv_iload_n hx hb dX12_isState_31 rfl (lv_at hl 3 rfl) ?_
          have q6 := hs.1
          have hs := hs.2
          refine wk_iald C0 hP (by decide) sh_69 q6.1 q6.2 (by decide) dX12_isState_32 ?_
          have q7 := hs.1
          have hs := hs.2
          have q8 := hs
          refine wk_icmp_ne hx hb q7 q8 (tgt := 40) dX12_isState_33 (by decide) (fun hh13 => ?_) (fun hh13 => ?_)
          · refine lv_iconst (v := iI 0) hx hb dX12_isState_40 rfl ?_
            exact kX41 0 (by rw [if_neg hh12, if_neg hh13]) ls (lv_sub hl [0, 1, 3] rfl)
          · refine lv_iconst (v := iI 1) hx hb dX12_isState_36 rfl ?_
            refine lv_goto (tgt := 41) hx hb dX12_isState_37 (by decide) ?_
            exact kX41 1 (by rw [if_neg hh12, if_pos hh13]) ls (lv_sub hl [0, 1, 3] rfl)
  obtain ⟨k14, hw⟩ := hw
  exact kI4 k14 1 1 _ _ _ hP hS (lv_sub hl [2, 3, 1, 0] rfl) hw

set_option maxRecDepth 100000 in
set_option maxHeartbeats 4000000 in
theorem ok_X12_hottest {l : Launch} {D : va_G} {cA : Nat → ClassId} {ad : Nat → Nat} (hI : wI ad) {sg : Mem} {Q : Int → Prop} (hw : wp_X12_hottest sg Q) : wMi l D cA ad yX12_hottest cX12_hottest 3 (some .int) 1 [.ref (ad 65)] sg (fun z u => u = sg ∧ Q z) := by
  refine wk_ofI (by decide) hI (Nat.le_of_ble_eq_true rfl) ?_
  intro p e s m below meth c A QQ ls C0 hret hl hP
  have hx := C0.1
  have hb := C0.2.1
  have hown := C0.2.2.2.1
  have htb := C0.2.2.2.2.1
  have hl : lv_has ls 3 [(0, .ref (ad 65))] := hl
  refine (fun (key : ∀ (H : Heap) (locs : List Loc), wP D cA ad sg H → va_S (wA ad) s.heap H locs → W p l e (rmL 1) s m A below meth c H locs 0 0 QQ (F0 m 0 ls [])) => key _ _ hP va_S.rf) ?_
  intro H locs hP hS
  unfold wp_X12_hottest at hw
  refine lv_iconst (v := iI 0) hx hb dX12_hottest_0 rfl ?_
  refine lv_istore_n (lv' := [(1, .int (iI 0)), (0, .ref (ad 65))]) hx hb dX12_hottest_1 rfl hl (by decide) rfl (fun ls hl => ?_)
  refine lv_iconst (v := iI 1) hx hb dX12_hottest_2 rfl ?_
  refine lv_istore_n (lv' := [(2, .int (iI 1)), (1, .int (iI 0)), (0, .ref (ad 65))]) hx hb dX12_hottest_3 rfl hl (by decide) rfl (fun ls hl => ?_)
  obtain ⟨I4, hI4, hw⟩ := hw
  have kI4 : ∀ (k4 : Nat) (y1_1 : Int) (y2_2 : Int) (H : Heap) (locs : List Loc) (ls : Array Slot), wP D cA ad sg H → va_S (wA ad) s.heap H locs → lv_has ls 3 [(0, .ref (ad 65)), (1, .int (iI y1_1)), (2, .int (iI y2_2))] → I4 k4 y1_1 y2_2 → W p l e (rmL 1) s m A below meth c H locs 0 0 QQ (F0 m 4 ls []) := by
    intro k4
    induction k4 using Nat.strongRecOn with
    | _ k4 ih4 =>
      intro y1_1 y2_2 H locs ls hP hS hl hw
      have hw := hI4 k4 y1_1 y2_2 hw
      refine lv_iload_n hx hb dX12_hottest_4 rfl (lv_at hl 2 rfl) ?_
      refine lv_aload_n hx hb dX12_hottest_5 rfl (lv_at hl 0 rfl) ?_
      refine wk_getR 67 C0 fl_X12_13 hP (by decide) sh_65 rfl dX12_hottest_6 ?_
      refine lv_iconst (v := iI 0) hx hb dX12_hottest_9 rfl ?_
      refine wk_iald C0 hP (by decide) sh_67 (by decide) (by decide) (by decide) dX12_hottest_10 ?_
      rw [show (0 : Int).toNat = 0 from rfl]
      have q3 := hw.1
      have hw := hw.2
      have q4 := hw.1
      have hw := hw.2
      refine wk_icmp_ge hx hb q3 q4 (tgt := 47) dX12_hottest_11 (by decide) (fun hh => ?_) (fun hh => ?_)
      · have hw := hw.1 hh
        refine lv_iload_n hx hb dX12_hottest_47 rfl (lv_at hl 1 rfl) ?_
        exact hret _ _ _ _ _ _ ⟨rfl, hw⟩ hP hS dX12_hottest_48
      · have hw := hw.2 hh
        refine lv_aload_n hx hb dX12_hottest_14 rfl (lv_at hl 0 rfl) ?_
        refine wk_getR 67 C0 fl_X12_13 hP (by decide) sh_65 rfl dX12_hottest_15 ?_
        refine lv_bipush (v := iI 6) hx hb dX12_hottest_18 (by decide +kernel) ?_
        refine lv_iload_n hx hb dX12_hottest_20 rfl (lv_at hl 2 rfl) ?_
        refine wk_iadd hx hb dX12_hottest_21 ?_
        have q5 := hw.1
        have hw := hw.2
        refine wk_iald C0 hP (by decide) sh_67 q5.1 q5.2 (by decide) dX12_hottest_22 ?_
        refine lv_aload_n hx hb dX12_hottest_23 rfl (lv_at hl 0 rfl) ?_
        refine wk_getR 67 C0 fl_X12_13 hP (by decide) sh_65 rfl dX12_hottest_24 ?_
        refine lv_bipush (v := iI 6) hx hb dX12_hottest_27 (by decide +kernel) ?_
        refine lv_iload_n hx hb dX12_hottest_29 rfl (lv_at hl 1 rfl) ?_
        refine wk_iadd hx hb dX12_hottest_30 ?_
        have q6 := hw.1
        have hw := hw.2
        refine wk_iald C0 hP (by decide) sh_67 q6.1 q6.2 (by decide) dX12_hottest_31 ?_
        have q7 := hw.1
        have hw := hw.2
        have q8 := hw.1
        have hw := hw.2
        have kX40 : ∀ v9 : Int, v9 = (if sg 67 (6 + y2_2).toNat ≤ sg 67 (6 + y1_1).toNat then y1_1 else y2_2) → ∀ (ls : Array Slot), lv_has ls 3 [(0, .ref (ad 65)), (2, .int (iI y2_2))] → W p l e (rmL 1) s m A below meth c H locs 0 0 QQ (F0 m 40 ls [.int (iI v9)]) := by
          intro v9 ev9 ls hl
          have hw := hw v9 ev9
          refine lv_istore_n (lv' := [(1, .int (iI v9)), (0, .ref (ad 65)), (2, .int (iI y2_2))]) hx hb dX12_hottest_40 rfl hl (by decide) rfl (fun ls hl => ?_)
          refine wk_iinc (lv' := fun x2_10 => [(2, .int (iI x2_10)), (1, .int (iI v9)), (0, .ref (ad 65))]) hx hb dX12_hottest_41 hl (k := 2) rfl (by decide) (fun _ => rfl) (fun x2_10 ls ex2_10 hl => ?_)
          have hw := hw x2_10 ex2_10
          refine lv_goto (tgt := 4) hx hb dX12_hottest_44 (by decide) ?_
          obtain ⟨k11, hk11, hw⟩ := hw
          exact ih4 k11 hk11 v9 x2_10 _ _ _ hP hS (lv_sub hl [2, 1, 0] rfl) hw
        refine wk_icmp_le hx hb q7 q8 (tgt := 39) dX12_hottest_32 (by decide) (fun hh12 => ?_) (fun hh12 => ?_)
        · refine lv_iload_n hx hb dX12_hottest_39 rfl (lv_at hl 1 rfl) ?_
          exact kX40 y1_1 (by rw [if_pos hh12]) ls (lv_sub hl [0, 2] rfl)
        · refine lv_iload_n hx hb dX12_hottest_35 rfl (lv_at hl 2 rfl) ?_
          refine lv_goto (tgt := 40) hx hb dX12_hottest_36 (by decide) ?_
          exact kX40 y2_2 (by rw [if_neg hh12]) ls (lv_sub hl [0, 2] rfl)
  obtain ⟨k13, hw⟩ := hw
  exact kI4 k13 0 1 _ _ _ hP hS (lv_sub hl [2, 1, 0] rfl) hw

set_option maxRecDepth 100000 in
set_option maxHeartbeats 4000000 in
theorem ok_X12_steady {l : Launch} {D : va_G} {cA : Nat → ClassId} {ad : Nat → Nat} (hI : wI ad) {a1 : Int} {sg : Mem} {Q : Int → Mem → Prop} (hw : wp_X12_steady a1 sg Q) : wMi l D cA ad yX12_steady cX12_steady 5 (some .int) 3 [.ref (ad 65), .int (iI a1)] sg Q := by
  refine wk_ofI (by decide) hI (Nat.le_of_ble_eq_true rfl) ?_
  intro p e s m below meth c A QQ ls C0 hret hl hP
  have hx := C0.1
  have hb := C0.2.1
  have hown := C0.2.2.2.1
  have htb := C0.2.2.2.2.1
  have hl : lv_has ls 5 [(0, .ref (ad 65)), (1, .int (iI a1))] := hl
  refine (fun (key : ∀ (H : Heap) (locs : List Loc), wP D cA ad sg H → va_S (wA ad) s.heap H locs → W p l e (rmL 3) s m A below meth c H locs 0 0 QQ (F0 m 0 ls [])) => key _ _ hP va_S.rf) ?_
  intro H locs hP hS
  unfold wp_X12_steady at hw
  refine lv_iload_n hx hb dX12_steady_0 rfl (lv_at hl 1 rfl) ?_
  refine lv_iconst (v := iI (-1)) hx hb dX12_steady_1 rfl ?_
  have q1 := hw.1
  have hw := hw.2
  obtain ⟨X16, hX16, hw⟩ := hw
  have kX16 : ∀ (H : Heap) (locs : List Loc) (ls : Array Slot), wP D cA ad sg H → va_S (wA ad) s.heap H locs → lv_has ls 5 [(0, .ref (ad 65)), (1, .int (iI a1))] → X16 → W p l e (rmL 3) s m A below meth c H locs 0 0 QQ (F0 m 16 ls []) := by
    intro H locs ls hP hS hl hw
    have hw := hX16 hw
    refine lv_aload_n hx hb dX12_steady_16 rfl (lv_at hl 0 rfl) ?_
    refine wk_getR 67 C0 fl_X12_13 hP (by decide) sh_65 rfl dX12_steady_17 ?_
    refine lv_iconst (v := iI 0) hx hb dX12_steady_20 rfl ?_
    refine wk_iald C0 hP (by decide) sh_67 (by decide) (by decide) (by decide) dX12_steady_21 ?_
    rw [show (0 : Int).toNat = 0 from rfl]
    have q2 := hw.1
    have hw := hw.2
    refine wk_if_ne hx hb q2 (tgt := 28) dX12_steady_22 (by decide) (fun hh => ?_) (fun hh => ?_)
    · have hw := hw.2 hh
      refine lv_aload_n hx hb dX12_steady_28 rfl (lv_at hl 0 rfl) ?_
      refine wk_rv (wk_callV (rest := []) C0 cl_X12_189 (ok_X12_asides hI hw) hP (by decide) sh_65 rfl rfl rfl (Nat.le_of_ble_eq_true rfl) (wk_room (by decide) (by decide)) hl.1 dX12_steady_29 ⟨Nat.le_refl _, Nat.le_refl _⟩) hS (fun s3 H locs hw hP hS => ?_)
      refine lv_iconst (v := iI (-1)) hx hb dX12_steady_32 rfl ?_
      refine lv_istore_n (lv' := [(2, .int (iI (-1))), (0, .ref (ad 65)), (1, .int (iI a1))]) hx hb dX12_steady_33 rfl hl (by decide) rfl (fun ls hl => ?_)
      refine lv_iconst (v := iI 0) hx hb dX12_steady_34 rfl ?_
      refine lv_istore_n (lv' := [(3, .int (iI 0)), (2, .int (iI (-1))), (0, .ref (ad 65)), (1, .int (iI a1))]) hx hb dX12_steady_35 rfl hl (by decide) rfl (fun ls hl => ?_)
      obtain ⟨I36, hI36, hw⟩ := hw
      have kI36 : ∀ (k36 : Nat) (y2_4 : Int) (y3_5 : Int) (s6 : Mem) (H : Heap) (locs : List Loc) (ls : Array Slot), wP D cA ad s6 H → va_S (wA ad) s.heap H locs → lv_has ls 5 [(0, .ref (ad 65)), (1, .int (iI a1)), (2, .int (iI y2_4)), (3, .int (iI y3_5))] → I36 k36 y2_4 y3_5 s6 → W p l e (rmL 3) s m A below meth c H locs 0 0 QQ (F0 m 36 ls []) := by
        intro k36
        induction k36 using Nat.strongRecOn with
        | _ k36 ih36 =>
          intro y2_4 y3_5 s6 H locs ls hP hS hl hw
          have hw := hI36 k36 y2_4 y3_5 s6 hw
          refine lv_iload_n hx hb dX12_steady_36 rfl (lv_at hl 3 rfl) ?_
          refine lv_sipush (v := iI 201) hx hb dX12_steady_37 (by decide +kernel) ?_
          have q7 := hw.1
          have hw := hw.2
          obtain ⟨X163, hX163, hw⟩ := hw
          have kX163 : ∀ (H : Heap) (locs : List Loc) (ls : Array Slot), wP D cA ad s6 H → va_S (wA ad) s.heap H locs → lv_has ls 5 [(0, .ref (ad 65)), (1, .int (iI a1)), (2, .int (iI y2_4))] → X163 → W p l e (rmL 3) s m A below meth c H locs 0 0 QQ (F0 m 163 ls []) := by
            intro H locs ls hP hS hl hw
            have hw := hX163 hw
            refine lv_iconst (v := iI 0) hx hb dX12_steady_163 rfl ?_
            refine lv_istore_n (lv' := [(3, .int (iI 0)), (0, .ref (ad 65)), (1, .int (iI a1)), (2, .int (iI y2_4))]) hx hb dX12_steady_164 rfl hl (by decide) rfl (fun ls hl => ?_)
            refine lv_iconst (v := iI 0) hx hb dX12_steady_165 rfl ?_
            refine lv_istore (lv' := [(4, .int (iI 0)), (3, .int (iI 0)), (0, .ref (ad 65)), (1, .int (iI a1)), (2, .int (iI y2_4))]) hx hb dX12_steady_166 hl (by decide) rfl (fun ls hl => ?_)
            obtain ⟨I168, hI168, hw⟩ := hw
            have kI168 : ∀ (k168 : Nat) (y3_8 : Int) (y4_9 : Int) (s10 : Mem) (H : Heap) (locs : List Loc) (ls : Array Slot), wP D cA ad s10 H → va_S (wA ad) s.heap H locs → lv_has ls 5 [(0, .ref (ad 65)), (1, .int (iI a1)), (2, .int (iI y2_4)), (3, .int (iI y3_8)), (4, .int (iI y4_9))] → I168 k168 y3_8 y4_9 s10 → W p l e (rmL 3) s m A below meth c H locs 0 0 QQ (F0 m 168 ls []) := by
              intro k168
              induction k168 using Nat.strongRecOn with
              | _ k168 ih168 =>
                intro y3_8 y4_9 s10 H locs ls hP hS hl hw
                have hw := hI168 k168 y3_8 y4_9 s10 hw
                refine lv_iload hx hb dX12_steady_168 (lv_at hl 4 rfl) ?_
                refine lv_iload_n hx hb dX12_steady_170 rfl (lv_at hl 2 rfl) ?_
                refine lv_aload_n hx hb dX12_steady_171 rfl (lv_at hl 0 rfl) ?_
                refine wk_getR 67 C0 fl_X12_13 hP (by decide) sh_65 rfl dX12_steady_172 ?_
                refine lv_iconst (v := iI 3) hx hb dX12_steady_175 rfl ?_
                refine wk_iald C0 hP (by decide) sh_67 (by decide) (by decide) (by decide) dX12_steady_176 ?_
                rw [show (3 : Int).toNat = 3 from rfl]
                refine wk_imul hx hb dX12_steady_177 ?_
                have q11 := hw.1
                have hw := hw.2
                have q12 := hw.1
                have hw := hw.2
                obtain ⟨X223, hX223, hw⟩ := hw
                have kX223 : ∀ (H : Heap) (locs : List Loc) (ls : Array Slot), wP D cA ad s10 H → va_S (wA ad) s.heap H locs → lv_has ls 5 [(0, .ref (ad 65)), (1, .int (iI a1)), (2, .int (iI y2_4)), (3, .int (iI y3_8))] → X223 → W p l e (rmL 3) s m A below meth c H locs 0 0 QQ (F0 m 223 ls []) := by
                  intro H locs ls hP hS hl hw
                  have hw := hX223 hw
                  refine lv_aload_n hx hb dX12_steady_223 rfl (lv_at hl 0 rfl) ?_
                  refine wk_rv (wk_callV (rest := []) C0 cl_X12_195 (ok_X12_backs hI hw) hP (by decide) sh_65 rfl rfl rfl (Nat.le_of_ble_eq_true rfl) (wk_room (by decide) (by decide)) hl.1 dX12_steady_224 ⟨Nat.le_refl _, Nat.le_refl _⟩) hS (fun s13 H locs hw hP hS => ?_)
                  refine lv_iload_n hx hb dX12_steady_227 rfl (lv_at hl 2 rfl) ?_
                  refine lv_iconst (v := iI (-1)) hx hb dX12_steady_228 rfl ?_
                  have q14 := hw.1
                  have hw := hw.2
                  refine wk_icmp_ne hx hb q14 ⟨by decide, by decide⟩ (tgt := 236) dX12_steady_229 (by decide) (fun hh => ?_) (fun hh => ?_)
                  · have hw := hw.2 hh
                    refine lv_iload_n hx hb dX12_steady_236 rfl (lv_at hl 1 rfl) ?_
                    refine lv_iconst (v := iI (-1)) hx hb dX12_steady_237 rfl ?_
                    refine wk_icmp_ne hx hb q1 ⟨by decide, by decide⟩ (tgt := 245) dX12_steady_238 (by decide) (fun hh => ?_) (fun hh => ?_)
                    · have hw := hw.2 hh
                      refine lv_iload_n hx hb dX12_steady_245 rfl (lv_at hl 3 rfl) ?_
                      exact hret _ _ _ _ _ _ hw hP hS dX12_steady_246
                    · have hw := hw.1 hh
                      refine lv_iload_n hx hb dX12_steady_241 rfl (lv_at hl 2 rfl) ?_
                      refine lv_goto (tgt := 246) hx hb dX12_steady_242 (by decide) ?_
                      exact hret _ _ _ _ _ _ hw hP hS dX12_steady_246
                  · have hw := hw.1 hh
                    refine lv_iconst (v := iI (-1)) hx hb dX12_steady_232 rfl ?_
                    refine lv_goto (tgt := 246) hx hb dX12_steady_233 (by decide) ?_
                    exact hret _ _ _ _ _ _ hw hP hS dX12_steady_246
                refine wk_icmp_ge hx hb q11 q12 (tgt := 223) dX12_steady_178 (by decide) (fun hh => ?_) (fun hh => ?_)
                · have hw := hw.1 hh
                  exact kX223  _ _ _ hP hS (lv_sub hl [0, 1, 2, 3] rfl) hw
                · have hw := hw.2 hh
                  refine lv_iload_n hx hb dX12_steady_181 rfl (lv_at hl 1 rfl) ?_
                  refine lv_iconst (v := iI (-1)) hx hb dX12_steady_182 rfl ?_
                  refine wk_icmp_eq hx hb q1 ⟨by decide, by decide⟩ (tgt := 223) dX12_steady_183 (by decide) (fun hh => ?_) (fun hh => ?_)
                  · have hw := hw.1 hh
                    exact kX223  _ _ _ hP hS (lv_sub hl [0, 1, 2, 3] rfl) hw
                  · have hw := hw.2 hh
                    refine lv_aload_n hx hb dX12_steady_186 rfl (lv_at hl 0 rfl) ?_
                    refine lv_aload_n hx hb dX12_steady_187 rfl (lv_at hl 0 rfl) ?_
                    refine wk_rip (wk_callV (rest := [.ref (ad 65)]) C0 cl_X12_171 (ok_X12_lawful hI hw) hP (by decide) sh_65 rfl rfl rfl (Nat.le_of_ble_eq_true rfl) (wk_room (by decide) (by decide)) hl.1 dX12_steady_188 ⟨Nat.le_refl _, Nat.le_refl _⟩) hS (fun r15 H locs hw hP hS => ?_)
                    refine wk_rv (wk_callV (rest := []) C0 cl_X12_166 (ok_X12_goesOn hI hw) hP (by decide) sh_65 rfl rfl rfl (Nat.le_of_ble_eq_true rfl) (wk_room (by decide) (by decide)) hl.1 dX12_steady_191 ⟨Nat.le_refl _, Nat.le_refl _⟩) hS (fun s16 H locs hw hP hS => ?_)
                    refine lv_iload_n hx hb dX12_steady_194 rfl (lv_at hl 3 rfl) ?_
                    refine lv_aload_n hx hb dX12_steady_195 rfl (lv_at hl 0 rfl) ?_
                    refine wk_getR 69 C0 fl_X12_19 hP (by decide) sh_65 rfl dX12_steady_196 ?_
                    refine lv_iconst (v := iI 1) hx hb dX12_steady_199 rfl ?_
                    refine lv_aload_n hx hb dX12_steady_200 rfl (lv_at hl 0 rfl) ?_
                    refine wk_rip (wk_callV (rest := [.int (iI 1), .ref (ad 69), .int (iI y3_8)]) C0 cl_X12_216 (ok_X12_hottest hI hw) hP (by decide) sh_65 rfl rfl rfl (Nat.le_of_ble_eq_true rfl) (wk_room (by decide) (by decide)) hl.1 dX12_steady_201 ⟨Nat.le_refl _, Nat.le_refl _⟩) hS (fun r17 H locs hw hP hS => ?_)
                    refine wk_iadd hx hb dX12_steady_204 ?_
                    have q18 := hw.1
                    have hw := hw.2
                    refine wk_iald C0 hP (by decide) sh_69 q18.1 q18.2 (by decide) dX12_steady_205 ?_
                    refine lv_iload_n hx hb dX12_steady_206 rfl (lv_at hl 1 rfl) ?_
                    have q19 := hw.1
                    have hw := hw.2
                    have kX215 : ∀ v20 : Int, v20 = (if s16 69 (1 + r17).toNat = a1 then 1 else 0) → ∀ (ls : Array Slot), lv_has ls 5 [(0, .ref (ad 65)), (1, .int (iI a1)), (2, .int (iI y2_4)), (4, .int (iI y4_9))] → W p l e (rmL 3) s m A below meth c H locs 0 0 QQ (F0 m 215 ls [.int (iI v20), .int (iI y3_8)]) := by
                      intro v20 ev20 ls hl
                      have hw := hw v20 ev20
                      refine wk_iadd hx hb dX12_steady_215 ?_
                      refine wk_top (fun x3_21 ex3_21 => ?_)
                      have hw := hw x3_21 ex3_21
                      refine lv_istore_n (lv' := [(3, .int (iI x3_21)), (0, .ref (ad 65)), (1, .int (iI a1)), (2, .int (iI y2_4)), (4, .int (iI y4_9))]) hx hb dX12_steady_216 rfl hl (by decide) rfl (fun ls hl => ?_)
                      refine wk_iinc (lv' := fun x4_22 => [(4, .int (iI x4_22)), (3, .int (iI x3_21)), (0, .ref (ad 65)), (1, .int (iI a1)), (2, .int (iI y2_4))]) hx hb dX12_steady_217 hl (k := 4) rfl (by decide) (fun _ => rfl) (fun x4_22 ls ex4_22 hl => ?_)
                      have hw := hw x4_22 ex4_22
                      refine lv_goto (tgt := 168) hx hb dX12_steady_220 (by decide) ?_
                      obtain ⟨k23, hk23, hw⟩ := hw
                      exact ih168 k23 hk23 x3_21 x4_22 s16 _ _ _ hP hS (lv_sub hl [2, 3, 4, 1, 0] rfl) hw
                    refine wk_icmp_ne hx hb q19 q1 (tgt := 214) dX12_steady_207 (by decide) (fun hh24 => ?_) (fun hh24 => ?_)
                    · refine lv_iconst (v := iI 0) hx hb dX12_steady_214 rfl ?_
                      exact kX215 0 (by rw [if_neg hh24]) ls (lv_sub hl [0, 1, 2, 4] rfl)
                    · refine lv_iconst (v := iI 1) hx hb dX12_steady_210 rfl ?_
                      refine lv_goto (tgt := 215) hx hb dX12_steady_211 (by decide) ?_
                      exact kX215 1 (by rw [if_pos hh24]) ls (lv_sub hl [0, 1, 2, 4] rfl)
            obtain ⟨k25, hw⟩ := hw
            exact kI168 k25 0 0 s6 _ _ _ hP hS (lv_sub hl [2, 3, 4, 1, 0] rfl) hw
          refine wk_icmp_ge hx hb q7 ⟨by decide, by decide⟩ (tgt := 163) dX12_steady_40 (by decide) (fun hh => ?_) (fun hh => ?_)
          · have hw := hw.1 hh
            exact kX163  _ _ _ hP hS (lv_sub hl [0, 1, 2] rfl) hw
          · have hw := hw.2 hh
            refine lv_iload_n hx hb dX12_steady_43 rfl (lv_at hl 2 rfl) ?_
            refine lv_iconst (v := iI (-1)) hx hb dX12_steady_44 rfl ?_
            have q26 := hw.1
            have hw := hw.2
            refine wk_icmp_ne hx hb q26 ⟨by decide, by decide⟩ (tgt := 163) dX12_steady_45 (by decide) (fun hh => ?_) (fun hh => ?_)
            · have hw := hw.2 hh
              exact kX163  _ _ _ hP hS (lv_sub hl [0, 1, 2] rfl) hw
            · have hw := hw.1 hh
              refine lv_iload_n hx hb dX12_steady_48 rfl (lv_at hl 3 rfl) ?_
              refine lv_iconst (v := iI 1) hx hb dX12_steady_49 rfl ?_
              refine wk_isub hx hb dX12_steady_50 ?_
              refine wk_top (fun x4_27 ex4_27 => ?_)
              have hw := hw x4_27 ex4_27
              refine lv_istore (lv' := [(4, .int (iI x4_27)), (0, .ref (ad 65)), (1, .int (iI a1)), (2, .int (iI y2_4)), (3, .int (iI y3_5))]) hx hb dX12_steady_51 hl (by decide) rfl (fun ls hl => ?_)
              obtain ⟨I53, hI53, hw⟩ := hw
              have kI53 : ∀ (k53 : Nat) (y2_28 : Int) (y4_29 : Int) (H : Heap) (locs : List Loc) (ls : Array Slot), wP D cA ad s6 H → va_S (wA ad) s.heap H locs → lv_has ls 5 [(0, .ref (ad 65)), (1, .int (iI a1)), (2, .int (iI y2_28)), (3, .int (iI y3_5)), (4, .int (iI y4_29))] → I53 k53 y2_28 y4_29 → W p l e (rmL 3) s m A below meth c H locs 0 0 QQ (F0 m 53 ls []) := by
                intro k53
                induction k53 using Nat.strongRecOn with
                | _ k53 ih53 =>
                  intro y2_28 y4_29 H locs ls hP hS hl hw
                  have hw := hI53 k53 y2_28 y4_29 hw
                  refine lv_iload hx hb dX12_steady_53 (lv_at hl 4 rfl) ?_
                  have q30 := hw.1
                  have hw := hw.2
                  obtain ⟨X87, hX87, hw⟩ := hw
                  have kX87 : ∀ (H : Heap) (locs : List Loc) (ls : Array Slot), wP D cA ad s6 H → va_S (wA ad) s.heap H locs → lv_has ls 5 [(0, .ref (ad 65)), (1, .int (iI a1)), (2, .int (iI y2_28)), (3, .int (iI y3_5))] → X87 → W p l e (rmL 3) s m A below meth c H locs 0 0 QQ (F0 m 87 ls []) := by
                    intro H locs ls hP hS hl hw
                    have hw := hX87 hw
                    refine lv_iconst (v := iI 1) hx hb dX12_steady_87 rfl ?_
                    refine lv_istore (lv' := [(4, .int (iI 1)), (0, .ref (ad 65)), (1, .int (iI a1)), (2, .int (iI y2_28)), (3, .int (iI y3_5))]) hx hb dX12_steady_88 hl (by decide) rfl (fun ls hl => ?_)
                    obtain ⟨I90, hI90, hw⟩ := hw
                    have kI90 : ∀ (k90 : Nat) (y4_31 : Int) (s32 : Mem) (H : Heap) (locs : List Loc) (ls : Array Slot), wP D cA ad s32 H → va_S (wA ad) s.heap H locs → lv_has ls 5 [(0, .ref (ad 65)), (1, .int (iI a1)), (2, .int (iI y2_28)), (3, .int (iI y3_5)), (4, .int (iI y4_31))] → I90 k90 y4_31 s32 → W p l e (rmL 3) s m A below meth c H locs 0 0 QQ (F0 m 90 ls []) := by
                      intro k90
                      induction k90 using Nat.strongRecOn with
                      | _ k90 ih90 =>
                        intro y4_31 s32 H locs ls hP hS hl hw
                        have hw := hI90 k90 y4_31 s32 hw
                        refine lv_iload hx hb dX12_steady_90 (lv_at hl 4 rfl) ?_
                        refine lv_bipush (v := iI 13) hx hb dX12_steady_92 (by decide +kernel) ?_
                        have q33 := hw.1
                        have hw := hw.2
                        refine wk_icmp_ge hx hb q33 ⟨by decide, by decide⟩ (tgt := 124) dX12_steady_94 (by decide) (fun hh => ?_) (fun hh => ?_)
                        · have hw := hw.1 hh
                          refine lv_iconst (v := iI 0) hx hb dX12_steady_124 rfl ?_
                          refine lv_istore (lv' := [(4, .int (iI 0)), (0, .ref (ad 65)), (1, .int (iI a1)), (2, .int (iI y2_28)), (3, .int (iI y3_5))]) hx hb dX12_steady_125 hl (by decide) rfl (fun ls hl => ?_)
                          obtain ⟨I127, hI127, hw⟩ := hw
                          have kI127 : ∀ (k127 : Nat) (y4_34 : Int) (s35 : Mem) (H : Heap) (locs : List Loc) (ls : Array Slot), wP D cA ad s35 H → va_S (wA ad) s.heap H locs → lv_has ls 5 [(0, .ref (ad 65)), (1, .int (iI a1)), (2, .int (iI y2_28)), (3, .int (iI y3_5)), (4, .int (iI y4_34))] → I127 k127 y4_34 s35 → W p l e (rmL 3) s m A below meth c H locs 0 0 QQ (F0 m 127 ls []) := by
                            intro k127
                            induction k127 using Nat.strongRecOn with
                            | _ k127 ih127 =>
                              intro y4_34 s35 H locs ls hP hS hl hw
                              have hw := hI127 k127 y4_34 s35 hw
                              refine lv_iload hx hb dX12_steady_127 (lv_at hl 4 rfl) ?_
                              refine lv_aload_n hx hb dX12_steady_129 rfl (lv_at hl 0 rfl) ?_
                              refine wk_getR 67 C0 fl_X12_13 hP (by decide) sh_65 rfl dX12_steady_130 ?_
                              refine lv_iconst (v := iI 3) hx hb dX12_steady_133 rfl ?_
                              refine wk_iald C0 hP (by decide) sh_67 (by decide) (by decide) (by decide) dX12_steady_134 ?_
                              rw [show (3 : Int).toNat = 3 from rfl]
                              have q36 := hw.1
                              have hw := hw.2
                              have q37 := hw.1
                              have hw := hw.2
                              obtain ⟨X157, hX157, hw⟩ := hw
                              have kX157 : ∀ (H : Heap) (locs : List Loc) (ls : Array Slot), wP D cA ad s35 H → va_S (wA ad) s.heap H locs → lv_has ls 5 [(0, .ref (ad 65)), (1, .int (iI a1)), (2, .int (iI y2_28)), (3, .int (iI y3_5))] → X157 → W p l e (rmL 3) s m A below meth c H locs 0 0 QQ (F0 m 157 ls []) := by
                                intro H locs ls hP hS hl hw
                                have hw := hX157 hw
                                refine wk_iinc (lv' := fun x3_38 => [(3, .int (iI x3_38)), (0, .ref (ad 65)), (1, .int (iI a1)), (2, .int (iI y2_28))]) hx hb dX12_steady_157 hl (k := 3) rfl (by decide) (fun _ => rfl) (fun x3_38 ls ex3_38 hl => ?_)
                                have hw := hw x3_38 ex3_38
                                refine lv_goto (tgt := 36) hx hb dX12_steady_160 (by decide) ?_
                                obtain ⟨k39, hk39, hw⟩ := hw
                                exact ih36 k39 hk39 y2_28 x3_38 s35 _ _ _ hP hS (lv_sub hl [1, 2, 3, 0] rfl) hw
                              refine wk_icmp_ge hx hb q36 q37 (tgt := 157) dX12_steady_135 (by decide) (fun hh => ?_) (fun hh => ?_)
                              · have hw := hw.1 hh
                                exact kX157  _ _ _ hP hS (lv_sub hl [0, 1, 2, 3] rfl) hw
                              · have hw := hw.2 hh
                                refine lv_iload_n hx hb dX12_steady_138 rfl (lv_at hl 2 rfl) ?_
                                refine lv_iconst (v := iI (-1)) hx hb dX12_steady_139 rfl ?_
                                have q40 := hw.1
                                have hw := hw.2
                                refine wk_icmp_ne hx hb q40 ⟨by decide, by decide⟩ (tgt := 157) dX12_steady_140 (by decide) (fun hh => ?_) (fun hh => ?_)
                                · have hw := hw.2 hh
                                  exact kX157  _ _ _ hP hS (lv_sub hl [0, 1, 2, 3] rfl) hw
                                · have hw := hw.1 hh
                                  refine lv_aload_n hx hb dX12_steady_143 rfl (lv_at hl 0 rfl) ?_
                                  refine lv_aload_n hx hb dX12_steady_144 rfl (lv_at hl 0 rfl) ?_
                                  refine wk_rip (wk_callV (rest := [.ref (ad 65)]) C0 cl_X12_171 (ok_X12_lawful hI hw) hP (by decide) sh_65 rfl rfl rfl (Nat.le_of_ble_eq_true rfl) (wk_room (by decide) (by decide)) hl.1 dX12_steady_145 ⟨Nat.le_refl _, Nat.le_refl _⟩) hS (fun r41 H locs hw hP hS => ?_)
                                  refine wk_rv (wk_callV (rest := []) C0 cl_X12_166 (ok_X12_goesOn hI hw) hP (by decide) sh_65 rfl rfl rfl (Nat.le_of_ble_eq_true rfl) (wk_room (by decide) (by decide)) hl.1 dX12_steady_148 ⟨Nat.le_refl _, Nat.le_refl _⟩) hS (fun s42 H locs hw hP hS => ?_)
                                  refine wk_iinc (lv' := fun x4_43 => [(4, .int (iI x4_43)), (0, .ref (ad 65)), (1, .int (iI a1)), (2, .int (iI y2_28)), (3, .int (iI y3_5))]) hx hb dX12_steady_151 hl (k := 4) rfl (by decide) (fun _ => rfl) (fun x4_43 ls ex4_43 hl => ?_)
                                  have hw := hw x4_43 ex4_43
                                  refine lv_goto (tgt := 127) hx hb dX12_steady_154 (by decide) ?_
                                  obtain ⟨k44, hk44, hw⟩ := hw
                                  exact ih127 k44 hk44 x4_43 s42 _ _ _ hP hS (lv_sub hl [1, 2, 3, 4, 0] rfl) hw
                          obtain ⟨k45, hw⟩ := hw
                          exact kI127 k45 0 s32 _ _ _ hP hS (lv_sub hl [1, 2, 3, 4, 0] rfl) hw
                        · have hw := hw.2 hh
                          refine lv_aload_n hx hb dX12_steady_97 rfl (lv_at hl 0 rfl) ?_
                          refine wk_getR 76 C0 fl_X12_40 hP (by decide) sh_65 rfl dX12_steady_98 ?_
                          refine lv_bipush (v := iI 12) hx hb dX12_steady_101 (by decide +kernel) ?_
                          refine lv_iload_n hx hb dX12_steady_103 rfl (lv_at hl 3 rfl) ?_
                          refine wk_imul hx hb dX12_steady_104 ?_
                          refine lv_iload hx hb dX12_steady_105 (lv_at hl 4 rfl) ?_
                          refine wk_iadd hx hb dX12_steady_107 ?_
                          refine lv_iconst (v := iI 1) hx hb dX12_steady_108 rfl ?_
                          refine wk_isub hx hb dX12_steady_109 ?_
                          refine lv_aload_n hx hb dX12_steady_110 rfl (lv_at hl 0 rfl) ?_
                          refine wk_getR 69 C0 fl_X12_19 hP (by decide) sh_65 rfl dX12_steady_111 ?_
                          refine lv_iload hx hb dX12_steady_114 (lv_at hl 4 rfl) ?_
                          have q46 := hw.1
                          have hw := hw.2
                          refine wk_iald C0 hP (by decide) sh_69 q46.1 q46.2 (by decide) dX12_steady_116 ?_
                          have q47 := hw.1
                          have hw := hw.2
                          refine wk_iast C0 hP hS (by decide) sh_76 q47.1 q47.2 (by decide) dX12_steady_117 (fun s48 H locs es48 hP hS => ?_)
                          have hw := hw s48 es48
                          refine wk_iinc (lv' := fun x4_49 => [(4, .int (iI x4_49)), (0, .ref (ad 65)), (1, .int (iI a1)), (2, .int (iI y2_28)), (3, .int (iI y3_5))]) hx hb dX12_steady_118 hl (k := 4) rfl (by decide) (fun _ => rfl) (fun x4_49 ls ex4_49 hl => ?_)
                          have hw := hw x4_49 ex4_49
                          refine lv_goto (tgt := 90) hx hb dX12_steady_121 (by decide) ?_
                          obtain ⟨k50, hk50, hw⟩ := hw
                          exact ih90 k50 hk50 x4_49 s48 _ _ _ hP hS (lv_sub hl [1, 2, 3, 4, 0] rfl) hw
                    obtain ⟨k51, hw⟩ := hw
                    exact kI90 k51 1 s6 _ _ _ hP hS (lv_sub hl [1, 2, 3, 4, 0] rfl) hw
                  refine wk_if_lt hx hb q30 (tgt := 87) dX12_steady_55 (by decide) (fun hh => ?_) (fun hh => ?_)
                  · have hw := hw.1 hh
                    exact kX87  _ _ _ hP hS (lv_sub hl [0, 1, 2, 3] rfl) hw
                  · have hw := hw.2 hh
                    refine lv_iload_n hx hb dX12_steady_58 rfl (lv_at hl 2 rfl) ?_
                    refine lv_iconst (v := iI (-1)) hx hb dX12_steady_59 rfl ?_
                    have q52 := hw.1
                    have hw := hw.2
                    refine wk_icmp_ne hx hb q52 ⟨by decide, by decide⟩ (tgt := 87) dX12_steady_60 (by decide) (fun hh => ?_) (fun hh => ?_)
                    · have hw := hw.2 hh
                      exact kX87  _ _ _ hP hS (lv_sub hl [0, 1, 2, 3] rfl) hw
                    · have hw := hw.1 hh
                      refine lv_aload_n hx hb dX12_steady_63 rfl (lv_at hl 0 rfl) ?_
                      refine lv_iload hx hb dX12_steady_64 (lv_at hl 4 rfl) ?_
                      refine wk_rip (wk_callV (rest := []) C0 cl_X12_213 (ok_X12_isState hI hw) hP (by decide) sh_65 rfl rfl rfl (Nat.le_of_ble_eq_true rfl) (wk_room (by decide) (by decide)) hl.1 dX12_steady_66 ⟨Nat.le_refl _, Nat.le_refl _⟩) hS (fun r53 H locs hw hP hS => ?_)
                      have q54 := hw.1
                      have hw := hw.2
                      have kX80 : ∀ v55 : Int, v55 = (if r53 = 0 then (-1) else y3_5 - y4_29) → ∀ (ls : Array Slot), lv_has ls 5 [(0, .ref (ad 65)), (1, .int (iI a1)), (3, .int (iI y3_5)), (4, .int (iI y4_29))] → W p l e (rmL 3) s m A below meth c H locs 0 0 QQ (F0 m 80 ls [.int (iI v55)]) := by
                        intro v55 ev55 ls hl
                        have hw := hw v55 ev55
                        refine lv_istore_n (lv' := [(2, .int (iI v55)), (0, .ref (ad 65)), (1, .int (iI a1)), (3, .int (iI y3_5)), (4, .int (iI y4_29))]) hx hb dX12_steady_80 rfl hl (by decide) rfl (fun ls hl => ?_)
                        refine wk_iinc (lv' := fun x4_56 => [(4, .int (iI x4_56)), (2, .int (iI v55)), (0, .ref (ad 65)), (1, .int (iI a1)), (3, .int (iI y3_5))]) hx hb dX12_steady_81 hl (k := 4) rfl (by decide) (fun _ => rfl) (fun x4_56 ls ex4_56 hl => ?_)
                        have hw := hw x4_56 ex4_56
                        refine lv_goto (tgt := 53) hx hb dX12_steady_84 (by decide) ?_
                        obtain ⟨k57, hk57, hw⟩ := hw
                        exact ih53 k57 hk57 v55 x4_56 _ _ _ hP hS (lv_sub hl [2, 3, 1, 4, 0] rfl) hw
                      refine wk_if_eq hx hb q54 (tgt := 79) dX12_steady_69 (by decide) (fun hh58 => ?_) (fun hh58 => ?_)
                      · refine lv_iconst (v := iI (-1)) hx hb dX12_steady_79 rfl ?_
                        exact kX80 (-1) (by rw [if_pos hh58]) ls (lv_sub hl [0, 1, 3, 4] rfl)
                      · refine lv_iload_n hx hb dX12_steady_72 rfl (lv_at hl 3 rfl) ?_
                        refine lv_iload hx hb dX12_steady_73 (lv_at hl 4 rfl) ?_
                        refine wk_isub hx hb dX12_steady_75 ?_
                        refine lv_goto (tgt := 80) hx hb dX12_steady_76 (by decide) ?_
                        exact kX80 (y3_5 - y4_29) (by rw [if_neg hh58]) ls (lv_sub hl [0, 1, 3, 4] rfl)
              obtain ⟨k59, hw⟩ := hw
              exact kI53 k59 y2_4 x4_27 _ _ _ hP hS (lv_sub hl [1, 2, 3, 4, 0] rfl) hw
      obtain ⟨k60, hw⟩ := hw
      exact kI36 k60 (-1) 0 s3 _ _ _ hP hS (lv_sub hl [2, 3, 1, 0] rfl) hw
    · have hw := hw.1 hh
      refine lv_ldc (own := RX12) (v := iI (-1000000003)) hx hb hown (htb _ ki_X12_158) dX12_steady_25 ?_
      exact hret _ _ _ _ _ _ hw hP hS dX12_steady_27
  refine wk_icmp_eq hx hb q1 ⟨by decide, by decide⟩ (tgt := 16) dX12_steady_2 (by decide) (fun hh => ?_) (fun hh => ?_)
  · have hw := hw.1 hh
    exact kX16  _ _ _ hP hS (lv_sub hl [0, 1] rfl) hw
  · have hw := hw.2 hh
    refine lv_aload_n hx hb dX12_steady_5 rfl (lv_at hl 0 rfl) ?_
    refine lv_iload_n hx hb dX12_steady_6 rfl (lv_at hl 1 rfl) ?_
    refine wk_rip (wk_callV (rest := []) C0 cl_X12_153 (ok_X12_isSleeper hI hw) hP (by decide) sh_65 rfl rfl rfl (Nat.le_of_ble_eq_true rfl) (wk_room (by decide) (by decide)) hl.1 dX12_steady_7 ⟨Nat.le_refl _, Nat.le_refl _⟩) hS (fun r61 H locs hw hP hS => ?_)
    have q62 := hw.1
    have hw := hw.2
    refine wk_if_ne hx hb q62 (tgt := 16) dX12_steady_10 (by decide) (fun hh => ?_) (fun hh => ?_)
    · have hw := hw.2 hh
      exact kX16  _ _ _ hP hS (lv_sub hl [0, 1] rfl) hw
    · have hw := hw.1 hh
      refine lv_ldc (own := RX12) (v := iI (-1000000001)) hx hb hown (htb _ ki_X12_152) dX12_steady_13 ?_
      exact hret _ _ _ _ _ _ hw hP hS dX12_steady_15

set_option maxRecDepth 100000 in
set_option maxHeartbeats 4000000 in
theorem ok_X12_twoBeds {l : Launch} {D : va_G} {cA : Nat → ClassId} {ad : Nat → Nat} (hI : wI ad) {a1 : Int} {sg : Mem} {Q : Int → Prop} (hw : wp_X12_twoBeds a1 sg Q) : wMi l D cA ad yX12_twoBeds cX12_twoBeds 8 (some .int) 2 [.ref (ad 65), .int (iI a1)] sg (fun z u => u = sg ∧ Q z) := by
  refine wk_ofI (by decide) hI (Nat.le_of_ble_eq_true rfl) ?_
  intro p e s m below meth c A QQ ls C0 hret hl hP
  have hx := C0.1
  have hb := C0.2.1
  have hown := C0.2.2.2.1
  have htb := C0.2.2.2.2.1
  have hl : lv_has ls 8 [(0, .ref (ad 65)), (1, .int (iI a1))] := hl
  refine (fun (key : ∀ (H : Heap) (locs : List Loc), wP D cA ad sg H → va_S (wA ad) s.heap H locs → W p l e (rmL 2) s m A below meth c H locs 0 0 QQ (F0 m 0 ls [])) => key _ _ hP va_S.rf) ?_
  intro H locs hP hS
  unfold wp_X12_twoBeds at hw
  refine lv_iload_n hx hb dX12_twoBeds_0 rfl (lv_at hl 1 rfl) ?_
  have q1 := hw.1
  have hw := hw.2
  refine wk_i2l hx hb q1 dX12_twoBeds_1 ?_
  refine lv_lconst (v := iL 0) hx hb dX12_twoBeds_2 rfl ?_
  refine lv_lconst (v := iL 1) hx hb dX12_twoBeds_3 rfl ?_
  refine wk_rip (wk_callS (rest := []) C0 cl_X12_67 (ok_X12_in hI hw) hP rfl rfl (Nat.le_of_ble_eq_true rfl) (wk_room (by decide) (by decide)) hl.1 dX12_twoBeds_4 ⟨Nat.le_refl _, Nat.le_refl _⟩) hS (fun r2 H locs hw hP hS => ?_)
  have q3 := hw.1
  have hw := hw.2
  refine wk_if_ne hx hb q3 (tgt := 13) dX12_twoBeds_7 (by decide) (fun hh => ?_) (fun hh => ?_)
  · have hw := hw.2 hh
    refine lv_aload_n hx hb dX12_twoBeds_13 rfl (lv_at hl 0 rfl) ?_
    refine wk_getR 67 C0 fl_X12_13 hP (by decide) sh_65 rfl dX12_twoBeds_14 ?_
    refine lv_iconst (v := iI 2) hx hb dX12_twoBeds_17 rfl ?_
    refine wk_iald C0 hP (by decide) sh_67 (by decide) (by decide) (by decide) dX12_twoBeds_18 ?_
    rw [show (2 : Int).toNat = 2 from rfl]
    have q4 := hw.1
    have hw := hw.2
    refine wk_if_ne hx hb q4 (tgt := 24) dX12_twoBeds_19 (by decide) (fun hh => ?_) (fun hh => ?_)
    · have hw := hw.2 hh
      refine lv_iconst (v := iI (-1)) hx hb dX12_twoBeds_24 rfl ?_
      refine lv_istore_n (lv' := [(2, .int (iI (-1))), (0, .ref (ad 65)), (1, .int (iI a1))]) hx hb dX12_twoBeds_25 rfl hl (by decide) rfl (fun ls hl => ?_)
      refine lv_iconst (v := iI 0) hx hb dX12_twoBeds_26 rfl ?_
      refine lv_istore_n (lv' := [(3, .int (iI 0)), (2, .int (iI (-1))), (0, .ref (ad 65)), (1, .int (iI a1))]) hx hb dX12_twoBeds_27 rfl hl (by decide) rfl (fun ls hl => ?_)
      refine lv_iconst (v := iI 1) hx hb dX12_twoBeds_28 rfl ?_
      refine lv_istore (lv' := [(4, .int (iI 1)), (3, .int (iI 0)), (2, .int (iI (-1))), (0, .ref (ad 65)), (1, .int (iI a1))]) hx hb dX12_twoBeds_29 hl (by decide) rfl (fun ls hl => ?_)
      obtain ⟨I31, hI31, hw⟩ := hw
      have kI31 : ∀ (k31 : Nat) (y2_5 : Int) (y3_6 : Int) (y4_7 : Int) (H : Heap) (locs : List Loc) (ls : Array Slot), wP D cA ad sg H → va_S (wA ad) s.heap H locs → lv_has ls 8 [(0, .ref (ad 65)), (1, .int (iI a1)), (2, .int (iI y2_5)), (3, .int (iI y3_6)), (4, .int (iI y4_7))] → I31 k31 y2_5 y3_6 y4_7 → W p l e (rmL 2) s m A below meth c H locs 0 0 QQ (F0 m 31 ls []) := by
        intro k31
        induction k31 using Nat.strongRecOn with
        | _ k31 ih31 =>
          intro y2_5 y3_6 y4_7 H locs ls hP hS hl hw
          have hw := hI31 k31 y2_5 y3_6 y4_7 hw
          refine lv_iload hx hb dX12_twoBeds_31 (lv_at hl 4 rfl) ?_
          refine lv_iconst (v := iI 1) hx hb dX12_twoBeds_33 rfl ?_
          refine lv_aload_n hx hb dX12_twoBeds_34 rfl (lv_at hl 0 rfl) ?_
          refine wk_getR 67 C0 fl_X12_13 hP (by decide) sh_65 rfl dX12_twoBeds_35 ?_
          refine lv_iconst (v := iI 2) hx hb dX12_twoBeds_38 rfl ?_
          refine wk_iald C0 hP (by decide) sh_67 (by decide) (by decide) (by decide) dX12_twoBeds_39 ?_
          rw [show (2 : Int).toNat = 2 from rfl]
          refine wk_ishl hx hb dX12_twoBeds_40 ?_
          have q8 := hw.1
          have hw := hw.2
          have q9 := hw.1
          have hw := hw.2
          refine wk_icmp_ge hx hb q8 q9 (tgt := 162) dX12_twoBeds_41 (by decide) (fun hh => ?_) (fun hh => ?_)
          · have hw := hw.1 hh
            refine lv_iload_n hx hb dX12_twoBeds_162 rfl (lv_at hl 1 rfl) ?_
            refine wk_if_ne hx hb q1 (tgt := 170) dX12_twoBeds_163 (by decide) (fun hh => ?_) (fun hh => ?_)
            · have hw := hw.2 hh
              refine lv_iload_n hx hb dX12_twoBeds_170 rfl (lv_at hl 2 rfl) ?_
              exact hret _ _ _ _ _ _ ⟨rfl, hw⟩ hP hS dX12_twoBeds_171
            · have hw := hw.1 hh
              refine lv_iload_n hx hb dX12_twoBeds_166 rfl (lv_at hl 3 rfl) ?_
              refine lv_goto (tgt := 171) hx hb dX12_twoBeds_167 (by decide) ?_
              exact hret _ _ _ _ _ _ ⟨rfl, hw⟩ hP hS dX12_twoBeds_171
          · have hw := hw.2 hh
            refine lv_iconst (v := iI 0) hx hb dX12_twoBeds_44 rfl ?_
            refine lv_istore (lv' := [(5, .int (iI 0)), (0, .ref (ad 65)), (1, .int (iI a1)), (2, .int (iI y2_5)), (3, .int (iI y3_6)), (4, .int (iI y4_7))]) hx hb dX12_twoBeds_45 hl (by decide) rfl (fun ls hl => ?_)
            refine lv_iconst (v := iI 0) hx hb dX12_twoBeds_47 rfl ?_
            refine lv_istore (lv' := [(6, .int (iI 0)), (5, .int (iI 0)), (0, .ref (ad 65)), (1, .int (iI a1)), (2, .int (iI y2_5)), (3, .int (iI y3_6)), (4, .int (iI y4_7))]) hx hb dX12_twoBeds_48 hl (by decide) rfl (fun ls hl => ?_)
            obtain ⟨I50, hI50, hw⟩ := hw
            have kI50 : ∀ (k50 : Nat) (y5_10 : Int) (y6_11 : Int) (H : Heap) (locs : List Loc) (ls : Array Slot), wP D cA ad sg H → va_S (wA ad) s.heap H locs → lv_has ls 8 [(0, .ref (ad 65)), (1, .int (iI a1)), (2, .int (iI y2_5)), (3, .int (iI y3_6)), (4, .int (iI y4_7)), (5, .int (iI y5_10)), (6, .int (iI y6_11))] → I50 k50 y5_10 y6_11 → W p l e (rmL 2) s m A below meth c H locs 0 0 QQ (F0 m 50 ls []) := by
              intro k50
              induction k50 using Nat.strongRecOn with
              | _ k50 ih50 =>
                intro y5_10 y6_11 H locs ls hP hS hl hw
                have hw := hI50 k50 y5_10 y6_11 hw
                refine lv_iload hx hb dX12_twoBeds_50 (lv_at hl 6 rfl) ?_
                refine lv_aload_n hx hb dX12_twoBeds_52 rfl (lv_at hl 0 rfl) ?_
                refine wk_getR 67 C0 fl_X12_13 hP (by decide) sh_65 rfl dX12_twoBeds_53 ?_
                refine lv_iconst (v := iI 2) hx hb dX12_twoBeds_56 rfl ?_
                refine wk_iald C0 hP (by decide) sh_67 (by decide) (by decide) (by decide) dX12_twoBeds_57 ?_
                rw [show (2 : Int).toNat = 2 from rfl]
                have q12 := hw.1
                have hw := hw.2
                refine wk_icmp_ge hx hb q12 q4 (tgt := 99) dX12_twoBeds_58 (by decide) (fun hh => ?_) (fun hh => ?_)
                · have hw := hw.1 hh
                  refine lv_iload hx hb dX12_twoBeds_99 (lv_at hl 5 rfl) ?_
                  have q13 := hw.1
                  have hw := hw.2
                  have kX112 : ∀ v14 : Int, v14 = (if 0 ≤ y5_10 then y5_10 else -y5_10) → ∀ (ls : Array Slot), lv_has ls 8 [(0, .ref (ad 65)), (1, .int (iI a1)), (2, .int (iI y2_5)), (3, .int (iI y3_6)), (4, .int (iI y4_7))] → W p l e (rmL 2) s m A below meth c H locs 0 0 QQ (F0 m 112 ls [.int (iI v14)]) := by
                    intro v14 ev14 ls hl
                    have hw := hw v14 ev14
                    refine lv_istore (lv' := [(6, .int (iI v14)), (0, .ref (ad 65)), (1, .int (iI a1)), (2, .int (iI y2_5)), (3, .int (iI y3_6)), (4, .int (iI y4_7))]) hx hb dX12_twoBeds_112 hl (by decide) rfl (fun ls hl => ?_)
                    refine lv_iload_n hx hb dX12_twoBeds_114 rfl (lv_at hl 3 rfl) ?_
                    refine lv_iconst (v := iI (-1)) hx hb dX12_twoBeds_115 rfl ?_
                    have q15 := hw.1
                    have hw := hw.2
                    have hs := hw.1
                    have hw := hw.2
                    have kX130 : ∀ v18 : Int, v18 = (if y2_5 = (-1) then 1 else if y3_6 ≤ v14 then 0 else 1) → ∀ (ls : Array Slot), lv_has ls 8 [(0, .ref (ad 65)), (1, .int (iI a1)), (2, .int (iI y2_5)), (3, .int (iI y3_6)), (4, .int (iI y4_7)), (6, .int (iI v14))] → W p l e (rmL 2) s m A below meth c H locs 0 0 QQ (F0 m 130 ls [.int (iI v18)]) := by
                      intro v18 ev18 ls hl
                      have hw := hw v18 ev18
                      refine lv_istore (lv' := [(7, .int (iI v18)), (0, .ref (ad 65)), (1, .int (iI a1)), (2, .int (iI y2_5)), (3, .int (iI y3_6)), (4, .int (iI y4_7)), (6, .int (iI v14))]) hx hb dX12_twoBeds_130 hl (by decide) rfl (fun ls hl => ?_)
                      refine lv_iload hx hb dX12_twoBeds_132 (lv_at hl 0 rfl) ?_
                      have q19 := hw.1
                      have hw := hw.2
                      have kX143 : ∀ v20 : Int, v20 = (if v18 = 0 then y2_5 else y4_7) → ∀ (ls : Array Slot), lv_has ls 8 [(0, .ref (ad 65)), (1, .int (iI a1)), (3, .int (iI y3_6)), (4, .int (iI y4_7)), (6, .int (iI v14)), (7, .int (iI v18))] → W p l e (rmL 2) s m A below meth c H locs 0 0 QQ (F0 m 143 ls [.int (iI v20)]) := by
                        intro v20 ev20 ls hl
                        have hw := hw v20 ev20
                        refine lv_istore_n (lv' := [(2, .int (iI v20)), (0, .ref (ad 65)), (1, .int (iI a1)), (3, .int (iI y3_6)), (4, .int (iI y4_7)), (6, .int (iI v14)), (7, .int (iI v18))]) hx hb dX12_twoBeds_143 rfl hl (by decide) rfl (fun ls hl => ?_)
                        refine lv_iload hx hb dX12_twoBeds_144 (lv_at hl 6 rfl) ?_
                        have kX155 : ∀ v21 : Int, v21 = (if v18 = 0 then y3_6 else v14) → ∀ (ls : Array Slot), lv_has ls 8 [(0, .ref (ad 65)), (1, .int (iI a1)), (2, .int (iI v20)), (4, .int (iI y4_7))] → W p l e (rmL 2) s m A below meth c H locs 0 0 QQ (F0 m 155 ls [.int (iI v21)]) := by
                          intro v21 ev21 ls hl
                          have hw := hw v21 ev21
                          refine lv_istore_n (lv' := [(3, .int (iI v21)), (0, .ref (ad 65)), (1, .int (iI a1)), (2, .int (iI v20)), (4, .int (iI y4_7))]) hx hb dX12_twoBeds_155 rfl hl (by decide) rfl (fun ls hl => ?_)
                          refine wk_iinc (lv' := fun x4_22 => [(4, .int (iI x4_22)), (3, .int (iI v21)), (0, .ref (ad 65)), (1, .int (iI a1)), (2, .int (iI v20))]) hx hb dX12_twoBeds_156 hl (k := 4) rfl (by decide) (fun _ => rfl) (fun x4_22 ls ex4_22 hl => ?_)
                          have hw := hw x4_22 ex4_22
                          refine lv_goto (tgt := 31) hx hb dX12_twoBeds_159 (by decide) ?_
                          obtain ⟨k23, hk23, hw⟩ := hw
                          exact ih31 k23 hk23 v20 v21 x4_22 _ _ _ hP hS (lv_sub hl [2, 3, 4, 1, 0] rfl) hw
                        refine wk_if_eq hx hb q19 (tgt := 154) dX12_twoBeds_146 (by decide) (fun hh24 => ?_) (fun hh24 => ?_)
                        · refine lv_iload_n hx hb dX12_twoBeds_154 rfl (lv_at hl 3 rfl) ?_
                          exact kX155 y3_6 (by rw [if_pos hh24]) ls (lv_sub hl [1, 2, 0, 4] rfl)
                        · refine lv_iload hx hb dX12_twoBeds_149 (lv_at hl 5 rfl) ?_
                          refine lv_goto (tgt := 155) hx hb dX12_twoBeds_151 (by decide) ?_
                          exact kX155 v14 (by rw [if_neg hh24]) ls (lv_sub hl [1, 2, 0, 4] rfl)
                      refine wk_if_eq hx hb q19 (tgt := 142) dX12_twoBeds_134 (by decide) (fun hh25 => ?_) (fun hh25 => ?_)
                      · refine lv_iload_n hx hb dX12_twoBeds_142 rfl (lv_at hl 3 rfl) ?_
                        exact kX143 y2_5 (by rw [if_pos hh25]) ls (lv_sub hl [1, 2, 4, 5, 6, 0] rfl)
                      · refine lv_iload hx hb dX12_twoBeds_137 (lv_at hl 5 rfl) ?_
                        refine lv_goto (tgt := 143) hx hb dX12_twoBeds_139 (by decide) ?_
                        exact kX143 y4_7 (by rw [if_neg hh25]) ls (lv_sub hl [1, 2, 4, 5, 6, 0] rfl)
                    refine wk_icmp_eq hx hb q15 ⟨by decide, by decide⟩ (tgt := 125) dX12_twoBeds_116 (by decide) (fun hh26 => ?_) (fun hh26 => ?_)
                    · refine lv_iconst (v := iI 1) hx hb dX12_twoBeds_125 rfl ?_
                      refine lv_goto (tgt := 130) hx hb dX12_twoBeds_126 (by decide) ?_
                      exact kX130 1 (by rw [if_pos hh26]) ls (lv_sub hl [1, 2, 3, 4, 5, 0] rfl)
                    · have hs := hs.2 hh26
                      refine lv_iload hx hb dX12_twoBeds_119 (lv_at hl 0 rfl) ?_
                      refine lv_iload_n hx hb dX12_twoBeds_121 rfl (lv_at hl 4 rfl) ?_
                      have q16 := hs.1
                      have hs := hs.2
                      have q17 := hs
                      refine wk_icmp_ge hx hb q16 q17 (tgt := 129) dX12_twoBeds_122 (by decide) (fun hh27 => ?_) (fun hh27 => ?_)
                      · refine lv_iconst (v := iI 0) hx hb dX12_twoBeds_129 rfl ?_
                        exact kX130 0 (by rw [if_neg hh26, if_pos hh27]) ls (lv_sub hl [1, 2, 3, 4, 5, 0] rfl)
                      · refine lv_iconst (v := iI 1) hx hb dX12_twoBeds_125 rfl ?_
                        refine lv_goto (tgt := 130) hx hb dX12_twoBeds_126 (by decide) ?_
                        exact kX130 1 (by rw [if_neg hh26, if_neg hh27]) ls (lv_sub hl [1, 2, 3, 4, 5, 0] rfl)
                  refine wk_if_ge hx hb q13 (tgt := 110) dX12_twoBeds_101 (by decide) (fun hh28 => ?_) (fun hh28 => ?_)
                  · refine lv_iload hx hb dX12_twoBeds_110 (lv_at hl 5 rfl) ?_
                    exact kX112 y5_10 (by rw [if_pos hh28]) ls (lv_sub hl [0, 1, 2, 3, 4] rfl)
                  · refine lv_iload hx hb dX12_twoBeds_104 (lv_at hl 5 rfl) ?_
                    refine wk_ineg hx hb dX12_twoBeds_106 ?_
                    refine lv_goto (tgt := 112) hx hb dX12_twoBeds_107 (by decide) ?_
                    exact kX112 (-y5_10) (by rw [if_neg hh28]) ls (lv_sub hl [0, 1, 2, 3, 4] rfl)
                · have hw := hw.2 hh
                  refine lv_iload hx hb dX12_twoBeds_61 (lv_at hl 5 rfl) ?_
                  refine lv_iload hx hb dX12_twoBeds_63 (lv_at hl 4 rfl) ?_
                  refine lv_iload hx hb dX12_twoBeds_65 (lv_at hl 6 rfl) ?_
                  refine wk_ishr hx hb dX12_twoBeds_67 ?_
                  refine lv_iconst (v := iI 1) hx hb dX12_twoBeds_68 rfl ?_
                  refine wk_iand hx hb dX12_twoBeds_69 ?_
                  refine lv_iconst (v := iI 1) hx hb dX12_twoBeds_70 rfl ?_
                  have q29 := hw.1
                  have hw := hw.2
                  obtain ⟨X90, hX90, hw⟩ := hw
                  have kX90 : ∀ (v30 : Int) (H : Heap) (locs : List Loc) (ls : Array Slot), wP D cA ad sg H → va_S (wA ad) s.heap H locs → lv_has ls 8 [(0, .ref (ad 65)), (1, .int (iI a1)), (2, .int (iI y2_5)), (3, .int (iI y3_6)), (4, .int (iI y4_7)), (6, .int (iI y6_11))] → X90 v30 → W p l e (rmL 2) s m A below meth c H locs 0 0 QQ (F0 m 90 ls [.int (iI v30), .int (iI y5_10)]) := by
                    intro v30 H locs ls hP hS hl hw
                    have hw := hX90 v30 hw
                    refine wk_iadd hx hb dX12_twoBeds_90 ?_
                    refine wk_top (fun x5_31 ex5_31 => ?_)
                    have hw := hw x5_31 ex5_31
                    refine lv_istore (lv' := [(5, .int (iI x5_31)), (0, .ref (ad 65)), (1, .int (iI a1)), (2, .int (iI y2_5)), (3, .int (iI y3_6)), (4, .int (iI y4_7)), (6, .int (iI y6_11))]) hx hb dX12_twoBeds_91 hl (by decide) rfl (fun ls hl => ?_)
                    refine wk_iinc (lv' := fun x6_32 => [(6, .int (iI x6_32)), (5, .int (iI x5_31)), (0, .ref (ad 65)), (1, .int (iI a1)), (2, .int (iI y2_5)), (3, .int (iI y3_6)), (4, .int (iI y4_7))]) hx hb dX12_twoBeds_93 hl (k := 6) rfl (by decide) (fun _ => rfl) (fun x6_32 ls ex6_32 hl => ?_)
                    have hw := hw x6_32 ex6_32
                    refine lv_goto (tgt := 50) hx hb dX12_twoBeds_96 (by decide) ?_
                    obtain ⟨k33, hk33, hw⟩ := hw
                    exact ih50 k33 hk33 x5_31 x6_32 _ _ _ hP hS (lv_sub hl [2, 3, 4, 5, 6, 1, 0] rfl) hw
                  refine wk_icmp_ne hx hb q29 ⟨by decide, by decide⟩ (tgt := 83) dX12_twoBeds_71 (by decide) (fun hh => ?_) (fun hh => ?_)
                  · have hw := hw.2 hh
                    refine lv_aload_n hx hb dX12_twoBeds_83 rfl (lv_at hl 0 rfl) ?_
                    refine lv_iload hx hb dX12_twoBeds_84 (lv_at hl 6 rfl) ?_
                    refine wk_rip (wk_callV (rest := [.int (iI y5_10)]) C0 cl_X12_139 (ok_X12_gives hI hw) hP (by decide) sh_65 rfl rfl rfl (Nat.le_of_ble_eq_true rfl) (wk_room (by decide) (by decide)) hl.1 dX12_twoBeds_86 ⟨Nat.le_refl _, Nat.le_refl _⟩) hS (fun r35 H locs hw hP hS => ?_)
                    refine wk_ineg hx hb dX12_twoBeds_89 ?_
                    exact kX90 (-r35) _ _ _ hP hS (lv_sub hl [0, 1, 2, 3, 4, 6] rfl) hw
                  · have hw := hw.1 hh
                    refine lv_aload_n hx hb dX12_twoBeds_74 rfl (lv_at hl 0 rfl) ?_
                    refine lv_iload hx hb dX12_twoBeds_75 (lv_at hl 6 rfl) ?_
                    refine wk_rip (wk_callV (rest := [.int (iI y5_10)]) C0 cl_X12_139 (ok_X12_gives hI hw) hP (by decide) sh_65 rfl rfl rfl (Nat.le_of_ble_eq_true rfl) (wk_room (by decide) (by decide)) hl.1 dX12_twoBeds_77 ⟨Nat.le_refl _, Nat.le_refl _⟩) hS (fun r34 H locs hw hP hS => ?_)
                    refine lv_goto (tgt := 90) hx hb dX12_twoBeds_80 (by decide) ?_
                    exact kX90 r34 _ _ _ hP hS (lv_sub hl [0, 1, 2, 3, 4, 6] rfl) hw
            obtain ⟨k36, hw⟩ := hw
            exact kI50 k36 0 0 _ _ _ hP hS (lv_sub hl [2, 3, 4, 5, 6, 1, 0] rfl) hw
      obtain ⟨k37, hw⟩ := hw
      exact kI31 k37 (-1) 0 1 _ _ _ hP hS (lv_sub hl [3, 4, 2, 1, 0] rfl) hw
    · have hw := hw.1 hh
      refine lv_iconst (v := iI (-1)) hx hb dX12_twoBeds_22 rfl ?_
      exact hret _ _ _ _ _ _ ⟨rfl, hw⟩ hP hS dX12_twoBeds_23
  · have hw := hw.1 hh
    refine lv_ldc (own := RX12) (v := iI (-1000000002)) hx hb hown (htb _ ki_X12_71) dX12_twoBeds_10 ?_
    exact hret _ _ _ _ _ _ ⟨rfl, hw⟩ hP hS dX12_twoBeds_12

set_option maxRecDepth 100000 in
set_option maxHeartbeats 4000000 in
theorem ok_X12_nobodyUp {l : Launch} {D : va_G} {cA : Nat → ClassId} {ad : Nat → Nat} (hI : wI ad) {a1 : Int} {a2 : Int} {sg : Mem} {Q : Int → Prop} (hw : wp_X12_nobodyUp a1 a2 sg Q) : wMi l D cA ad yX12_nobodyUp cX12_nobodyUp 7 (some .int) 2 [.ref (ad 65), .int (iI a1), .int (iI a2)] sg (fun z u => u = sg ∧ Q z) := by
  refine wk_ofI (by decide) hI (Nat.le_of_ble_eq_true rfl) ?_
  intro p e s m below meth c A QQ ls C0 hret hl hP
  have hx := C0.1
  have hb := C0.2.1
  have hown := C0.2.2.2.1
  have htb := C0.2.2.2.2.1
  have hl : lv_has ls 7 [(0, .ref (ad 65)), (1, .int (iI a1)), (2, .int (iI a2))] := hl
  refine (fun (key : ∀ (H : Heap) (locs : List Loc), wP D cA ad sg H → va_S (wA ad) s.heap H locs → W p l e (rmL 2) s m A below meth c H locs 0 0 QQ (F0 m 0 ls [])) => key _ _ hP va_S.rf) ?_
  intro H locs hP hS
  unfold wp_X12_nobodyUp at hw
  refine lv_iload_n hx hb dX12_nobodyUp_0 rfl (lv_at hl 1 rfl) ?_
  have q1 := hw.1
  have hw := hw.2
  refine wk_i2l hx hb q1 dX12_nobodyUp_1 ?_
  refine lv_lconst (v := iL 1) hx hb dX12_nobodyUp_2 rfl ?_
  refine lv_ldc2 (own := RX12) (v := iL 50) hx hb hown (htb _ kl_X12_219) dX12_nobodyUp_3 ?_
  refine wk_rip (wk_callS (rest := []) C0 cl_X12_67 (ok_X12_in hI hw) hP rfl rfl (Nat.le_of_ble_eq_true rfl) (wk_room (by decide) (by decide)) hl.1 dX12_nobodyUp_6 ⟨Nat.le_refl _, Nat.le_refl _⟩) hS (fun r2 H locs hw hP hS => ?_)
  have q3 := hw.1
  have hw := hw.2
  refine wk_if_eq hx hb q3 (tgt := 24) dX12_nobodyUp_9 (by decide) (fun hh => ?_) (fun hh => ?_)
  · have hw := hw.1 hh
    refine lv_ldc (own := RX12) (v := iI (-1000000002)) hx hb hown (htb _ ki_X12_71) dX12_nobodyUp_24 ?_
    exact hret _ _ _ _ _ _ ⟨rfl, hw⟩ hP hS dX12_nobodyUp_26
  · have hw := hw.2 hh
    refine lv_iload_n hx hb dX12_nobodyUp_12 rfl (lv_at hl 2 rfl) ?_
    have q4 := hw.1
    have hw := hw.2
    refine wk_i2l hx hb q4 dX12_nobodyUp_13 ?_
    refine lv_lconst (v := iL 0) hx hb dX12_nobodyUp_14 rfl ?_
    refine lv_ldc2 (own := RX12) (v := iL 1000) hx hb hown (htb _ kl_X12_221) dX12_nobodyUp_15 ?_
    refine wk_rip (wk_callS (rest := []) C0 cl_X12_67 (ok_X12_in hI hw) hP rfl rfl (Nat.le_of_ble_eq_true rfl) (wk_room (by decide) (by decide)) hl.1 dX12_nobodyUp_18 ⟨Nat.le_refl _, Nat.le_refl _⟩) hS (fun r5 H locs hw hP hS => ?_)
    have q6 := hw.1
    have hw := hw.2
    refine wk_if_ne hx hb q6 (tgt := 27) dX12_nobodyUp_21 (by decide) (fun hh => ?_) (fun hh => ?_)
    · have hw := hw.2 hh
      refine lv_ldc2 (own := RX12) (v := iL 1000000000) hx hb hown (htb _ kl_X12_223) dX12_nobodyUp_27 ?_
      refine lv_lstore_n (lv' := [(3, .long (iL 1000000000)), (0, .ref (ad 65)), (1, .int (iI a1)), (2, .int (iI a2))]) hx hb dX12_nobodyUp_30 rfl hl (by decide) rfl (fun ls hl => ?_)
      refine lv_iconst (v := iI 0) hx hb dX12_nobodyUp_31 rfl ?_
      refine lv_istore (lv' := [(5, .int (iI 0)), (3, .long (iL 1000000000)), (0, .ref (ad 65)), (1, .int (iI a1)), (2, .int (iI a2))]) hx hb dX12_nobodyUp_32 hl (by decide) rfl (fun ls hl => ?_)
      obtain ⟨I34, hI34, hw⟩ := hw
      have kI34 : ∀ (k34 : Nat) (y3_7 : Int) (y5_8 : Int) (H : Heap) (locs : List Loc) (ls : Array Slot), wP D cA ad sg H → va_S (wA ad) s.heap H locs → lv_has ls 7 [(0, .ref (ad 65)), (1, .int (iI a1)), (2, .int (iI a2)), (3, .long (iL y3_7)), (5, .int (iI y5_8))] → I34 k34 y3_7 y5_8 → W p l e (rmL 2) s m A below meth c H locs 0 0 QQ (F0 m 34 ls []) := by
        intro k34
        induction k34 using Nat.strongRecOn with
        | _ k34 ih34 =>
          intro y3_7 y5_8 H locs ls hP hS hl hw
          have hw := hI34 k34 y3_7 y5_8 hw
          refine lv_iload hx hb dX12_nobodyUp_34 (lv_at hl 4 rfl) ?_
          refine lv_aload_n hx hb dX12_nobodyUp_36 rfl (lv_at hl 0 rfl) ?_
          refine wk_getR 67 C0 fl_X12_13 hP (by decide) sh_65 rfl dX12_nobodyUp_37 ?_
          refine lv_iconst (v := iI 0) hx hb dX12_nobodyUp_40 rfl ?_
          refine wk_iald C0 hP (by decide) sh_67 (by decide) (by decide) (by decide) dX12_nobodyUp_41 ?_
          rw [show (0 : Int).toNat = 0 from rfl]
          have q9 := hw.1
          have hw := hw.2
          have q10 := hw.1
          have hw := hw.2
          refine wk_icmp_ge hx hb q9 q10 (tgt := 92) dX12_nobodyUp_42 (by decide) (fun hh => ?_) (fun hh => ?_)
          · have hw := hw.1 hh
            refine lv_lload_n hx hb dX12_nobodyUp_92 rfl (lv_at hl 3 rfl) ?_
            refine wk_l2i hx hb dX12_nobodyUp_93 ?_
            exact hret _ _ _ _ _ _ ⟨rfl, hw⟩ hP hS dX12_nobodyUp_94
          · have hw := hw.2 hh
            refine lv_iconst (v := iI 0) hx hb dX12_nobodyUp_45 rfl ?_
            refine lv_istore (lv' := [(6, .int (iI 0)), (0, .ref (ad 65)), (1, .int (iI a1)), (2, .int (iI a2)), (3, .long (iL y3_7)), (5, .int (iI y5_8))]) hx hb dX12_nobodyUp_46 hl (by decide) rfl (fun ls hl => ?_)
            obtain ⟨I48, hI48, hw⟩ := hw
            have kI48 : ∀ (k48 : Nat) (y3_11 : Int) (y6_12 : Int) (H : Heap) (locs : List Loc) (ls : Array Slot), wP D cA ad sg H → va_S (wA ad) s.heap H locs → lv_has ls 7 [(0, .ref (ad 65)), (1, .int (iI a1)), (2, .int (iI a2)), (3, .long (iL y3_11)), (5, .int (iI y5_8)), (6, .int (iI y6_12))] → I48 k48 y3_11 y6_12 → W p l e (rmL 2) s m A below meth c H locs 0 0 QQ (F0 m 48 ls []) := by
              intro k48
              induction k48 using Nat.strongRecOn with
              | _ k48 ih48 =>
                intro y3_11 y6_12 H locs ls hP hS hl hw
                have hw := hI48 k48 y3_11 y6_12 hw
                refine lv_iload hx hb dX12_nobodyUp_48 (lv_at hl 5 rfl) ?_
                refine lv_iload_n hx hb dX12_nobodyUp_50 rfl (lv_at hl 1 rfl) ?_
                have q13 := hw.1
                have hw := hw.2
                obtain ⟨X86, hX86, hw⟩ := hw
                have kX86 : ∀ (H : Heap) (locs : List Loc) (ls : Array Slot), wP D cA ad sg H → va_S (wA ad) s.heap H locs → lv_has ls 7 [(0, .ref (ad 65)), (1, .int (iI a1)), (2, .int (iI a2)), (3, .long (iL y3_11)), (5, .int (iI y5_8))] → X86 → W p l e (rmL 2) s m A below meth c H locs 0 0 QQ (F0 m 86 ls []) := by
                  intro H locs ls hP hS hl hw
                  have hw := hX86 hw
                  refine wk_iinc (lv' := fun x5_14 => [(5, .int (iI x5_14)), (0, .ref (ad 65)), (1, .int (iI a1)), (2, .int (iI a2)), (3, .long (iL y3_11))]) hx hb dX12_nobodyUp_86 hl (k := 4) rfl (by decide) (fun _ => rfl) (fun x5_14 ls ex5_14 hl => ?_)
                  have hw := hw x5_14 ex5_14
                  refine lv_goto (tgt := 34) hx hb dX12_nobodyUp_89 (by decide) ?_
                  obtain ⟨k15, hk15, hw⟩ := hw
                  exact ih34 k15 hk15 y3_11 x5_14 _ _ _ hP hS (lv_sub hl [1, 2, 3, 4, 0] rfl) hw
                refine wk_icmp_ge hx hb q13 q1 (tgt := 86) dX12_nobodyUp_51 (by decide) (fun hh => ?_) (fun hh => ?_)
                · have hw := hw.1 hh
                  exact kX86  _ _ _ hP hS (lv_sub hl [0, 1, 2, 3, 4] rfl) hw
                · have hw := hw.2 hh
                  refine lv_aload_n hx hb dX12_nobodyUp_54 rfl (lv_at hl 0 rfl) ?_
                  refine wk_getR 69 C0 fl_X12_19 hP (by decide) sh_65 rfl dX12_nobodyUp_55 ?_
                  refine lv_iconst (v := iI 1) hx hb dX12_nobodyUp_58 rfl ?_
                  refine lv_iload hx hb dX12_nobodyUp_59 (lv_at hl 4 rfl) ?_
                  refine wk_iadd hx hb dX12_nobodyUp_61 ?_
                  have q16 := hw.1
                  have hw := hw.2
                  refine wk_iald C0 hP (by decide) sh_69 q16.1 q16.2 (by decide) dX12_nobodyUp_62 ?_
                  refine lv_iconst (v := iI (-1)) hx hb dX12_nobodyUp_63 rfl ?_
                  have q17 := hw.1
                  have hw := hw.2
                  refine wk_icmp_eq hx hb q17 ⟨by decide, by decide⟩ (tgt := 86) dX12_nobodyUp_64 (by decide) (fun hh => ?_) (fun hh => ?_)
                  · have hw := hw.1 hh
                    exact kX86  _ _ _ hP hS (lv_sub hl [0, 1, 2, 3, 4] rfl) hw
                  · have hw := hw.2 hh
                    refine lv_lload_n hx hb dX12_nobodyUp_67 rfl (lv_at hl 3 rfl) ?_
                    refine lv_sipush (v := iI 1000) hx hb dX12_nobodyUp_68 (by decide +kernel) ?_
                    refine lv_iload_n hx hb dX12_nobodyUp_71 rfl (lv_at hl 2 rfl) ?_
                    refine wk_isub hx hb dX12_nobodyUp_72 ?_
                    have q18 := hw.1
                    have hw := hw.2
                    refine wk_i2l hx hb q18 dX12_nobodyUp_73 ?_
                    refine wk_lmul hx hb dX12_nobodyUp_74 ?_
                    refine lv_ldc2 (own := RX12) (v := iL 1000) hx hb hown (htb _ kl_X12_221) dX12_nobodyUp_75 ?_
                    have q19 := hw.1
                    have hw := hw.2
                    refine wk_ldiv hx hb q19 ⟨by decide, by decide⟩ (by decide) dX12_nobodyUp_78 ?_
                    refine wk_topl (fun x3_20 ex3_20 => ?_)
                    have hw := hw x3_20 ex3_20
                    refine lv_lstore_n (lv' := [(3, .long (iL x3_20)), (0, .ref (ad 65)), (1, .int (iI a1)), (2, .int (iI a2)), (5, .int (iI y5_8)), (6, .int (iI y6_12))]) hx hb dX12_nobodyUp_79 rfl hl (by decide) rfl (fun ls hl => ?_)
                    refine wk_iinc (lv' := fun x6_21 => [(6, .int (iI x6_21)), (3, .long (iL x3_20)), (0, .ref (ad 65)), (1, .int (iI a1)), (2, .int (iI a2)), (5, .int (iI y5_8))]) hx hb dX12_nobodyUp_80 hl (k := 5) rfl (by decide) (fun _ => rfl) (fun x6_21 ls ex6_21 hl => ?_)
                    have hw := hw x6_21 ex6_21
                    refine lv_goto (tgt := 48) hx hb dX12_nobodyUp_83 (by decide) ?_
                    obtain ⟨k22, hk22, hw⟩ := hw
                    exact ih48 k22 hk22 x3_20 x6_21 _ _ _ hP hS (lv_sub hl [2, 3, 4, 1, 5, 0] rfl) hw
            obtain ⟨k23, hw⟩ := hw
            exact kI48 k23 y3_7 0 _ _ _ hP hS (lv_sub hl [1, 2, 3, 4, 5, 0] rfl) hw
      obtain ⟨k24, hw⟩ := hw
      exact kI34 k24 1000000000 0 _ _ _ hP hS (lv_sub hl [2, 3, 4, 1, 0] rfl) hw
    · have hw := hw.1 hh
      refine lv_ldc (own := RX12) (v := iI (-1000000002)) hx hb hown (htb _ ki_X12_71) dX12_nobodyUp_24 ?_
      exact hret _ _ _ _ _ _ ⟨rfl, hw⟩ hP hS dX12_nobodyUp_26

set_option maxRecDepth 100000 in
set_option maxHeartbeats 4000000 in
theorem ok_X12_morning {l : Launch} {D : va_G} {cA : Nat → ClassId} {ad : Nat → Nat} (hI : wI ad) {a1 : Int} {a2 : Int} {sg : Mem} {Q : Int → Mem → Prop} (hw : wp_X12_morning a1 a2 sg Q) : wMi l D cA ad yX12_morning cX12_morning 3 (some .int) 3 [.ref (ad 65), .int (iI a1), .int (iI a2)] sg Q := by
  refine wk_ofI (by decide) hI (Nat.le_of_ble_eq_true rfl) ?_
  intro p e s m below meth c A QQ ls C0 hret hl hP
  have hx := C0.1
  have hb := C0.2.1
  have hown := C0.2.2.2.1
  have htb := C0.2.2.2.2.1
  have hl : lv_has ls 3 [(0, .ref (ad 65)), (1, .int (iI a1)), (2, .int (iI a2))] := hl
  refine (fun (key : ∀ (H : Heap) (locs : List Loc), wP D cA ad sg H → va_S (wA ad) s.heap H locs → W p l e (rmL 3) s m A below meth c H locs 0 0 QQ (F0 m 0 ls [])) => key _ _ hP va_S.rf) ?_
  intro H locs hP hS
  unfold wp_X12_morning at hw
  refine lv_aload_n hx hb dX12_morning_0 rfl (lv_at hl 0 rfl) ?_
  refine lv_iload_n hx hb dX12_morning_1 rfl (lv_at hl 1 rfl) ?_
  refine wk_rip (wk_callV (rest := []) C0 cl_X12_153 (ok_X12_isSleeper hI hw) hP (by decide) sh_65 rfl rfl rfl (Nat.le_of_ble_eq_true rfl) (wk_room (by decide) (by decide)) hl.1 dX12_morning_2 ⟨Nat.le_refl _, Nat.le_refl _⟩) hS (fun r1 H locs hw hP hS => ?_)
  have q2 := hw.1
  have hw := hw.2
  refine wk_if_eq hx hb q2 (tgt := 16) dX12_morning_5 (by decide) (fun hh => ?_) (fun hh => ?_)
  · have hw := hw.1 hh
    refine lv_ldc (own := RX12) (v := iI (-1000000001)) hx hb hown (htb _ ki_X12_152) dX12_morning_16 ?_
    exact hret _ _ _ _ _ _ hw hP hS dX12_morning_18
  · have hw := hw.2 hh
    refine lv_aload_n hx hb dX12_morning_8 rfl (lv_at hl 0 rfl) ?_
    refine lv_iload_n hx hb dX12_morning_9 rfl (lv_at hl 2 rfl) ?_
    refine wk_rip (wk_callV (rest := []) C0 cl_X12_148 (ok_X12_isPlace hI hw) hP (by decide) sh_65 rfl rfl rfl (Nat.le_of_ble_eq_true rfl) (wk_room (by decide) (by decide)) hl.1 dX12_morning_10 ⟨Nat.le_refl _, Nat.le_refl _⟩) hS (fun r3 H locs hw hP hS => ?_)
    have q4 := hw.1
    have hw := hw.2
    refine wk_if_ne hx hb q4 (tgt := 19) dX12_morning_13 (by decide) (fun hh => ?_) (fun hh => ?_)
    · have hw := hw.2 hh
      refine lv_aload_n hx hb dX12_morning_19 rfl (lv_at hl 0 rfl) ?_
      refine wk_getI C0 fl_X12_113 hP (by decide) sh_65 rfl dX12_morning_20 ?_
      refine lv_bipush (v := iI 6) hx hb dX12_morning_23 (by decide +kernel) ?_
      have q5 := hw.1
      have hw := hw.2
      refine wk_icmp_ne hx hb q5 ⟨by decide, by decide⟩ (tgt := 31) dX12_morning_25 (by decide) (fun hh => ?_) (fun hh => ?_)
      · have hw := hw.2 hh
        refine lv_aload_n hx hb dX12_morning_31 rfl (lv_at hl 0 rfl) ?_
        refine wk_getR 77 C0 fl_X12_43 hP (by decide) sh_65 rfl dX12_morning_32 ?_
        refine lv_aload_n hx hb dX12_morning_35 rfl (lv_at hl 0 rfl) ?_
        refine wk_getI C0 fl_X12_113 hP (by decide) sh_65 rfl dX12_morning_36 ?_
        refine lv_iload_n hx hb dX12_morning_39 rfl (lv_at hl 1 rfl) ?_
        have q6 := hw.1
        have hw := hw.2
        refine wk_iast C0 hP hS (by decide) sh_77 q6.1 q6.2 (by decide) dX12_morning_40 (fun s7 H locs es7 hP hS => ?_)
        have hw := hw s7 es7
        refine lv_aload_n hx hb dX12_morning_41 rfl (lv_at hl 0 rfl) ?_
        refine wk_getR 78 C0 fl_X12_46 hP (by decide) sh_65 rfl dX12_morning_42 ?_
        refine lv_aload_n hx hb dX12_morning_45 rfl (lv_at hl 0 rfl) ?_
        refine wk_getI C0 fl_X12_113 hP (by decide) sh_65 rfl dX12_morning_46 ?_
        refine lv_iload_n hx hb dX12_morning_49 rfl (lv_at hl 2 rfl) ?_
        have q8 := hw.1
        have hw := hw.2
        refine wk_iast C0 hP hS (by decide) sh_78 q8.1 q8.2 (by decide) dX12_morning_50 (fun s9 H locs es9 hP hS => ?_)
        have hw := hw s9 es9
        refine lv_aload_n hx hb dX12_morning_51 rfl (lv_at hl 0 rfl) ?_
        refine lv_dup hx hb dX12_morning_52 rfl ?_
        refine wk_getI C0 fl_X12_113 hP (by decide) sh_65 rfl dX12_morning_53 ?_
        refine lv_iconst (v := iI 1) hx hb dX12_morning_56 rfl ?_
        refine wk_iadd hx hb dX12_morning_57 ?_
        refine wk_putI C0 fl_X12_113 rfl rfl hP hS (by decide) sh_65 rfl dX12_morning_58 (fun s10 H locs es10 hP hS => ?_)
        have hw := hw s10 es10
        refine lv_aload_n hx hb dX12_morning_61 rfl (lv_at hl 0 rfl) ?_
        refine wk_getI C0 fl_X12_113 hP (by decide) sh_65 rfl dX12_morning_62 ?_
        exact hret _ _ _ _ _ _ hw hP hS dX12_morning_65
      · have hw := hw.1 hh
        refine lv_ldc (own := RX12) (v := iI (-1000000004)) hx hb hown (htb _ ki_X12_75) dX12_morning_28 ?_
        exact hret _ _ _ _ _ _ hw hP hS dX12_morning_30
    · have hw := hw.1 hh
      refine lv_ldc (own := RX12) (v := iI (-1000000001)) hx hb hown (htb _ ki_X12_152) dX12_morning_16 ?_
      exact hret _ _ _ _ _ _ hw hP hS dX12_morning_18

set_option maxRecDepth 100000 in
set_option maxHeartbeats 4000000 in
theorem ok_X12_counts {l : Launch} {D : va_G} {cA : Nat → ClassId} {ad : Nat → Nat} (hI : wI ad) {a1 : Int} {sg : Mem} {Q : Mem → Prop} (hw : wp_X12_counts a1 sg Q) : wMv l D cA ad yX12_counts cX12_counts 6 none 2 [.ref (ad 65), .int (iI a1)] sg Q := by
  refine wk_ofV (by decide) hI (Nat.le_of_ble_eq_true rfl) ?_
  intro p e s m below meth c A QQ ls C0 hret hl hP
  have hx := C0.1
  have hb := C0.2.1
  have hown := C0.2.2.2.1
  have htb := C0.2.2.2.2.1
  have hl : lv_has ls 6 [(0, .ref (ad 65)), (1, .int (iI a1))] := hl
  refine (fun (key : ∀ (H : Heap) (locs : List Loc), wP D cA ad sg H → va_S (wA ad) s.heap H locs → W p l e (rmL 2) s m A below meth c H locs 0 0 QQ (F0 m 0 ls [])) => key _ _ hP va_S.rf) ?_
  intro H locs hP hS
  unfold wp_X12_counts at hw
  refine lv_aload_n hx hb dX12_counts_0 rfl (lv_at hl 0 rfl) ?_
  refine wk_rv (wk_callV (rest := []) C0 cl_X12_189 (ok_X12_asides hI hw) hP (by decide) sh_65 rfl rfl rfl (Nat.le_of_ble_eq_true rfl) (wk_room (by decide) (by decide)) hl.1 dX12_counts_1 ⟨Nat.le_refl _, Nat.le_refl _⟩) hS (fun s1 H locs hw hP hS => ?_)
  refine lv_aload_n hx hb dX12_counts_4 rfl (lv_at hl 0 rfl) ?_
  refine lv_iconst (v := iI 0) hx hb dX12_counts_5 rfl ?_
  refine wk_putI C0 fl_X12_225 rfl rfl hP hS (by decide) sh_65 rfl dX12_counts_6 (fun s2 H locs es2 hP hS => ?_)
  have hw := hw s2 es2
  refine lv_aload_n hx hb dX12_counts_9 rfl (lv_at hl 0 rfl) ?_
  refine lv_iconst (v := iI 0) hx hb dX12_counts_10 rfl ?_
  refine wk_putI C0 fl_X12_228 rfl rfl hP hS (by decide) sh_65 rfl dX12_counts_11 (fun s3 H locs es3 hP hS => ?_)
  have hw := hw s3 es3
  refine lv_aload_n hx hb dX12_counts_14 rfl (lv_at hl 0 rfl) ?_
  refine lv_bipush (v := iI 15) hx hb dX12_counts_15 (by decide +kernel) ?_
  refine wk_putI C0 fl_X12_231 rfl rfl hP hS (by decide) sh_65 rfl dX12_counts_17 (fun s4 H locs es4 hP hS => ?_)
  have hw := hw s4 es4
  refine lv_iconst (v := iI 0) hx hb dX12_counts_20 rfl ?_
  refine lv_istore_n (lv' := [(2, .int (iI 0)), (0, .ref (ad 65)), (1, .int (iI a1))]) hx hb dX12_counts_21 rfl hl (by decide) rfl (fun ls hl => ?_)
  obtain ⟨I22, hI22, hw⟩ := hw
  have kI22 : ∀ (k22 : Nat) (y2_5 : Int) (s6 : Mem) (H : Heap) (locs : List Loc) (ls : Array Slot), wP D cA ad s6 H → va_S (wA ad) s.heap H locs → lv_has ls 6 [(0, .ref (ad 65)), (1, .int (iI a1)), (2, .int (iI y2_5))] → I22 k22 y2_5 s6 → W p l e (rmL 2) s m A below meth c H locs 0 0 QQ (F0 m 22 ls []) := by
    intro k22
    induction k22 using Nat.strongRecOn with
    | _ k22 ih22 =>
      intro y2_5 s6 H locs ls hP hS hl hw
      have hw := hI22 k22 y2_5 s6 hw
      refine lv_iload_n hx hb dX12_counts_22 rfl (lv_at hl 2 rfl) ?_
      refine lv_iload_n hx hb dX12_counts_23 rfl (lv_at hl 1 rfl) ?_
      refine wk_rip (wk_callS (rest := [.int (iI y2_5)]) C0 cl_X12_204 (ok_X12_power hI hw) hP rfl rfl (Nat.le_of_ble_eq_true rfl) (wk_room (by decide) (by decide)) hl.1 dX12_counts_24 ⟨Nat.le_refl _, Nat.le_refl _⟩) hS (fun r7 H locs hw hP hS => ?_)
      have q8 := hw.1
      have hw := hw.2
      have q9 := hw.1
      have hw := hw.2
      refine wk_icmp_ge hx hb q8 q9 (tgt := 200) dX12_counts_27 (by decide) (fun hh => ?_) (fun hh => ?_)
      · have hw := hw.1 hh
        exact hret _ _ _ _ _ hw hP hS dX12_counts_200
      · have hw := hw.2 hh
        refine lv_iconst (v := iI 0) hx hb dX12_counts_30 rfl ?_
        refine lv_istore_n (lv' := [(3, .int (iI 0)), (0, .ref (ad 65)), (1, .int (iI a1)), (2, .int (iI y2_5))]) hx hb dX12_counts_31 rfl hl (by decide) rfl (fun ls hl => ?_)
        refine lv_iconst (v := iI 0) hx hb dX12_counts_32 rfl ?_
        refine lv_istore (lv' := [(4, .int (iI 0)), (3, .int (iI 0)), (0, .ref (ad 65)), (1, .int (iI a1)), (2, .int (iI y2_5))]) hx hb dX12_counts_33 hl (by decide) rfl (fun ls hl => ?_)
        obtain ⟨I35, hI35, hw⟩ := hw
        have kI35 : ∀ (k35 : Nat) (y3_10 : Int) (y4_11 : Int) (s12 : Mem) (H : Heap) (locs : List Loc) (ls : Array Slot), wP D cA ad s12 H → va_S (wA ad) s.heap H locs → lv_has ls 6 [(0, .ref (ad 65)), (1, .int (iI a1)), (2, .int (iI y2_5)), (3, .int (iI y3_10)), (4, .int (iI y4_11))] → I35 k35 y3_10 y4_11 s12 → W p l e (rmL 2) s m A below meth c H locs 0 0 QQ (F0 m 35 ls []) := by
          intro k35
          induction k35 using Nat.strongRecOn with
          | _ k35 ih35 =>
            intro y3_10 y4_11 s12 H locs ls hP hS hl hw
            have hw := hI35 k35 y3_10 y4_11 s12 hw
            refine lv_iload hx hb dX12_counts_35 (lv_at hl 4 rfl) ?_
            refine lv_iload_n hx hb dX12_counts_37 rfl (lv_at hl 1 rfl) ?_
            have q13 := hw.1
            have hw := hw.2
            have q14 := hw.1
            have hw := hw.2
            refine wk_icmp_ge hx hb q13 q14 (tgt := 70) dX12_counts_38 (by decide) (fun hh => ?_) (fun hh => ?_)
            · have hw := hw.1 hh
              refine lv_iconst (v := iI 1) hx hb dX12_counts_70 rfl ?_
              refine lv_istore (lv' := [(4, .int (iI 1)), (0, .ref (ad 65)), (1, .int (iI a1)), (2, .int (iI y2_5)), (3, .int (iI y3_10))]) hx hb dX12_counts_71 hl (by decide) rfl (fun ls hl => ?_)
              refine lv_iconst (v := iI 0) hx hb dX12_counts_73 rfl ?_
              refine lv_istore (lv' := [(5, .int (iI 0)), (4, .int (iI 1)), (0, .ref (ad 65)), (1, .int (iI a1)), (2, .int (iI y2_5)), (3, .int (iI y3_10))]) hx hb dX12_counts_74 hl (by decide) rfl (fun ls hl => ?_)
              obtain ⟨I76, hI76, hw⟩ := hw
              have kI76 : ∀ (k76 : Nat) (y4_15 : Int) (y5_16 : Int) (H : Heap) (locs : List Loc) (ls : Array Slot), wP D cA ad s12 H → va_S (wA ad) s.heap H locs → lv_has ls 6 [(0, .ref (ad 65)), (1, .int (iI a1)), (2, .int (iI y2_5)), (3, .int (iI y3_10)), (4, .int (iI y4_15)), (5, .int (iI y5_16))] → I76 k76 y4_15 y5_16 → W p l e (rmL 2) s m A below meth c H locs 0 0 QQ (F0 m 76 ls []) := by
                intro k76
                induction k76 using Nat.strongRecOn with
                | _ k76 ih76 =>
                  intro y4_15 y5_16 H locs ls hP hS hl hw
                  have hw := hI76 k76 y4_15 y5_16 hw
                  refine lv_iload hx hb dX12_counts_76 (lv_at hl 5 rfl) ?_
                  refine lv_aload_n hx hb dX12_counts_78 rfl (lv_at hl 0 rfl) ?_
                  refine wk_getI C0 fl_X12_113 hP (by decide) sh_65 rfl dX12_counts_79 ?_
                  have q17 := hw.1
                  have hw := hw.2
                  have q18 := hw.1
                  have hw := hw.2
                  refine wk_icmp_ge hx hb q17 q18 (tgt := 127) dX12_counts_82 (by decide) (fun hh => ?_) (fun hh => ?_)
                  · have hw := hw.1 hh
                    refine lv_aload_n hx hb dX12_counts_127 rfl (lv_at hl 0 rfl) ?_
                    refine wk_rv (wk_callV (rest := []) C0 cl_X12_195 (ok_X12_backs hI hw) hP (by decide) sh_65 rfl rfl rfl (Nat.le_of_ble_eq_true rfl) (wk_room (by decide) (by decide)) hl.1 dX12_counts_128 ⟨Nat.le_refl _, Nat.le_refl _⟩) hS (fun s19 H locs hw hP hS => ?_)
                    refine lv_aload_n hx hb dX12_counts_131 rfl (lv_at hl 0 rfl) ?_
                    refine lv_iload hx hb dX12_counts_132 (lv_at hl 4 rfl) ?_
                    have q20 := hw.1
                    have hw := hw.2
                    have hs := hw.1
                    have hw := hw.2
                    have kX152 : ∀ v22 : Int, v22 = (if y4_15 = 0 then s19 65 24 else if s19 65 23 = 0 then y2_5 else s19 65 24) → ∀ (ls : Array Slot), lv_has ls 6 [(0, .ref (ad 65)), (1, .int (iI a1)), (2, .int (iI y2_5)), (3, .int (iI y3_10)), (4, .int (iI y4_15))] → W p l e (rmL 2) s m A below meth c H locs 0 0 QQ (F0 m 152 ls [.int (iI v22), .ref (ad 65)]) := by
                      intro v22 ev22 ls hl
                      have hw := hw v22 ev22
                      refine wk_putI C0 fl_X12_228 rfl rfl hP hS (by decide) sh_65 rfl dX12_counts_152 (fun s23 H locs es23 hP hS => ?_)
                      have hw := hw s23 es23
                      refine lv_aload_n hx hb dX12_counts_155 rfl (lv_at hl 0 rfl) ?_
                      refine lv_dup hx hb dX12_counts_156 rfl ?_
                      refine wk_getI C0 fl_X12_231 hP (by decide) sh_65 rfl dX12_counts_157 ?_
                      refine lv_iload hx hb dX12_counts_160 (lv_at hl 4 rfl) ?_
                      have kX171 : ∀ v24 : Int, v24 = (if y4_15 = 0 then 15 else y3_10) → ∀ (ls : Array Slot), lv_has ls 6 [(0, .ref (ad 65)), (1, .int (iI a1)), (2, .int (iI y2_5)), (4, .int (iI y4_15))] → W p l e (rmL 2) s m A below meth c H locs 0 0 QQ (F0 m 171 ls [.int (iI v24), .int (iI (s23 65 25)), .ref (ad 65)]) := by
                        intro v24 ev24 ls hl
                        have hw := hw v24 ev24
                        refine wk_iand hx hb dX12_counts_171 ?_
                        refine wk_putI C0 fl_X12_231 rfl rfl hP hS (by decide) sh_65 rfl dX12_counts_172 (fun s25 H locs es25 hP hS => ?_)
                        have hw := hw s25 es25
                        refine lv_aload_n hx hb dX12_counts_175 rfl (lv_at hl 0 rfl) ?_
                        refine lv_dup hx hb dX12_counts_176 rfl ?_
                        refine wk_getI C0 fl_X12_225 hP (by decide) sh_65 rfl dX12_counts_177 ?_
                        refine lv_iload hx hb dX12_counts_180 (lv_at hl 3 rfl) ?_
                        have kX190 : ∀ v26 : Int, v26 = (if y4_15 = 0 then 0 else 1) → ∀ (ls : Array Slot), lv_has ls 6 [(0, .ref (ad 65)), (1, .int (iI a1)), (2, .int (iI y2_5))] → W p l e (rmL 2) s m A below meth c H locs 0 0 QQ (F0 m 190 ls [.int (iI v26), .int (iI (s25 65 23)), .ref (ad 65)]) := by
                          intro v26 ev26 ls hl
                          have hw := hw v26 ev26
                          refine wk_iadd hx hb dX12_counts_190 ?_
                          refine wk_putI C0 fl_X12_225 rfl rfl hP hS (by decide) sh_65 rfl dX12_counts_191 (fun s27 H locs es27 hP hS => ?_)
                          have hw := hw s27 es27
                          refine wk_iinc (lv' := fun x2_28 => [(2, .int (iI x2_28)), (0, .ref (ad 65)), (1, .int (iI a1))]) hx hb dX12_counts_194 hl (k := 2) rfl (by decide) (fun _ => rfl) (fun x2_28 ls ex2_28 hl => ?_)
                          have hw := hw x2_28 ex2_28
                          refine lv_goto (tgt := 22) hx hb dX12_counts_197 (by decide) ?_
                          obtain ⟨k29, hk29, hw⟩ := hw
                          exact ih22 k29 hk29 x2_28 s27 _ _ _ hP hS (lv_sub hl [1, 2, 0] rfl) hw
                        refine wk_if_eq hx hb q20 (tgt := 189) dX12_counts_182 (by decide) (fun hh30 => ?_) (fun hh30 => ?_)
                        · refine lv_iconst (v := iI 0) hx hb dX12_counts_189 rfl ?_
                          exact kX190 0 (by rw [if_pos hh30]) ls (lv_sub hl [0, 1, 2] rfl)
                        · refine lv_iconst (v := iI 1) hx hb dX12_counts_185 rfl ?_
                          refine lv_goto (tgt := 190) hx hb dX12_counts_186 (by decide) ?_
                          exact kX190 1 (by rw [if_neg hh30]) ls (lv_sub hl [0, 1, 2] rfl)
                      refine wk_if_eq hx hb q20 (tgt := 169) dX12_counts_162 (by decide) (fun hh31 => ?_) (fun hh31 => ?_)
                      · refine lv_bipush (v := iI 15) hx hb dX12_counts_169 (by decide +kernel) ?_
                        exact kX171 15 (by rw [if_pos hh31]) ls (lv_sub hl [0, 1, 2, 4] rfl)
                      · refine lv_iload_n hx hb dX12_counts_165 rfl (lv_at hl 3 rfl) ?_
                        refine lv_goto (tgt := 171) hx hb dX12_counts_166 (by decide) ?_
                        exact kX171 y3_10 (by rw [if_neg hh31]) ls (lv_sub hl [0, 1, 2, 4] rfl)
                    refine wk_if_eq hx hb q20 (tgt := 148) dX12_counts_134 (by decide) (fun hh32 => ?_) (fun hh32 => ?_)
                    · refine lv_aload_n hx hb dX12_counts_148 rfl (lv_at hl 0 rfl) ?_
                      refine wk_getI C0 fl_X12_228 hP (by decide) sh_65 rfl dX12_counts_149 ?_
                      exact kX152 (s19 65 24) (by rw [if_pos hh32]) ls (lv_sub hl [0, 1, 2, 3, 4] rfl)
                    · have hs := hs.2 hh32
                      refine lv_aload_n hx hb dX12_counts_137 rfl (lv_at hl 0 rfl) ?_
                      refine wk_getI C0 fl_X12_225 hP (by decide) sh_65 rfl dX12_counts_138 ?_
                      have q21 := hs
                      refine wk_if_ne hx hb q21 (tgt := 148) dX12_counts_141 (by decide) (fun hh33 => ?_) (fun hh33 => ?_)
                      · refine lv_aload_n hx hb dX12_counts_148 rfl (lv_at hl 0 rfl) ?_
                        refine wk_getI C0 fl_X12_228 hP (by decide) sh_65 rfl dX12_counts_149 ?_
                        exact kX152 (s19 65 24) (by rw [if_neg hh32, if_neg hh33]) ls (lv_sub hl [0, 1, 2, 3, 4] rfl)
                      · refine lv_iload_n hx hb dX12_counts_144 rfl (lv_at hl 2 rfl) ?_
                        refine lv_goto (tgt := 152) hx hb dX12_counts_145 (by decide) ?_
                        exact kX152 y2_5 (by rw [if_neg hh32, if_pos hh33]) ls (lv_sub hl [0, 1, 2, 3, 4] rfl)
                  · have hw := hw.2 hh
                    refine lv_iload hx hb dX12_counts_85 (lv_at hl 4 rfl) ?_
                    have q34 := hw.1
                    have hw := hw.2
                    have hs := hw.1
                    have hw := hw.2
                    have kX119 : ∀ v39 : Int, v39 = (if y4_15 = 0 then 0 else if s12 69 (1 + (s12 78 y5_16.toNat)).toNat = s12 77 y5_16.toNat then 1 else 0) → ∀ (ls : Array Slot), lv_has ls 6 [(0, .ref (ad 65)), (1, .int (iI a1)), (2, .int (iI y2_5)), (3, .int (iI y3_10)), (5, .int (iI y5_16))] → W p l e (rmL 2) s m A below meth c H locs 0 0 QQ (F0 m 119 ls [.int (iI v39)]) := by
                      intro v39 ev39 ls hl
                      have hw := hw v39 ev39
                      refine lv_istore (lv' := [(4, .int (iI v39)), (0, .ref (ad 65)), (1, .int (iI a1)), (2, .int (iI y2_5)), (3, .int (iI y3_10)), (5, .int (iI y5_16))]) hx hb dX12_counts_119 hl (by decide) rfl (fun ls hl => ?_)
                      refine wk_iinc (lv' := fun x5_40 => [(5, .int (iI x5_40)), (4, .int (iI v39)), (0, .ref (ad 65)), (1, .int (iI a1)), (2, .int (iI y2_5)), (3, .int (iI y3_10))]) hx hb dX12_counts_121 hl (k := 5) rfl (by decide) (fun _ => rfl) (fun x5_40 ls ex5_40 hl => ?_)
                      have hw := hw x5_40 ex5_40
                      refine lv_goto (tgt := 76) hx hb dX12_counts_124 (by decide) ?_
                      obtain ⟨k41, hk41, hw⟩ := hw
                      exact ih76 k41 hk41 v39 x5_40 _ _ _ hP hS (lv_sub hl [2, 3, 4, 5, 1, 0] rfl) hw
                    refine wk_if_eq hx hb q34 (tgt := 118) dX12_counts_87 (by decide) (fun hh42 => ?_) (fun hh42 => ?_)
                    · refine lv_iconst (v := iI 0) hx hb dX12_counts_118 rfl ?_
                      exact kX119 0 (by rw [if_pos hh42]) ls (lv_sub hl [0, 1, 2, 3, 5] rfl)
                    · have hs := hs.2 hh42
                      refine lv_aload_n hx hb dX12_counts_90 rfl (lv_at hl 0 rfl) ?_
                      refine wk_getR 69 C0 fl_X12_19 hP (by decide) sh_65 rfl dX12_counts_91 ?_
                      refine lv_iconst (v := iI 1) hx hb dX12_counts_94 rfl ?_
                      refine lv_aload_n hx hb dX12_counts_95 rfl (lv_at hl 0 rfl) ?_
                      refine wk_getR 78 C0 fl_X12_46 hP (by decide) sh_65 rfl dX12_counts_96 ?_
                      refine lv_iload hx hb dX12_counts_99 (lv_at hl 5 rfl) ?_
                      have q35 := hs.1
                      have hs := hs.2
                      refine wk_iald C0 hP (by decide) sh_78 q35.1 q35.2 (by decide) dX12_counts_101 ?_
                      refine wk_iadd hx hb dX12_counts_102 ?_
                      have q36 := hs.1
                      have hs := hs.2
                      refine wk_iald C0 hP (by decide) sh_69 q36.1 q36.2 (by decide) dX12_counts_103 ?_
                      refine lv_aload_n hx hb dX12_counts_104 rfl (lv_at hl 0 rfl) ?_
                      refine wk_getR 77 C0 fl_X12_43 hP (by decide) sh_65 rfl dX12_counts_105 ?_
                      refine lv_iload hx hb dX12_counts_108 (lv_at hl 5 rfl) ?_
                      refine wk_iald C0 hP (by decide) sh_77 q35.1 q35.2 (by decide) dX12_counts_110 ?_
                      have q37 := hs.1
                      have hs := hs.2
                      have q38 := hs
                      refine wk_icmp_ne hx hb q37 q38 (tgt := 118) dX12_counts_111 (by decide) (fun hh43 => ?_) (fun hh43 => ?_)
                      · refine lv_iconst (v := iI 0) hx hb dX12_counts_118 rfl ?_
                        exact kX119 0 (by rw [if_neg hh42, if_neg hh43]) ls (lv_sub hl [0, 1, 2, 3, 5] rfl)
                      · refine lv_iconst (v := iI 1) hx hb dX12_counts_114 rfl ?_
                        refine lv_goto (tgt := 119) hx hb dX12_counts_115 (by decide) ?_
                        exact kX119 1 (by rw [if_neg hh42, if_pos hh43]) ls (lv_sub hl [0, 1, 2, 3, 5] rfl)
              obtain ⟨k44, hw⟩ := hw
              exact kI76 k44 1 0 _ _ _ hP hS (lv_sub hl [2, 3, 4, 5, 1, 0] rfl) hw
            · have hw := hw.2 hh
              refine lv_aload_n hx hb dX12_counts_41 rfl (lv_at hl 0 rfl) ?_
              refine lv_iload_n hx hb dX12_counts_42 rfl (lv_at hl 2 rfl) ?_
              refine lv_iload_n hx hb dX12_counts_43 rfl (lv_at hl 1 rfl) ?_
              refine lv_iload hx hb dX12_counts_44 (lv_at hl 4 rfl) ?_
              refine wk_rip (wk_callS (rest := [.ref (ad 65)]) C0 cl_X12_198 (ok_X12_word hI hw) hP rfl rfl (Nat.le_of_ble_eq_true rfl) (wk_room (by decide) (by decide)) hl.1 dX12_counts_46 ⟨Nat.le_refl _, Nat.le_refl _⟩) hS (fun r45 H locs hw hP hS => ?_)
              refine wk_rv (wk_callV (rest := []) C0 cl_X12_129 (ok_X12_turns hI hw) hP (by decide) sh_65 rfl rfl rfl (Nat.le_of_ble_eq_true rfl) (wk_room (by decide) (by decide)) hl.1 dX12_counts_49 ⟨Nat.le_refl _, Nat.le_refl _⟩) hS (fun s46 H locs hw hP hS => ?_)
              refine lv_iload_n hx hb dX12_counts_52 rfl (lv_at hl 3 rfl) ?_
              refine lv_iconst (v := iI 1) hx hb dX12_counts_53 rfl ?_
              refine lv_iload_n hx hb dX12_counts_54 rfl (lv_at hl 2 rfl) ?_
              refine lv_iload_n hx hb dX12_counts_55 rfl (lv_at hl 1 rfl) ?_
              refine lv_iload hx hb dX12_counts_56 (lv_at hl 4 rfl) ?_
              refine wk_rip (wk_callS (rest := [.int (iI 1), .int (iI y3_10)]) C0 cl_X12_198 (ok_X12_word hI hw) hP rfl rfl (Nat.le_of_ble_eq_true rfl) (wk_room (by decide) (by decide)) hl.1 dX12_counts_58 ⟨Nat.le_refl _, Nat.le_refl _⟩) hS (fun r47 H locs hw hP hS => ?_)
              refine wk_ishl hx hb dX12_counts_61 ?_
              refine wk_ior hx hb dX12_counts_62 ?_
              refine wk_top (fun x3_48 ex3_48 => ?_)
              have hw := hw x3_48 ex3_48
              refine lv_istore_n (lv' := [(3, .int (iI x3_48)), (0, .ref (ad 65)), (1, .int (iI a1)), (2, .int (iI y2_5)), (4, .int (iI y4_11))]) hx hb dX12_counts_63 rfl hl (by decide) rfl (fun ls hl => ?_)
              refine wk_iinc (lv' := fun x4_49 => [(4, .int (iI x4_49)), (3, .int (iI x3_48)), (0, .ref (ad 65)), (1, .int (iI a1)), (2, .int (iI y2_5))]) hx hb dX12_counts_64 hl (k := 4) rfl (by decide) (fun _ => rfl) (fun x4_49 ls ex4_49 hl => ?_)
              have hw := hw x4_49 ex4_49
              refine lv_goto (tgt := 35) hx hb dX12_counts_67 (by decide) ?_
              obtain ⟨k50, hk50, hw⟩ := hw
              exact ih35 k50 hk50 x3_48 x4_49 s46 _ _ _ hP hS (lv_sub hl [2, 3, 4, 1, 0] rfl) hw
        obtain ⟨k51, hw⟩ := hw
        exact kI35 k51 0 0 s6 _ _ _ hP hS (lv_sub hl [2, 3, 4, 1, 0] rfl) hw
  obtain ⟨k52, hw⟩ := hw
  exact kI22 k52 0 s4 _ _ _ hP hS (lv_sub hl [1, 2, 0] rfl) hw

set_option maxRecDepth 100000 in
set_option maxHeartbeats 4000000 in
theorem ok_X12_counted {l : Launch} {D : va_G} {cA : Nat → ClassId} {ad : Nat → Nat} (hI : wI ad) {a1 : Int} {a2 : Int} {sg : Mem} {Q : Int → Mem → Prop} (hw : wp_X12_counted a1 a2 sg Q) : wMi l D cA ad yX12_counted cX12_counted 3 (some .int) 3 [.ref (ad 65), .int (iI a1), .int (iI a2)] sg Q := by
  refine wk_ofI (by decide) hI (Nat.le_of_ble_eq_true rfl) ?_
  intro p e s m below meth c A QQ ls C0 hret hl hP
  have hx := C0.1
  have hb := C0.2.1
  have hown := C0.2.2.2.1
  have htb := C0.2.2.2.2.1
  have hl : lv_has ls 3 [(0, .ref (ad 65)), (1, .int (iI a1)), (2, .int (iI a2))] := hl
  refine (fun (key : ∀ (H : Heap) (locs : List Loc), wP D cA ad sg H → va_S (wA ad) s.heap H locs → W p l e (rmL 3) s m A below meth c H locs 0 0 QQ (F0 m 0 ls [])) => key _ _ hP va_S.rf) ?_
  intro H locs hP hS
  unfold wp_X12_counted at hw
  refine lv_iload_n hx hb dX12_counted_0 rfl (lv_at hl 1 rfl) ?_
  have q1 := hw.1
  have hw := hw.2
  refine wk_i2l hx hb q1 dX12_counted_1 ?_
  refine lv_lconst (v := iL 1) hx hb dX12_counted_2 rfl ?_
  refine lv_ldc2 (own := RX12) (v := iL 5) hx hb hown (htb _ kl_X12_202) dX12_counted_3 ?_
  refine wk_rip (wk_callS (rest := []) C0 cl_X12_67 (ok_X12_in hI hw) hP rfl rfl (Nat.le_of_ble_eq_true rfl) (wk_room (by decide) (by decide)) hl.1 dX12_counted_6 ⟨Nat.le_refl _, Nat.le_refl _⟩) hS (fun r2 H locs hw hP hS => ?_)
  have q3 := hw.1
  have hw := hw.2
  refine wk_if_ne hx hb q3 (tgt := 15) dX12_counted_9 (by decide) (fun hh => ?_) (fun hh => ?_)
  · have hw := hw.2 hh
    refine lv_aload_n hx hb dX12_counted_15 rfl (lv_at hl 0 rfl) ?_
    refine wk_getR 67 C0 fl_X12_13 hP (by decide) sh_65 rfl dX12_counted_16 ?_
    refine lv_iconst (v := iI 0) hx hb dX12_counted_19 rfl ?_
    refine wk_iald C0 hP (by decide) sh_67 (by decide) (by decide) (by decide) dX12_counted_20 ?_
    rw [show (0 : Int).toNat = 0 from rfl]
    have q4 := hw.1
    have hw := hw.2
    refine wk_if_ne hx hb q4 (tgt := 27) dX12_counted_21 (by decide) (fun hh => ?_) (fun hh => ?_)
    · have hw := hw.2 hh
      refine lv_aload_n hx hb dX12_counted_27 rfl (lv_at hl 0 rfl) ?_
      refine lv_iload_n hx hb dX12_counted_28 rfl (lv_at hl 1 rfl) ?_
      refine wk_rv (wk_callV (rest := []) C0 cl_X12_234 (ok_X12_counts hI hw) hP (by decide) sh_65 rfl rfl rfl (Nat.le_of_ble_eq_true rfl) (wk_room (by decide) (by decide)) hl.1 dX12_counted_29 ⟨Nat.le_refl _, Nat.le_refl _⟩) hS (fun s5 H locs hw hP hS => ?_)
      refine lv_iload_n hx hb dX12_counted_32 rfl (lv_at hl 2 rfl) ?_
      refine lv_iconst (v := iI (-1)) hx hb dX12_counted_33 rfl ?_
      have q6 := hw.1
      have hw := hw.2
      refine wk_icmp_ne hx hb q6 ⟨by decide, by decide⟩ (tgt := 44) dX12_counted_34 (by decide) (fun hh => ?_) (fun hh => ?_)
      · have hw := hw.2 hh
        refine lv_aload_n hx hb dX12_counted_44 rfl (lv_at hl 0 rfl) ?_
        refine wk_getI C0 fl_X12_225 hP (by decide) sh_65 rfl dX12_counted_45 ?_
        have q7 := hw.1
        have hw := hw.2
        refine wk_if_le hx hb q7 (tgt := 76) dX12_counted_48 (by decide) (fun hh => ?_) (fun hh => ?_)
        · have hw := hw.1 hh
          refine lv_iconst (v := iI (-1)) hx hb dX12_counted_76 rfl ?_
          exact hret _ _ _ _ _ _ hw hP hS dX12_counted_77
        · have hw := hw.2 hh
          refine lv_iload_n hx hb dX12_counted_51 rfl (lv_at hl 2 rfl) ?_
          refine wk_i2l hx hb q6 dX12_counted_52 ?_
          refine lv_lconst (v := iL 0) hx hb dX12_counted_53 rfl ?_
          refine lv_iload_n hx hb dX12_counted_54 rfl (lv_at hl 1 rfl) ?_
          refine lv_iconst (v := iI 1) hx hb dX12_counted_55 rfl ?_
          refine wk_isub hx hb dX12_counted_56 ?_
          have q8 := hw.1
          have hw := hw.2
          refine wk_i2l hx hb q8 dX12_counted_57 ?_
          refine wk_rip (wk_callS (rest := []) C0 cl_X12_67 (ok_X12_in hI hw) hP rfl rfl (Nat.le_of_ble_eq_true rfl) (wk_room (by decide) (by decide)) hl.1 dX12_counted_58 ⟨Nat.le_refl _, Nat.le_refl _⟩) hS (fun r9 H locs hw hP hS => ?_)
          have q10 := hw.1
          have hw := hw.2
          refine wk_if_eq hx hb q10 (tgt := 76) dX12_counted_61 (by decide) (fun hh => ?_) (fun hh => ?_)
          · have hw := hw.1 hh
            refine lv_iconst (v := iI (-1)) hx hb dX12_counted_76 rfl ?_
            exact hret _ _ _ _ _ _ hw hP hS dX12_counted_77
          · have hw := hw.2 hh
            refine lv_aload_n hx hb dX12_counted_64 rfl (lv_at hl 0 rfl) ?_
            refine wk_getI C0 fl_X12_228 hP (by decide) sh_65 rfl dX12_counted_65 ?_
            refine lv_iload_n hx hb dX12_counted_68 rfl (lv_at hl 1 rfl) ?_
            refine lv_iload_n hx hb dX12_counted_69 rfl (lv_at hl 2 rfl) ?_
            refine wk_rip (wk_callS (rest := []) C0 cl_X12_198 (ok_X12_word hI hw) hP rfl rfl (Nat.le_of_ble_eq_true rfl) (wk_room (by decide) (by decide)) hl.1 dX12_counted_70 ⟨Nat.le_refl _, Nat.le_refl _⟩) hS (fun r11 H locs hw hP hS => ?_)
            refine lv_goto (tgt := 77) hx hb dX12_counted_73 (by decide) ?_
            exact hret _ _ _ _ _ _ hw hP hS dX12_counted_77
      · have hw := hw.1 hh
        refine lv_aload_n hx hb dX12_counted_37 rfl (lv_at hl 0 rfl) ?_
        refine wk_getI C0 fl_X12_225 hP (by decide) sh_65 rfl dX12_counted_38 ?_
        refine lv_goto (tgt := 77) hx hb dX12_counted_41 (by decide) ?_
        exact hret _ _ _ _ _ _ hw hP hS dX12_counted_77
    · have hw := hw.1 hh
      refine lv_ldc (own := RX12) (v := iI (-1000000003)) hx hb hown (htb _ ki_X12_158) dX12_counted_24 ?_
      exact hret _ _ _ _ _ _ hw hP hS dX12_counted_26
  · have hw := hw.1 hh
    refine lv_ldc (own := RX12) (v := iI (-1000000002)) hx hb hown (htb _ ki_X12_71) dX12_counted_12 ?_
    exact hret _ _ _ _ _ _ hw hP hS dX12_counted_14

set_option maxRecDepth 100000 in
set_option maxHeartbeats 4000000 in
theorem ok_X12_sure {l : Launch} {D : va_G} {cA : Nat → ClassId} {ad : Nat → Nat} (hI : wI ad) {a1 : Int} {sg : Mem} {Q : Int → Mem → Prop} (hw : wp_X12_sure a1 sg Q) : wMi l D cA ad yX12_sure cX12_sure 2 (some .int) 3 [.ref (ad 65), .int (iI a1)] sg Q := by
  refine wk_ofI (by decide) hI (Nat.le_of_ble_eq_true rfl) ?_
  intro p e s m below meth c A QQ ls C0 hret hl hP
  have hx := C0.1
  have hb := C0.2.1
  have hown := C0.2.2.2.1
  have htb := C0.2.2.2.2.1
  have hl : lv_has ls 2 [(0, .ref (ad 65)), (1, .int (iI a1))] := hl
  refine (fun (key : ∀ (H : Heap) (locs : List Loc), wP D cA ad sg H → va_S (wA ad) s.heap H locs → W p l e (rmL 3) s m A below meth c H locs 0 0 QQ (F0 m 0 ls [])) => key _ _ hP va_S.rf) ?_
  intro H locs hP hS
  unfold wp_X12_sure at hw
  refine lv_iload_n hx hb dX12_sure_0 rfl (lv_at hl 1 rfl) ?_
  have q1 := hw.1
  have hw := hw.2
  refine wk_i2l hx hb q1 dX12_sure_1 ?_
  refine lv_lconst (v := iL 1) hx hb dX12_sure_2 rfl ?_
  refine lv_ldc2 (own := RX12) (v := iL 5) hx hb hown (htb _ kl_X12_202) dX12_sure_3 ?_
  refine wk_rip (wk_callS (rest := []) C0 cl_X12_67 (ok_X12_in hI hw) hP rfl rfl (Nat.le_of_ble_eq_true rfl) (wk_room (by decide) (by decide)) hl.1 dX12_sure_6 ⟨Nat.le_refl _, Nat.le_refl _⟩) hS (fun r2 H locs hw hP hS => ?_)
  have q3 := hw.1
  have hw := hw.2
  refine wk_if_ne hx hb q3 (tgt := 15) dX12_sure_9 (by decide) (fun hh => ?_) (fun hh => ?_)
  · have hw := hw.2 hh
    refine lv_aload_n hx hb dX12_sure_15 rfl (lv_at hl 0 rfl) ?_
    refine wk_getR 67 C0 fl_X12_13 hP (by decide) sh_65 rfl dX12_sure_16 ?_
    refine lv_iconst (v := iI 0) hx hb dX12_sure_19 rfl ?_
    refine wk_iald C0 hP (by decide) sh_67 (by decide) (by decide) (by decide) dX12_sure_20 ?_
    rw [show (0 : Int).toNat = 0 from rfl]
    have q4 := hw.1
    have hw := hw.2
    refine wk_if_ne hx hb q4 (tgt := 27) dX12_sure_21 (by decide) (fun hh => ?_) (fun hh => ?_)
    · have hw := hw.2 hh
      refine lv_aload_n hx hb dX12_sure_27 rfl (lv_at hl 0 rfl) ?_
      refine lv_iload_n hx hb dX12_sure_28 rfl (lv_at hl 1 rfl) ?_
      refine wk_rv (wk_callV (rest := []) C0 cl_X12_234 (ok_X12_counts hI hw) hP (by decide) sh_65 rfl rfl rfl (Nat.le_of_ble_eq_true rfl) (wk_room (by decide) (by decide)) hl.1 dX12_sure_29 ⟨Nat.le_refl _, Nat.le_refl _⟩) hS (fun s5 H locs hw hP hS => ?_)
      refine lv_aload_n hx hb dX12_sure_32 rfl (lv_at hl 0 rfl) ?_
      refine wk_getI C0 fl_X12_225 hP (by decide) sh_65 rfl dX12_sure_33 ?_
      have q6 := hw.1
      have hw := hw.2
      refine wk_if_le hx hb q6 (tgt := 46) dX12_sure_36 (by decide) (fun hh => ?_) (fun hh => ?_)
      · have hw := hw.1 hh
        refine lv_iconst (v := iI 0) hx hb dX12_sure_46 rfl ?_
        exact hret _ _ _ _ _ _ hw hP hS dX12_sure_47
      · have hw := hw.2 hh
        refine lv_aload_n hx hb dX12_sure_39 rfl (lv_at hl 0 rfl) ?_
        refine wk_getI C0 fl_X12_231 hP (by decide) sh_65 rfl dX12_sure_40 ?_
        refine lv_goto (tgt := 47) hx hb dX12_sure_43 (by decide) ?_
        exact hret _ _ _ _ _ _ hw hP hS dX12_sure_47
    · have hw := hw.1 hh
      refine lv_ldc (own := RX12) (v := iI (-1000000003)) hx hb hown (htb _ ki_X12_158) dX12_sure_24 ?_
      exact hret _ _ _ _ _ _ hw hP hS dX12_sure_26
  · have hw := hw.1 hh
    refine lv_ldc (own := RX12) (v := iI (-1000000002)) hx hb hown (htb _ ki_X12_71) dX12_sure_12 ?_
    exact hret _ _ _ _ _ _ hw hP hS dX12_sure_14

set_option maxRecDepth 100000 in
set_option maxHeartbeats 4000000 in
theorem ok_X12_write {l : Launch} {D : va_G} {cA : Nat → ClassId} {ad : Nat → Nat} (hI : wI ad) {a1 : Int} {sg : Mem} {Q : Int → Mem → Prop} (hw : wp_X12_write a1 sg Q) : wMi l D cA ad yX12_write cX12_write 2 (some .int) 2 [.ref (ad 65), .int (iI a1)] sg Q := by
  refine wk_ofI (by decide) hI (Nat.le_of_ble_eq_true rfl) ?_
  intro p e s m below meth c A QQ ls C0 hret hl hP
  have hx := C0.1
  have hb := C0.2.1
  have hown := C0.2.2.2.1
  have htb := C0.2.2.2.2.1
  have hl : lv_has ls 2 [(0, .ref (ad 65)), (1, .int (iI a1))] := hl
  refine (fun (key : ∀ (H : Heap) (locs : List Loc), wP D cA ad sg H → va_S (wA ad) s.heap H locs → W p l e (rmL 2) s m A below meth c H locs 0 0 QQ (F0 m 0 ls [])) => key _ _ hP va_S.rf) ?_
  intro H locs hP hS
  unfold wp_X12_write at hw
  refine lv_iload_n hx hb dX12_write_0 rfl (lv_at hl 1 rfl) ?_
  have q1 := hw.1
  have hw := hw.2
  refine wk_i2l hx hb q1 dX12_write_1 ?_
  refine lv_lconst (v := iL 0) hx hb dX12_write_2 rfl ?_
  refine lv_ldc2 (own := RX12) (v := iL 3) hx hb hown (htb _ kl_X12_156) dX12_write_3 ?_
  refine wk_rip (wk_callS (rest := []) C0 cl_X12_67 (ok_X12_in hI hw) hP rfl rfl (Nat.le_of_ble_eq_true rfl) (wk_room (by decide) (by decide)) hl.1 dX12_write_6 ⟨Nat.le_refl _, Nat.le_refl _⟩) hS (fun r2 H locs hw hP hS => ?_)
  have q3 := hw.1
  have hw := hw.2
  refine wk_if_ne hx hb q3 (tgt := 15) dX12_write_9 (by decide) (fun hh => ?_) (fun hh => ?_)
  · have hw := hw.2 hh
    refine lv_aload_n hx hb dX12_write_15 rfl (lv_at hl 0 rfl) ?_
    refine wk_getI C0 fl_X12_116 hP (by decide) sh_65 rfl dX12_write_16 ?_
    refine lv_bipush (v := iI 20) hx hb dX12_write_19 (by decide +kernel) ?_
    have q4 := hw.1
    have hw := hw.2
    refine wk_icmp_ne hx hb q4 ⟨by decide, by decide⟩ (tgt := 27) dX12_write_21 (by decide) (fun hh => ?_) (fun hh => ?_)
    · have hw := hw.2 hh
      refine lv_aload_n hx hb dX12_write_27 rfl (lv_at hl 0 rfl) ?_
      refine wk_getR 79 C0 fl_X12_49 hP (by decide) sh_65 rfl dX12_write_28 ?_
      refine lv_aload_n hx hb dX12_write_31 rfl (lv_at hl 0 rfl) ?_
      refine wk_getI C0 fl_X12_116 hP (by decide) sh_65 rfl dX12_write_32 ?_
      refine lv_iload_n hx hb dX12_write_35 rfl (lv_at hl 1 rfl) ?_
      have q5 := hw.1
      have hw := hw.2
      refine wk_iast C0 hP hS (by decide) sh_79 q5.1 q5.2 (by decide) dX12_write_36 (fun s6 H locs es6 hP hS => ?_)
      have hw := hw s6 es6
      refine lv_aload_n hx hb dX12_write_37 rfl (lv_at hl 0 rfl) ?_
      refine lv_dup hx hb dX12_write_38 rfl ?_
      refine wk_getI C0 fl_X12_116 hP (by decide) sh_65 rfl dX12_write_39 ?_
      refine lv_iconst (v := iI 1) hx hb dX12_write_42 rfl ?_
      refine wk_iadd hx hb dX12_write_43 ?_
      refine wk_putI C0 fl_X12_116 rfl rfl hP hS (by decide) sh_65 rfl dX12_write_44 (fun s7 H locs es7 hP hS => ?_)
      have hw := hw s7 es7
      refine lv_aload_n hx hb dX12_write_47 rfl (lv_at hl 0 rfl) ?_
      refine wk_getI C0 fl_X12_116 hP (by decide) sh_65 rfl dX12_write_48 ?_
      exact hret _ _ _ _ _ _ hw hP hS dX12_write_51
    · have hw := hw.1 hh
      refine lv_ldc (own := RX12) (v := iI (-1000000004)) hx hb hown (htb _ ki_X12_75) dX12_write_24 ?_
      exact hret _ _ _ _ _ _ hw hP hS dX12_write_26
  · have hw := hw.1 hh
    refine lv_ldc (own := RX12) (v := iI (-1000000001)) hx hb hown (htb _ ki_X12_152) dX12_write_12 ?_
    exact hret _ _ _ _ _ _ hw hP hS dX12_write_14

set_option maxRecDepth 100000 in
set_option maxHeartbeats 4000000 in
theorem ok_X12_judge {l : Launch} {D : va_G} {cA : Nat → ClassId} {ad : Nat → Nat} (hI : wI ad) {a1 : Int} {sg : Mem} {Q : Int → Mem → Prop} (hw : wp_X12_judge a1 sg Q) : wMi l D cA ad yX12_judge cX12_judge 4 (some .int) 3 [.ref (ad 65), .int (iI a1)] sg Q := by
  refine wk_ofI (by decide) hI (Nat.le_of_ble_eq_true rfl) ?_
  intro p e s m below meth c A QQ ls C0 hret hl hP
  have hx := C0.1
  have hb := C0.2.1
  have hown := C0.2.2.2.1
  have htb := C0.2.2.2.2.1
  have hl : lv_has ls 4 [(0, .ref (ad 65)), (1, .int (iI a1))] := hl
  refine (fun (key : ∀ (H : Heap) (locs : List Loc), wP D cA ad sg H → va_S (wA ad) s.heap H locs → W p l e (rmL 3) s m A below meth c H locs 0 0 QQ (F0 m 0 ls [])) => key _ _ hP va_S.rf) ?_
  intro H locs hP hS
  unfold wp_X12_judge at hw
  refine lv_iload_n hx hb dX12_judge_0 rfl (lv_at hl 1 rfl) ?_
  have q1 := hw.1
  have hw := hw.2
  refine wk_i2l hx hb q1 dX12_judge_1 ?_
  refine lv_lconst (v := iL 0) hx hb dX12_judge_2 rfl ?_
  refine lv_lconst (v := iL 1) hx hb dX12_judge_3 rfl ?_
  refine wk_rip (wk_callS (rest := []) C0 cl_X12_67 (ok_X12_in hI hw) hP rfl rfl (Nat.le_of_ble_eq_true rfl) (wk_room (by decide) (by decide)) hl.1 dX12_judge_4 ⟨Nat.le_refl _, Nat.le_refl _⟩) hS (fun r2 H locs hw hP hS => ?_)
  have q3 := hw.1
  have hw := hw.2
  refine wk_if_ne hx hb q3 (tgt := 13) dX12_judge_7 (by decide) (fun hh => ?_) (fun hh => ?_)
  · have hw := hw.2 hh
    refine lv_aload_n hx hb dX12_judge_13 rfl (lv_at hl 0 rfl) ?_
    refine wk_rip (wk_callV (rest := []) C0 cl_X12_122 (ok_X12_inBed hI hw) hP (by decide) sh_65 rfl rfl rfl (Nat.le_of_ble_eq_true rfl) (wk_room (by decide) (by decide)) hl.1 dX12_judge_14 ⟨Nat.le_refl _, Nat.le_refl _⟩) hS (fun r4 H locs hw hP hS => ?_)
    have q5 := hw.1
    have hw := hw.2
    refine wk_if_ne hx hb q5 (tgt := 23) dX12_judge_17 (by decide) (fun hh => ?_) (fun hh => ?_)
    · have hw := hw.2 hh
      refine lv_aload_n hx hb dX12_judge_23 rfl (lv_at hl 0 rfl) ?_
      refine wk_rv (wk_callV (rest := []) C0 cl_X12_189 (ok_X12_asides hI hw) hP (by decide) sh_65 rfl rfl rfl (Nat.le_of_ble_eq_true rfl) (wk_room (by decide) (by decide)) hl.1 dX12_judge_24 ⟨Nat.le_refl _, Nat.le_refl _⟩) hS (fun s6 H locs hw hP hS => ?_)
      refine lv_iconst (v := iI (-1)) hx hb dX12_judge_27 rfl ?_
      refine lv_istore_n (lv' := [(2, .int (iI (-1))), (0, .ref (ad 65)), (1, .int (iI a1))]) hx hb dX12_judge_28 rfl hl (by decide) rfl (fun ls hl => ?_)
      refine lv_iconst (v := iI 0) hx hb dX12_judge_29 rfl ?_
      refine lv_istore_n (lv' := [(3, .int (iI 0)), (2, .int (iI (-1))), (0, .ref (ad 65)), (1, .int (iI a1))]) hx hb dX12_judge_30 rfl hl (by decide) rfl (fun ls hl => ?_)
      obtain ⟨I31, hI31, hw⟩ := hw
      have kI31 : ∀ (k31 : Nat) (y2_7 : Int) (y3_8 : Int) (s9 : Mem) (H : Heap) (locs : List Loc) (ls : Array Slot), wP D cA ad s9 H → va_S (wA ad) s.heap H locs → lv_has ls 4 [(0, .ref (ad 65)), (1, .int (iI a1)), (2, .int (iI y2_7)), (3, .int (iI y3_8))] → I31 k31 y2_7 y3_8 s9 → W p l e (rmL 3) s m A below meth c H locs 0 0 QQ (F0 m 31 ls []) := by
        intro k31
        induction k31 using Nat.strongRecOn with
        | _ k31 ih31 =>
          intro y2_7 y3_8 s9 H locs ls hP hS hl hw
          have hw := hI31 k31 y2_7 y3_8 s9 hw
          refine lv_iload_n hx hb dX12_judge_31 rfl (lv_at hl 3 rfl) ?_
          refine lv_aload_n hx hb dX12_judge_32 rfl (lv_at hl 0 rfl) ?_
          refine wk_getI C0 fl_X12_116 hP (by decide) sh_65 rfl dX12_judge_33 ?_
          have q10 := hw.1
          have hw := hw.2
          have q11 := hw.1
          have hw := hw.2
          refine wk_icmp_ge hx hb q10 q11 (tgt := 73) dX12_judge_36 (by decide) (fun hh => ?_) (fun hh => ?_)
          · have hw := hw.1 hh
            refine lv_aload_n hx hb dX12_judge_73 rfl (lv_at hl 0 rfl) ?_
            refine wk_rip (wk_callV (rest := []) C0 cl_X12_145 (ok_X12_coldest hI hw) hP (by decide) sh_65 rfl rfl rfl (Nat.le_of_ble_eq_true rfl) (wk_room (by decide) (by decide)) hl.1 dX12_judge_74 ⟨Nat.le_refl _, Nat.le_refl _⟩) hS (fun r12 H locs hw hP hS => ?_)
            refine lv_istore_n (lv' := [(3, .int (iI r12)), (0, .ref (ad 65)), (1, .int (iI a1)), (2, .int (iI y2_7))]) hx hb dX12_judge_77 rfl hl (by decide) rfl (fun ls hl => ?_)
            refine lv_aload_n hx hb dX12_judge_78 rfl (lv_at hl 1 rfl) ?_
            refine wk_rv (wk_callV (rest := []) C0 cl_X12_195 (ok_X12_backs hI hw) hP (by decide) sh_65 rfl rfl rfl (Nat.le_of_ble_eq_true rfl) (wk_room (by decide) (by decide)) hl.1 dX12_judge_79 ⟨Nat.le_refl _, Nat.le_refl _⟩) hS (fun s13 H locs hw hP hS => ?_)
            refine lv_iload_n hx hb dX12_judge_82 rfl (lv_at hl 2 rfl) ?_
            refine wk_if_ne hx hb q1 (tgt := 90) dX12_judge_83 (by decide) (fun hh => ?_) (fun hh => ?_)
            · have hw := hw.2 hh
              refine lv_iload_n hx hb dX12_judge_90 rfl (lv_at hl 0 rfl) ?_
              exact hret _ _ _ _ _ _ hw hP hS dX12_judge_91
            · have hw := hw.1 hh
              refine lv_iload_n hx hb dX12_judge_86 rfl (lv_at hl 3 rfl) ?_
              refine lv_goto (tgt := 91) hx hb dX12_judge_87 (by decide) ?_
              exact hret _ _ _ _ _ _ hw hP hS dX12_judge_91
          · have hw := hw.2 hh
            refine lv_aload_n hx hb dX12_judge_39 rfl (lv_at hl 0 rfl) ?_
            refine lv_aload_n hx hb dX12_judge_40 rfl (lv_at hl 0 rfl) ?_
            refine wk_getR 79 C0 fl_X12_49 hP (by decide) sh_65 rfl dX12_judge_41 ?_
            refine lv_iload_n hx hb dX12_judge_44 rfl (lv_at hl 3 rfl) ?_
            have q14 := hw.1
            have hw := hw.2
            refine wk_iald C0 hP (by decide) sh_79 q14.1 q14.2 (by decide) dX12_judge_45 ?_
            refine wk_rv (wk_callV (rest := []) C0 cl_X12_166 (ok_X12_goesOn hI hw) hP (by decide) sh_65 rfl rfl rfl (Nat.le_of_ble_eq_true rfl) (wk_room (by decide) (by decide)) hl.1 dX12_judge_46 ⟨Nat.le_refl _, Nat.le_refl _⟩) hS (fun s15 H locs hw hP hS => ?_)
            refine lv_iload_n hx hb dX12_judge_49 rfl (lv_at hl 2 rfl) ?_
            refine lv_iconst (v := iI (-1)) hx hb dX12_judge_50 rfl ?_
            have q16 := hw.1
            have hw := hw.2
            obtain ⟨X66, hX66, hw⟩ := hw
            have kX66 : ∀ (v17 : Int) (H : Heap) (locs : List Loc) (ls : Array Slot), wP D cA ad s15 H → va_S (wA ad) s.heap H locs → lv_has ls 4 [(0, .ref (ad 65)), (1, .int (iI a1)), (3, .int (iI y3_8))] → X66 v17 → W p l e (rmL 3) s m A below meth c H locs 0 0 QQ (F0 m 66 ls [.int (iI v17)]) := by
              intro v17 H locs ls hP hS hl hw
              have hw := hX66 v17 hw
              refine lv_istore_n (lv' := [(2, .int (iI v17)), (0, .ref (ad 65)), (1, .int (iI a1)), (3, .int (iI y3_8))]) hx hb dX12_judge_66 rfl hl (by decide) rfl (fun ls hl => ?_)
              refine wk_iinc (lv' := fun x3_18 => [(3, .int (iI x3_18)), (2, .int (iI v17)), (0, .ref (ad 65)), (1, .int (iI a1))]) hx hb dX12_judge_67 hl (k := 3) rfl (by decide) (fun _ => rfl) (fun x3_18 ls ex3_18 hl => ?_)
              have hw := hw x3_18 ex3_18
              refine lv_goto (tgt := 31) hx hb dX12_judge_70 (by decide) ?_
              obtain ⟨k19, hk19, hw⟩ := hw
              exact ih31 k19 hk19 v17 x3_18 s15 _ _ _ hP hS (lv_sub hl [2, 3, 1, 0] rfl) hw
            obtain ⟨X65, hX65, hw⟩ := hw
            have kX65 : ∀ (H : Heap) (locs : List Loc) (ls : Array Slot), wP D cA ad s15 H → va_S (wA ad) s.heap H locs → lv_has ls 4 [(0, .ref (ad 65)), (1, .int (iI a1)), (2, .int (iI y2_7)), (3, .int (iI y3_8))] → X65 → W p l e (rmL 3) s m A below meth c H locs 0 0 QQ (F0 m 65 ls []) := by
              intro H locs ls hP hS hl hw
              have hw := hX65 hw
              refine lv_iload_n hx hb dX12_judge_65 rfl (lv_at hl 2 rfl) ?_
              exact kX66 y2_7 _ _ _ hP hS (lv_sub hl [0, 1, 3] rfl) hw
            refine wk_icmp_ne hx hb q16 ⟨by decide, by decide⟩ (tgt := 65) dX12_judge_51 (by decide) (fun hh => ?_) (fun hh => ?_)
            · have hw := hw.2 hh
              exact kX65  _ _ _ hP hS (lv_sub hl [0, 1, 2, 3] rfl) hw
            · have hw := hw.1 hh
              refine lv_aload_n hx hb dX12_judge_54 rfl (lv_at hl 0 rfl) ?_
              refine wk_rip (wk_callV (rest := []) C0 cl_X12_142 (ok_X12_awake hI hw) hP (by decide) sh_65 rfl rfl rfl (Nat.le_of_ble_eq_true rfl) (wk_room (by decide) (by decide)) hl.1 dX12_judge_55 ⟨Nat.le_refl _, Nat.le_refl _⟩) hS (fun r20 H locs hw hP hS => ?_)
              have q21 := hw.1
              have hw := hw.2
              refine wk_if_eq hx hb q21 (tgt := 65) dX12_judge_58 (by decide) (fun hh => ?_) (fun hh => ?_)
              · have hw := hw.1 hh
                exact kX65  _ _ _ hP hS (lv_sub hl [0, 1, 2, 3] rfl) hw
              · have hw := hw.2 hh
                refine lv_iload_n hx hb dX12_judge_61 rfl (lv_at hl 3 rfl) ?_
                refine lv_goto (tgt := 66) hx hb dX12_judge_62 (by decide) ?_
                exact kX66 y3_8 _ _ _ hP hS (lv_sub hl [0, 1, 3] rfl) hw
      obtain ⟨k22, hw⟩ := hw
      exact kI31 k22 (-1) 0 s6 _ _ _ hP hS (lv_sub hl [2, 3, 1, 0] rfl) hw
    · have hw := hw.1 hh
      refine lv_ldc (own := RX12) (v := iI (-1000000003)) hx hb hown (htb _ ki_X12_158) dX12_judge_20 ?_
      exact hret _ _ _ _ _ _ hw hP hS dX12_judge_22
  · have hw := hw.1 hh
    refine lv_ldc (own := RX12) (v := iI (-1000000002)) hx hb hown (htb _ ki_X12_71) dX12_judge_10 ?_
    exact hret _ _ _ _ _ _ hw hP hS dX12_judge_12

set_option maxRecDepth 100000 in
set_option maxHeartbeats 4000000 in
theorem ok_X12_tear {l : Launch} {D : va_G} {cA : Nat → ClassId} {ad : Nat → Nat} (hI : wI ad) {sg : Mem} {Q : Int → Mem → Prop} (hw : wp_X12_tear sg Q) : wMi l D cA ad yX12_tear cX12_tear 2 (some .int) 1 [.ref (ad 65)] sg Q := by
  refine wk_ofI (by decide) hI (Nat.le_of_ble_eq_true rfl) ?_
  intro p e s m below meth c A QQ ls C0 hret hl hP
  have hx := C0.1
  have hb := C0.2.1
  have hown := C0.2.2.2.1
  have htb := C0.2.2.2.2.1
  have hl : lv_has ls 2 [(0, .ref (ad 65))] := hl
  refine (fun (key : ∀ (H : Heap) (locs : List Loc), wP D cA ad sg H → va_S (wA ad) s.heap H locs → W p l e (rmL 1) s m A below meth c H locs 0 0 QQ (F0 m 0 ls [])) => key _ _ hP va_S.rf) ?_
  intro H locs hP hS
  unfold wp_X12_tear at hw
  refine lv_aload_n hx hb dX12_tear_0 rfl (lv_at hl 0 rfl) ?_
  refine wk_getI C0 fl_X12_113 hP (by decide) sh_65 rfl dX12_tear_1 ?_
  refine lv_aload_n hx hb dX12_tear_4 rfl (lv_at hl 0 rfl) ?_
  refine wk_getI C0 fl_X12_116 hP (by decide) sh_65 rfl dX12_tear_5 ?_
  refine wk_iadd hx hb dX12_tear_8 ?_
  refine wk_top (fun x1_1 ex1_1 => ?_)
  have hw := hw x1_1 ex1_1
  refine lv_istore_n (lv' := [(1, .int (iI x1_1)), (0, .ref (ad 65))]) hx hb dX12_tear_9 rfl hl (by decide) rfl (fun ls hl => ?_)
  refine lv_aload_n hx hb dX12_tear_10 rfl (lv_at hl 1 rfl) ?_
  refine lv_iconst (v := iI 0) hx hb dX12_tear_11 rfl ?_
  refine wk_putI C0 fl_X12_113 rfl rfl hP hS (by decide) sh_65 rfl dX12_tear_12 (fun s2 H locs es2 hP hS => ?_)
  have hw := hw s2 es2
  refine lv_aload_n hx hb dX12_tear_15 rfl (lv_at hl 1 rfl) ?_
  refine lv_iconst (v := iI 0) hx hb dX12_tear_16 rfl ?_
  refine wk_putI C0 fl_X12_116 rfl rfl hP hS (by decide) sh_65 rfl dX12_tear_17 (fun s3 H locs es3 hP hS => ?_)
  have hw := hw s3 es3
  refine lv_iload_n hx hb dX12_tear_20 rfl (lv_at hl 0 rfl) ?_
  exact hret _ _ _ _ _ _ hw hP hS dX12_tear_21

set_option maxRecDepth 100000 in
set_option maxHeartbeats 4000000 in
theorem ok_X12_seed {l : Launch} {D : va_G} {cA : Nat → ClassId} {ad : Nat → Nat} (hI : wI ad) {a1 : Int} {sg : Mem} {Q : Int → Mem → Prop} (hw : wp_X12_seed a1 sg Q) : wMi l D cA ad yX12_seed cX12_seed 3 (some .int) 1 [.ref (ad 65), .int (iI a1)] sg Q := by
  refine wk_ofI (by decide) hI (Nat.le_of_ble_eq_true rfl) ?_
  intro p e s m below meth c A QQ ls C0 hret hl hP
  have hx := C0.1
  have hb := C0.2.1
  have hown := C0.2.2.2.1
  have htb := C0.2.2.2.2.1
  have hl : lv_has ls 3 [(0, .ref (ad 65)), (1, .int (iI a1))] := hl
  refine (fun (key : ∀ (H : Heap) (locs : List Loc), wP D cA ad sg H → va_S (wA ad) s.heap H locs → W p l e (rmL 1) s m A below meth c H locs 0 0 QQ (F0 m 0 ls [])) => key _ _ hP va_S.rf) ?_
  intro H locs hP hS
  unfold wp_X12_seed at hw
  refine lv_iload_n hx hb dX12_seed_0 rfl (lv_at hl 1 rfl) ?_
  have q1 := hw.1
  have hw := hw.2
  refine wk_if_ge hx hb q1 (tgt := 7) dX12_seed_1 (by decide) (fun hh => ?_) (fun hh => ?_)
  · have hw := hw.1 hh
    refine lv_aload_n hx hb dX12_seed_7 rfl (lv_at hl 0 rfl) ?_
    refine wk_getI C0 fl_X12_174 hP (by decide) sh_65 rfl dX12_seed_8 ?_
    refine wk_top (fun x2_2 ex2_2 => ?_)
    have hw := hw x2_2 ex2_2
    refine lv_istore_n (lv' := [(2, .int (iI x2_2)), (0, .ref (ad 65)), (1, .int (iI a1))]) hx hb dX12_seed_11 rfl hl (by decide) rfl (fun ls hl => ?_)
    refine lv_aload_n hx hb dX12_seed_12 rfl (lv_at hl 1 rfl) ?_
    refine lv_iload_n hx hb dX12_seed_13 rfl (lv_at hl 2 rfl) ?_
    refine wk_putI C0 fl_X12_174 rfl rfl hP hS (by decide) sh_65 rfl dX12_seed_14 (fun s3 H locs es3 hP hS => ?_)
    have hw := hw s3 es3
    refine lv_iload_n hx hb dX12_seed_17 rfl (lv_at hl 0 rfl) ?_
    exact hret _ _ _ _ _ _ hw hP hS dX12_seed_18
  · have hw := hw.2 hh
    refine lv_ldc (own := RX12) (v := iI (-1000000002)) hx hb hown (htb _ ki_X12_71) dX12_seed_4 ?_
    exact hret _ _ _ _ _ _ hw hP hS dX12_seed_6

set_option maxRecDepth 100000 in
set_option maxHeartbeats 4000000 in
theorem ok_X12_keep {l : Launch} {D : va_G} {cA : Nat → ClassId} {ad : Nat → Nat} (hI : wI ad) {a1 : Int} {sg : Mem} {Q : Int → Mem → Prop} (hw : wp_X12_keep a1 sg Q) : wMi l D cA ad yX12_keep cX12_keep 3 (some .int) 2 [.ref (ad 65), .int (iI a1)] sg Q := by
  refine wk_ofI (by decide) hI (Nat.le_of_ble_eq_true rfl) ?_
  intro p e s m below meth c A QQ ls C0 hret hl hP
  have hx := C0.1
  have hb := C0.2.1
  have hown := C0.2.2.2.1
  have htb := C0.2.2.2.2.1
  have hl : lv_has ls 3 [(0, .ref (ad 65)), (1, .int (iI a1))] := hl
  refine (fun (key : ∀ (H : Heap) (locs : List Loc), wP D cA ad sg H → va_S (wA ad) s.heap H locs → W p l e (rmL 2) s m A below meth c H locs 0 0 QQ (F0 m 0 ls [])) => key _ _ hP va_S.rf) ?_
  intro H locs hP hS
  unfold wp_X12_keep at hw
  refine lv_iload_n hx hb dX12_keep_0 rfl (lv_at hl 1 rfl) ?_
  have q1 := hw.1
  have hw := hw.2
  refine wk_i2l hx hb q1 dX12_keep_1 ?_
  refine lv_lconst (v := iL 0) hx hb dX12_keep_2 rfl ?_
  refine lv_lconst (v := iL 1) hx hb dX12_keep_3 rfl ?_
  refine wk_rip (wk_callS (rest := []) C0 cl_X12_67 (ok_X12_in hI hw) hP rfl rfl (Nat.le_of_ble_eq_true rfl) (wk_room (by decide) (by decide)) hl.1 dX12_keep_4 ⟨Nat.le_refl _, Nat.le_refl _⟩) hS (fun r2 H locs hw hP hS => ?_)
  have q3 := hw.1
  have hw := hw.2
  refine wk_if_ne hx hb q3 (tgt := 13) dX12_keep_7 (by decide) (fun hh => ?_) (fun hh => ?_)
  · have hw := hw.2 hh
    refine lv_aload_n hx hb dX12_keep_13 rfl (lv_at hl 0 rfl) ?_
    refine wk_getR 80 C0 fl_X12_52 hP (by decide) sh_65 rfl dX12_keep_14 ?_
    refine lv_bipush (v := iI 15) hx hb dX12_keep_17 (by decide +kernel) ?_
    refine lv_iload_n hx hb dX12_keep_19 rfl (lv_at hl 1 rfl) ?_
    refine wk_imul hx hb dX12_keep_20 ?_
    refine lv_iconst (v := iI 1) hx hb dX12_keep_21 rfl ?_
    have q4 := hw.1
    have hw := hw.2
    refine wk_iast C0 hP hS (by decide) sh_80 q4.1 q4.2 (by decide) dX12_keep_22 (fun s5 H locs es5 hP hS => ?_)
    have hw := hw s5 es5
    refine lv_aload_n hx hb dX12_keep_23 rfl (lv_at hl 0 rfl) ?_
    refine wk_getR 80 C0 fl_X12_52 hP (by decide) sh_65 rfl dX12_keep_24 ?_
    refine lv_bipush (v := iI 15) hx hb dX12_keep_27 (by decide +kernel) ?_
    refine lv_iload_n hx hb dX12_keep_29 rfl (lv_at hl 1 rfl) ?_
    refine wk_imul hx hb dX12_keep_30 ?_
    refine lv_iconst (v := iI 1) hx hb dX12_keep_31 rfl ?_
    refine wk_iadd hx hb dX12_keep_32 ?_
    refine lv_aload_n hx hb dX12_keep_33 rfl (lv_at hl 0 rfl) ?_
    refine wk_getI C0 fl_X12_174 hP (by decide) sh_65 rfl dX12_keep_34 ?_
    have q6 := hw.1
    have hw := hw.2
    refine wk_iast C0 hP hS (by decide) sh_80 q6.1 q6.2 (by decide) dX12_keep_37 (fun s7 H locs es7 hP hS => ?_)
    have hw := hw s7 es7
    refine lv_iconst (v := iI 0) hx hb dX12_keep_38 rfl ?_
    refine lv_istore_n (lv' := [(2, .int (iI 0)), (0, .ref (ad 65)), (1, .int (iI a1))]) hx hb dX12_keep_39 rfl hl (by decide) rfl (fun ls hl => ?_)
    obtain ⟨I40, hI40, hw⟩ := hw
    have kI40 : ∀ (k40 : Nat) (y2_8 : Int) (s9 : Mem) (H : Heap) (locs : List Loc) (ls : Array Slot), wP D cA ad s9 H → va_S (wA ad) s.heap H locs → lv_has ls 3 [(0, .ref (ad 65)), (1, .int (iI a1)), (2, .int (iI y2_8))] → I40 k40 y2_8 s9 → W p l e (rmL 2) s m A below meth c H locs 0 0 QQ (F0 m 40 ls []) := by
      intro k40
      induction k40 using Nat.strongRecOn with
      | _ k40 ih40 =>
        intro y2_8 s9 H locs ls hP hS hl hw
        have hw := hI40 k40 y2_8 s9 hw
        refine lv_iload_n hx hb dX12_keep_40 rfl (lv_at hl 2 rfl) ?_
        refine lv_bipush (v := iI 13) hx hb dX12_keep_41 (by decide +kernel) ?_
        have q10 := hw.1
        have hw := hw.2
        refine wk_icmp_ge hx hb q10 ⟨by decide, by decide⟩ (tgt := 71) dX12_keep_43 (by decide) (fun hh => ?_) (fun hh => ?_)
        · have hw := hw.1 hh
          refine lv_aload_n hx hb dX12_keep_71 rfl (lv_at hl 0 rfl) ?_
          refine lv_iconst (v := iI 0) hx hb dX12_keep_72 rfl ?_
          refine wk_putI C0 fl_X12_119 rfl rfl hP hS (by decide) sh_65 rfl dX12_keep_73 (fun s11 H locs es11 hP hS => ?_)
          have hw := hw s11 es11
          refine lv_iconst (v := iI 1) hx hb dX12_keep_76 rfl ?_
          exact hret _ _ _ _ _ _ hw hP hS dX12_keep_77
        · have hw := hw.2 hh
          refine lv_aload_n hx hb dX12_keep_46 rfl (lv_at hl 0 rfl) ?_
          refine wk_getR 80 C0 fl_X12_52 hP (by decide) sh_65 rfl dX12_keep_47 ?_
          refine lv_bipush (v := iI 15) hx hb dX12_keep_50 (by decide +kernel) ?_
          refine lv_iload_n hx hb dX12_keep_52 rfl (lv_at hl 1 rfl) ?_
          refine wk_imul hx hb dX12_keep_53 ?_
          refine lv_iconst (v := iI 2) hx hb dX12_keep_54 rfl ?_
          refine wk_iadd hx hb dX12_keep_55 ?_
          refine lv_iload_n hx hb dX12_keep_56 rfl (lv_at hl 2 rfl) ?_
          refine wk_iadd hx hb dX12_keep_57 ?_
          refine lv_aload_n hx hb dX12_keep_58 rfl (lv_at hl 0 rfl) ?_
          refine wk_getR 69 C0 fl_X12_19 hP (by decide) sh_65 rfl dX12_keep_59 ?_
          refine lv_iload_n hx hb dX12_keep_62 rfl (lv_at hl 2 rfl) ?_
          have q12 := hw.1
          have hw := hw.2
          refine wk_iald C0 hP (by decide) sh_69 q12.1 q12.2 (by decide) dX12_keep_63 ?_
          have q13 := hw.1
          have hw := hw.2
          refine wk_iast C0 hP hS (by decide) sh_80 q13.1 q13.2 (by decide) dX12_keep_64 (fun s14 H locs es14 hP hS => ?_)
          have hw := hw s14 es14
          refine wk_iinc (lv' := fun x2_15 => [(2, .int (iI x2_15)), (0, .ref (ad 65)), (1, .int (iI a1))]) hx hb dX12_keep_65 hl (k := 2) rfl (by decide) (fun _ => rfl) (fun x2_15 ls ex2_15 hl => ?_)
          have hw := hw x2_15 ex2_15
          refine lv_goto (tgt := 40) hx hb dX12_keep_68 (by decide) ?_
          obtain ⟨k16, hk16, hw⟩ := hw
          exact ih40 k16 hk16 x2_15 s14 _ _ _ hP hS (lv_sub hl [1, 2, 0] rfl) hw
    obtain ⟨k17, hw⟩ := hw
    exact kI40 k17 0 s7 _ _ _ hP hS (lv_sub hl [1, 2, 0] rfl) hw
  · have hw := hw.1 hh
    refine lv_ldc (own := RX12) (v := iI (-1000000001)) hx hb hown (htb _ ki_X12_152) dX12_keep_10 ?_
    exact hret _ _ _ _ _ _ hw hP hS dX12_keep_12

set_option maxRecDepth 100000 in
set_option maxHeartbeats 4000000 in
theorem ok_X12_goBack {l : Launch} {D : va_G} {cA : Nat → ClassId} {ad : Nat → Nat} (hI : wI ad) {a1 : Int} {sg : Mem} {Q : Int → Mem → Prop} (hw : wp_X12_goBack a1 sg Q) : wMi l D cA ad yX12_goBack cX12_goBack 3 (some .int) 2 [.ref (ad 65), .int (iI a1)] sg Q := by
  refine wk_ofI (by decide) hI (Nat.le_of_ble_eq_true rfl) ?_
  intro p e s m below meth c A QQ ls C0 hret hl hP
  have hx := C0.1
  have hb := C0.2.1
  have hown := C0.2.2.2.1
  have htb := C0.2.2.2.2.1
  have hl : lv_has ls 3 [(0, .ref (ad 65)), (1, .int (iI a1))] := hl
  refine (fun (key : ∀ (H : Heap) (locs : List Loc), wP D cA ad sg H → va_S (wA ad) s.heap H locs → W p l e (rmL 2) s m A below meth c H locs 0 0 QQ (F0 m 0 ls [])) => key _ _ hP va_S.rf) ?_
  intro H locs hP hS
  unfold wp_X12_goBack at hw
  refine lv_iload_n hx hb dX12_goBack_0 rfl (lv_at hl 1 rfl) ?_
  have q1 := hw.1
  have hw := hw.2
  refine wk_i2l hx hb q1 dX12_goBack_1 ?_
  refine lv_lconst (v := iL 0) hx hb dX12_goBack_2 rfl ?_
  refine lv_lconst (v := iL 1) hx hb dX12_goBack_3 rfl ?_
  refine wk_rip (wk_callS (rest := []) C0 cl_X12_67 (ok_X12_in hI hw) hP rfl rfl (Nat.le_of_ble_eq_true rfl) (wk_room (by decide) (by decide)) hl.1 dX12_goBack_4 ⟨Nat.le_refl _, Nat.le_refl _⟩) hS (fun r2 H locs hw hP hS => ?_)
  have q3 := hw.1
  have hw := hw.2
  refine wk_if_ne hx hb q3 (tgt := 13) dX12_goBack_7 (by decide) (fun hh => ?_) (fun hh => ?_)
  · have hw := hw.2 hh
    refine lv_aload_n hx hb dX12_goBack_13 rfl (lv_at hl 0 rfl) ?_
    refine wk_getR 80 C0 fl_X12_52 hP (by decide) sh_65 rfl dX12_goBack_14 ?_
    refine lv_bipush (v := iI 15) hx hb dX12_goBack_17 (by decide +kernel) ?_
    refine lv_iload_n hx hb dX12_goBack_19 rfl (lv_at hl 1 rfl) ?_
    refine wk_imul hx hb dX12_goBack_20 ?_
    have q4 := hw.1
    have hw := hw.2
    refine wk_iald C0 hP (by decide) sh_80 q4.1 q4.2 (by decide) dX12_goBack_21 ?_
    have q5 := hw.1
    have hw := hw.2
    refine wk_if_ne hx hb q5 (tgt := 28) dX12_goBack_22 (by decide) (fun hh => ?_) (fun hh => ?_)
    · have hw := hw.2 hh
      refine lv_aload_n hx hb dX12_goBack_28 rfl (lv_at hl 0 rfl) ?_
      refine lv_aload_n hx hb dX12_goBack_29 rfl (lv_at hl 0 rfl) ?_
      refine wk_getR 80 C0 fl_X12_52 hP (by decide) sh_65 rfl dX12_goBack_30 ?_
      refine lv_bipush (v := iI 15) hx hb dX12_goBack_33 (by decide +kernel) ?_
      refine lv_iload_n hx hb dX12_goBack_35 rfl (lv_at hl 1 rfl) ?_
      refine wk_imul hx hb dX12_goBack_36 ?_
      refine lv_iconst (v := iI 1) hx hb dX12_goBack_37 rfl ?_
      refine wk_iadd hx hb dX12_goBack_38 ?_
      have q6 := hw.1
      have hw := hw.2
      refine wk_iald C0 hP (by decide) sh_80 q6.1 q6.2 (by decide) dX12_goBack_39 ?_
      refine wk_putI C0 fl_X12_174 rfl rfl hP hS (by decide) sh_65 rfl dX12_goBack_40 (fun s7 H locs es7 hP hS => ?_)
      have hw := hw s7 es7
      refine lv_iconst (v := iI 0) hx hb dX12_goBack_43 rfl ?_
      refine lv_istore_n (lv' := [(2, .int (iI 0)), (0, .ref (ad 65)), (1, .int (iI a1))]) hx hb dX12_goBack_44 rfl hl (by decide) rfl (fun ls hl => ?_)
      obtain ⟨I45, hI45, hw⟩ := hw
      have kI45 : ∀ (k45 : Nat) (y2_8 : Int) (s9 : Mem) (H : Heap) (locs : List Loc) (ls : Array Slot), wP D cA ad s9 H → va_S (wA ad) s.heap H locs → lv_has ls 3 [(0, .ref (ad 65)), (1, .int (iI a1)), (2, .int (iI y2_8))] → I45 k45 y2_8 s9 → W p l e (rmL 2) s m A below meth c H locs 0 0 QQ (F0 m 45 ls []) := by
        intro k45
        induction k45 using Nat.strongRecOn with
        | _ k45 ih45 =>
          intro y2_8 s9 H locs ls hP hS hl hw
          have hw := hI45 k45 y2_8 s9 hw
          refine lv_iload_n hx hb dX12_goBack_45 rfl (lv_at hl 2 rfl) ?_
          refine lv_bipush (v := iI 13) hx hb dX12_goBack_46 (by decide +kernel) ?_
          have q10 := hw.1
          have hw := hw.2
          refine wk_icmp_ge hx hb q10 ⟨by decide, by decide⟩ (tgt := 76) dX12_goBack_48 (by decide) (fun hh => ?_) (fun hh => ?_)
          · have hw := hw.1 hh
            refine lv_aload_n hx hb dX12_goBack_76 rfl (lv_at hl 0 rfl) ?_
            refine lv_iconst (v := iI 0) hx hb dX12_goBack_77 rfl ?_
            refine wk_putI C0 fl_X12_119 rfl rfl hP hS (by decide) sh_65 rfl dX12_goBack_78 (fun s11 H locs es11 hP hS => ?_)
            have hw := hw s11 es11
            refine lv_iconst (v := iI 1) hx hb dX12_goBack_81 rfl ?_
            exact hret _ _ _ _ _ _ hw hP hS dX12_goBack_82
          · have hw := hw.2 hh
            refine lv_aload_n hx hb dX12_goBack_51 rfl (lv_at hl 0 rfl) ?_
            refine wk_getR 69 C0 fl_X12_19 hP (by decide) sh_65 rfl dX12_goBack_52 ?_
            refine lv_iload_n hx hb dX12_goBack_55 rfl (lv_at hl 2 rfl) ?_
            refine lv_aload_n hx hb dX12_goBack_56 rfl (lv_at hl 0 rfl) ?_
            refine wk_getR 80 C0 fl_X12_52 hP (by decide) sh_65 rfl dX12_goBack_57 ?_
            refine lv_bipush (v := iI 15) hx hb dX12_goBack_60 (by decide +kernel) ?_
            refine lv_iload_n hx hb dX12_goBack_62 rfl (lv_at hl 1 rfl) ?_
            refine wk_imul hx hb dX12_goBack_63 ?_
            refine lv_iconst (v := iI 2) hx hb dX12_goBack_64 rfl ?_
            refine wk_iadd hx hb dX12_goBack_65 ?_
            refine lv_iload_n hx hb dX12_goBack_66 rfl (lv_at hl 2 rfl) ?_
            refine wk_iadd hx hb dX12_goBack_67 ?_
            have q12 := hw.1
            have hw := hw.2
            refine wk_iald C0 hP (by decide) sh_80 q12.1 q12.2 (by decide) dX12_goBack_68 ?_
            have q13 := hw.1
            have hw := hw.2
            refine wk_iast C0 hP hS (by decide) sh_69 q13.1 q13.2 (by decide) dX12_goBack_69 (fun s14 H locs es14 hP hS => ?_)
            have hw := hw s14 es14
            refine wk_iinc (lv' := fun x2_15 => [(2, .int (iI x2_15)), (0, .ref (ad 65)), (1, .int (iI a1))]) hx hb dX12_goBack_70 hl (k := 2) rfl (by decide) (fun _ => rfl) (fun x2_15 ls ex2_15 hl => ?_)
            have hw := hw x2_15 ex2_15
            refine lv_goto (tgt := 45) hx hb dX12_goBack_73 (by decide) ?_
            obtain ⟨k16, hk16, hw⟩ := hw
            exact ih45 k16 hk16 x2_15 s14 _ _ _ hP hS (lv_sub hl [1, 2, 0] rfl) hw
      obtain ⟨k17, hw⟩ := hw
      exact kI45 k17 0 s7 _ _ _ hP hS (lv_sub hl [1, 2, 0] rfl) hw
    · have hw := hw.1 hh
      refine lv_ldc (own := RX12) (v := iI (-1000000003)) hx hb hown (htb _ ki_X12_158) dX12_goBack_25 ?_
      exact hret _ _ _ _ _ _ hw hP hS dX12_goBack_27
  · have hw := hw.1 hh
    refine lv_ldc (own := RX12) (v := iI (-1000000001)) hx hb hown (htb _ ki_X12_152) dX12_goBack_10 ?_
    exact hret _ _ _ _ _ _ hw hP hS dX12_goBack_12
