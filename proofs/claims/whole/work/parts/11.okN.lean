set_option maxRecDepth 100000 in
set_option maxHeartbeats 4000000 in
theorem ok_X0_empty {l : Launch} {D : va_G} {cA : Nat → ClassId} {ad : Nat → Nat} (hI : wI ad) {sg : Mem} {Q : Mem → Prop} (hw : wp_X0_empty sg Q) : wMv l D cA ad yX0_empty cX0_empty 2 none 1 [.ref (ad 10)] sg Q := by
  refine wk_ofV (by decide) hI (Nat.le_of_ble_eq_true rfl) ?_
  intro p e s m below meth c A QQ ls C0 hret hl hP
  have hx := C0.1
  have hb := C0.2.1
  have hown := C0.2.2.2.1
  have htb := C0.2.2.2.2.1
  have hl : lv_has ls 2 [(0, .ref (ad 10))] := hl
  refine (fun (key : ∀ (H : Heap) (locs : List Loc), wP D cA ad sg H → va_S (wA ad) s.heap H locs → W p l e (rmL 1) s m A below meth c H locs 0 0 QQ (F0 m 0 ls [])) => key _ _ hP va_S.rf) ?_
  intro H locs hP hS
  unfold wp_X0_empty at hw
  refine lv_aload_n hx hb dX0_empty_0 rfl (lv_at hl 0 rfl) ?_
  refine lv_iconst (v := iI 0) hx hb dX0_empty_1 rfl ?_
  refine wk_putI C0 fl_X0_34 rfl rfl hP hS (by decide) sh_10 rfl dX0_empty_2 (fun s1 H locs es1 hP hS => ?_)
  have hw := hw s1 es1
  refine lv_aload_n hx hb dX0_empty_5 rfl (lv_at hl 0 rfl) ?_
  refine lv_iconst (v := iI 0) hx hb dX0_empty_6 rfl ?_
  refine wk_putZ C0 fl_X0_37 rfl rfl (by decide) hP hS (by decide) sh_10 rfl dX0_empty_7 (fun s2 H locs es2 hP hS => ?_)
  have hw := hw s2 es2
  refine lv_aload_n hx hb dX0_empty_10 rfl (lv_at hl 0 rfl) ?_
  refine lv_iconst (v := iI 0) hx hb dX0_empty_11 rfl ?_
  refine wk_putI C0 fl_X0_41 rfl rfl hP hS (by decide) sh_10 rfl dX0_empty_12 (fun s3 H locs es3 hP hS => ?_)
  have hw := hw s3 es3
  refine lv_aload_n hx hb dX0_empty_15 rfl (lv_at hl 0 rfl) ?_
  refine lv_iconst (v := iI 1) hx hb dX0_empty_16 rfl ?_
  refine wk_putI C0 fl_X0_30 rfl rfl hP hS (by decide) sh_10 rfl dX0_empty_17 (fun s4 H locs es4 hP hS => ?_)
  have hw := hw s4 es4
  refine lv_aload_n hx hb dX0_empty_20 rfl (lv_at hl 0 rfl) ?_
  refine wk_getR 16 C0 fl_X0_27 hP (by decide) sh_10 rfl dX0_empty_21 ?_
  refine lv_iconst (v := iI 0) hx hb dX0_empty_24 rfl ?_
  refine lv_iconst (v := iI 0) hx hb dX0_empty_25 rfl ?_
  refine wk_iast C0 hP hS (by decide) sh_16 (by decide) (by decide) (by decide) dX0_empty_26 (fun s5 H locs es5 hP hS => ?_)
  have hw := hw s5 es5
  refine lv_iconst (v := iI 0) hx hb dX0_empty_27 rfl ?_
  refine lv_istore_n (lv' := [(1, .int (iI 0)), (0, .ref (ad 10))]) hx hb dX0_empty_28 rfl hl (by decide) rfl (fun ls hl => ?_)
  obtain ⟨I29, hI29, hw⟩ := hw
  have kI29 : ∀ (k29 : Nat) (y1_6 : Int) (s7 : Mem) (H : Heap) (locs : List Loc) (ls : Array Slot), wP D cA ad s7 H → va_S (wA ad) s.heap H locs → lv_has ls 2 [(0, .ref (ad 10)), (1, .int (iI y1_6))] → I29 k29 y1_6 s7 → W p l e (rmL 1) s m A below meth c H locs 0 0 QQ (F0 m 29 ls []) := by
    intro k29
    induction k29 using Nat.strongRecOn with
    | _ k29 ih29 =>
      intro y1_6 s7 H locs ls hP hS hl hw
      have hw := hI29 k29 y1_6 s7 hw
      refine lv_iload_n hx hb dX0_empty_29 rfl (lv_at hl 1 rfl) ?_
      refine lv_bipush (v := iI 6) hx hb dX0_empty_30 (by decide +kernel) ?_
      have q8 := hw.1
      have hw := hw.2
      refine wk_icmp_ge hx hb q8 ⟨by decide, by decide⟩ (tgt := 48) dX0_empty_32 (by decide) (fun hh => ?_) (fun hh => ?_)
      · have hw := hw.1 hh
        exact hret _ _ _ _ _ hw hP hS dX0_empty_48
      · have hw := hw.2 hh
        refine lv_aload_n hx hb dX0_empty_35 rfl (lv_at hl 0 rfl) ?_
        refine wk_getR 11 C0 fl_X0_9 hP (by decide) sh_10 rfl dX0_empty_36 ?_
        refine lv_iload_n hx hb dX0_empty_39 rfl (lv_at hl 1 rfl) ?_
        refine lv_iconst (v := iI 0) hx hb dX0_empty_40 rfl ?_
        have q9 := hw.1
        have hw := hw.2
        refine wk_iast C0 hP hS (by decide) sh_11 q9.1 q9.2 (by decide) dX0_empty_41 (fun s10 H locs es10 hP hS => ?_)
        have hw := hw s10 es10
        refine wk_iinc (lv' := fun x1_11 => [(1, .int (iI x1_11)), (0, .ref (ad 10))]) hx hb dX0_empty_42 hl (k := 1) rfl (by decide) (fun _ => rfl) (fun x1_11 ls ex1_11 hl => ?_)
        have hw := hw x1_11 ex1_11
        refine lv_goto (tgt := 29) hx hb dX0_empty_45 (by decide) ?_
        obtain ⟨k12, hk12, hw⟩ := hw
        exact ih29 k12 hk12 x1_11 s10 _ _ _ hP hS (lv_sub hl [1, 0] rfl) hw
  obtain ⟨k13, hw⟩ := hw
  exact kI29 k13 0 s5 _ _ _ hP hS (lv_sub hl [1, 0] rfl) hw

set_option maxRecDepth 100000 in
set_option maxHeartbeats 4000000 in
theorem ok_X0_become {l : Launch} {D : va_G} {cA : Nat → ClassId} {ad : Nat → Nat} (hI : wI ad) {sg : Mem} {Q : Mem → Prop} (hw : wp_X0_become sg Q) : wMv l D cA ad yX0_become cX0_become 2 none 1 [.ref (ad 1), .ref (ad 10)] sg Q := by
  refine wk_ofV (by decide) hI (Nat.le_of_ble_eq_true rfl) ?_
  intro p e s m below meth c A QQ ls C0 hret hl hP
  have hx := C0.1
  have hb := C0.2.1
  have hown := C0.2.2.2.1
  have htb := C0.2.2.2.2.1
  have hl : lv_has ls 2 [(0, .ref (ad 1)), (1, .ref (ad 10))] := hl
  refine (fun (key : ∀ (H : Heap) (locs : List Loc), wP D cA ad sg H → va_S (wA ad) s.heap H locs → W p l e (rmL 1) s m A below meth c H locs 0 0 QQ (F0 m 0 ls [])) => key _ _ hP va_S.rf) ?_
  intro H locs hP hS
  unfold wp_X0_become at hw
  refine lv_aload_n hx hb dX0_become_0 rfl (lv_at hl 0 rfl) ?_
  refine lv_aload_n hx hb dX0_become_1 rfl (lv_at hl 1 rfl) ?_
  refine wk_getI C0 fl_X0_34 hP (by decide) sh_10 rfl dX0_become_2 ?_
  refine wk_putI C0 fl_X0_34 rfl rfl hP hS (by decide) sh_1 rfl dX0_become_5 (fun s1 H locs es1 hP hS => ?_)
  have hw := hw s1 es1
  refine lv_aload_n hx hb dX0_become_8 rfl (lv_at hl 0 rfl) ?_
  refine lv_aload_n hx hb dX0_become_9 rfl (lv_at hl 1 rfl) ?_
  refine wk_getI C0 fl_X0_37 hP (by decide) sh_10 rfl dX0_become_10 ?_
  have q2 := hw.1
  have hw := hw.2
  refine wk_putZ C0 fl_X0_37 rfl rfl q2 hP hS (by decide) sh_1 rfl dX0_become_13 (fun s3 H locs es3 hP hS => ?_)
  have hw := hw s3 es3
  refine lv_aload_n hx hb dX0_become_16 rfl (lv_at hl 0 rfl) ?_
  refine lv_aload_n hx hb dX0_become_17 rfl (lv_at hl 1 rfl) ?_
  refine wk_getI C0 fl_X0_41 hP (by decide) sh_10 rfl dX0_become_18 ?_
  refine wk_putI C0 fl_X0_41 rfl rfl hP hS (by decide) sh_1 rfl dX0_become_21 (fun s4 H locs es4 hP hS => ?_)
  have hw := hw s4 es4
  refine lv_aload_n hx hb dX0_become_24 rfl (lv_at hl 0 rfl) ?_
  refine lv_aload_n hx hb dX0_become_25 rfl (lv_at hl 1 rfl) ?_
  refine wk_getI C0 fl_X0_30 hP (by decide) sh_10 rfl dX0_become_26 ?_
  refine wk_putI C0 fl_X0_30 rfl rfl hP hS (by decide) sh_1 rfl dX0_become_29 (fun s5 H locs es5 hP hS => ?_)
  have hw := hw s5 es5
  refine lv_aload_n hx hb dX0_become_32 rfl (lv_at hl 1 rfl) ?_
  refine wk_getR 11 C0 fl_X0_9 hP (by decide) sh_10 rfl dX0_become_33 ?_
  refine lv_iconst (v := iI 0) hx hb dX0_become_36 rfl ?_
  refine lv_aload_n hx hb dX0_become_37 rfl (lv_at hl 0 rfl) ?_
  refine wk_getR 2 C0 fl_X0_9 hP (by decide) sh_1 rfl dX0_become_38 ?_
  refine lv_iconst (v := iI 0) hx hb dX0_become_41 rfl ?_
  refine lv_bipush (v := iI 6) hx hb dX0_become_42 (by decide +kernel) ?_
  refine wk_copy C0 hl.1 ac_X0_44 ac_nat ac_st ini_J10 hP hS (by decide) (by decide) sh_11 sh_2 (by decide) (by decide) (by decide) (by decide) (Nat.le_of_ble_eq_true rfl) (Nat.le_of_ble_eq_true rfl) dX0_become_44 (fun s6 H locs es6 hP hS => ?_)
  have hw := hw s6 es6
  refine lv_aload_n hx hb dX0_become_47 rfl (lv_at hl 1 rfl) ?_
  refine wk_getR 12 C0 fl_X0_15 hP (by decide) sh_10 rfl dX0_become_48 ?_
  refine lv_iconst (v := iI 0) hx hb dX0_become_51 rfl ?_
  refine lv_aload_n hx hb dX0_become_52 rfl (lv_at hl 0 rfl) ?_
  refine wk_getR 3 C0 fl_X0_15 hP (by decide) sh_1 rfl dX0_become_53 ?_
  refine lv_iconst (v := iI 0) hx hb dX0_become_56 rfl ?_
  refine lv_bipush (v := iI 6) hx hb dX0_become_57 (by decide +kernel) ?_
  refine wk_copy C0 hl.1 ac_X0_44 ac_nat ac_st ini_J10 hP hS (by decide) (by decide) sh_12 sh_3 (by decide) (by decide) (by decide) (by decide) (Nat.le_of_ble_eq_true rfl) (Nat.le_of_ble_eq_true rfl) dX0_become_59 (fun s7 H locs es7 hP hS => ?_)
  have hw := hw s7 es7
  refine lv_aload_n hx hb dX0_become_62 rfl (lv_at hl 1 rfl) ?_
  refine wk_getR 13 C0 fl_X0_18 hP (by decide) sh_10 rfl dX0_become_63 ?_
  refine lv_iconst (v := iI 0) hx hb dX0_become_66 rfl ?_
  refine lv_aload_n hx hb dX0_become_67 rfl (lv_at hl 0 rfl) ?_
  refine wk_getR 4 C0 fl_X0_18 hP (by decide) sh_1 rfl dX0_become_68 ?_
  refine lv_iconst (v := iI 0) hx hb dX0_become_71 rfl ?_
  refine lv_bipush (v := iI 6) hx hb dX0_become_72 (by decide +kernel) ?_
  refine wk_copy C0 hl.1 ac_X0_44 ac_nat ac_st ini_J10 hP hS (by decide) (by decide) sh_13 sh_4 (by decide) (by decide) (by decide) (by decide) (Nat.le_of_ble_eq_true rfl) (Nat.le_of_ble_eq_true rfl) dX0_become_74 (fun s8 H locs es8 hP hS => ?_)
  have hw := hw s8 es8
  refine lv_aload_n hx hb dX0_become_77 rfl (lv_at hl 1 rfl) ?_
  refine wk_getR 14 C0 fl_X0_21 hP (by decide) sh_10 rfl dX0_become_78 ?_
  refine lv_iconst (v := iI 0) hx hb dX0_become_81 rfl ?_
  refine lv_aload_n hx hb dX0_become_82 rfl (lv_at hl 0 rfl) ?_
  refine wk_getR 5 C0 fl_X0_21 hP (by decide) sh_1 rfl dX0_become_83 ?_
  refine lv_iconst (v := iI 0) hx hb dX0_become_86 rfl ?_
  refine lv_bipush (v := iI 6) hx hb dX0_become_87 (by decide +kernel) ?_
  refine wk_copy C0 hl.1 ac_X0_44 ac_nat ac_st ini_J10 hP hS (by decide) (by decide) sh_14 sh_5 (by decide) (by decide) (by decide) (by decide) (Nat.le_of_ble_eq_true rfl) (Nat.le_of_ble_eq_true rfl) dX0_become_89 (fun s9 H locs es9 hP hS => ?_)
  have hw := hw s9 es9
  refine lv_aload_n hx hb dX0_become_92 rfl (lv_at hl 1 rfl) ?_
  refine wk_getR 15 C0 fl_X0_24 hP (by decide) sh_10 rfl dX0_become_93 ?_
  refine lv_iconst (v := iI 0) hx hb dX0_become_96 rfl ?_
  refine lv_aload_n hx hb dX0_become_97 rfl (lv_at hl 0 rfl) ?_
  refine wk_getR 6 C0 fl_X0_24 hP (by decide) sh_1 rfl dX0_become_98 ?_
  refine lv_iconst (v := iI 0) hx hb dX0_become_101 rfl ?_
  refine lv_bipush (v := iI 6) hx hb dX0_become_102 (by decide +kernel) ?_
  refine wk_copy C0 hl.1 ac_X0_44 ac_nat ac_st ini_J10 hP hS (by decide) (by decide) sh_15 sh_6 (by decide) (by decide) (by decide) (by decide) (Nat.le_of_ble_eq_true rfl) (Nat.le_of_ble_eq_true rfl) dX0_become_104 (fun s10 H locs es10 hP hS => ?_)
  have hw := hw s10 es10
  refine lv_aload_n hx hb dX0_become_107 rfl (lv_at hl 1 rfl) ?_
  refine wk_getR 16 C0 fl_X0_27 hP (by decide) sh_10 rfl dX0_become_108 ?_
  refine lv_iconst (v := iI 0) hx hb dX0_become_111 rfl ?_
  refine lv_aload_n hx hb dX0_become_112 rfl (lv_at hl 0 rfl) ?_
  refine wk_getR 7 C0 fl_X0_27 hP (by decide) sh_1 rfl dX0_become_113 ?_
  refine lv_iconst (v := iI 0) hx hb dX0_become_116 rfl ?_
  refine lv_bipush (v := iI 8) hx hb dX0_become_117 (by decide +kernel) ?_
  refine wk_copy C0 hl.1 ac_X0_44 ac_nat ac_st ini_J10 hP hS (by decide) (by decide) sh_16 sh_7 (by decide) (by decide) (by decide) (by decide) (Nat.le_of_ble_eq_true rfl) (Nat.le_of_ble_eq_true rfl) dX0_become_119 (fun s11 H locs es11 hP hS => ?_)
  have hw := hw s11 es11
  exact hret _ _ _ _ _ hw hP hS dX0_become_122

set_option maxRecDepth 100000 in
set_option maxHeartbeats 4000000 in
theorem ok_X0_hasPlace {l : Launch} {D : va_G} {cA : Nat → ClassId} {ad : Nat → Nat} (hI : wI ad) {a1 : Int} {sg : Mem} {Q : Int → Prop} (hw : wp_X0_hasPlace a1 sg Q) : wMi l D cA ad yX0_hasPlace cX0_hasPlace 2 (some .boolean) 1 [.ref (ad 1), .int (iI a1)] sg (fun z u => u = sg ∧ Q z) := by
  refine wk_ofZ (by decide) hI (Nat.le_of_ble_eq_true rfl) ?_
  intro p e s m below meth c A QQ ls C0 hret hl hP
  have hx := C0.1
  have hb := C0.2.1
  have hown := C0.2.2.2.1
  have htb := C0.2.2.2.2.1
  have hl : lv_has ls 2 [(0, .ref (ad 1)), (1, .int (iI a1))] := hl
  refine (fun (key : ∀ (H : Heap) (locs : List Loc), wP D cA ad sg H → va_S (wA ad) s.heap H locs → W p l e (rmL 1) s m A below meth c H locs 0 0 QQ (F0 m 0 ls [])) => key _ _ hP va_S.rf) ?_
  intro H locs hP hS
  unfold wp_X0_hasPlace at hw
  refine lv_iload_n hx hb dX0_hasPlace_0 rfl (lv_at hl 1 rfl) ?_
  have q1 := hw.1
  have hw := hw.2
  refine wk_if_lt hx hb q1 (tgt := 16) dX0_hasPlace_1 (by decide) (fun hh => ?_) (fun hh => ?_)
  · have hw := hw.1 hh
    refine lv_iconst (v := iI 0) hx hb dX0_hasPlace_16 rfl ?_
    exact hret _ _ _ _ _ _ (by decide) ⟨rfl, hw⟩ hP hS dX0_hasPlace_17
  · have hw := hw.2 hh
    refine lv_iload_n hx hb dX0_hasPlace_4 rfl (lv_at hl 1 rfl) ?_
    refine lv_aload_n hx hb dX0_hasPlace_5 rfl (lv_at hl 0 rfl) ?_
    refine wk_getI C0 fl_X0_34 hP (by decide) sh_1 rfl dX0_hasPlace_6 ?_
    have q2 := hw.1
    have hw := hw.2
    refine wk_icmp_ge hx hb q1 q2 (tgt := 16) dX0_hasPlace_9 (by decide) (fun hh => ?_) (fun hh => ?_)
    · have hw := hw.1 hh
      refine lv_iconst (v := iI 0) hx hb dX0_hasPlace_16 rfl ?_
      exact hret _ _ _ _ _ _ (by decide) ⟨rfl, hw⟩ hP hS dX0_hasPlace_17
    · have hw := hw.2 hh
      refine lv_iconst (v := iI 1) hx hb dX0_hasPlace_12 rfl ?_
      refine lv_goto (tgt := 17) hx hb dX0_hasPlace_13 (by decide) ?_
      exact hret _ _ _ _ _ _ (by decide) ⟨rfl, hw⟩ hP hS dX0_hasPlace_17

set_option maxRecDepth 100000 in
set_option maxHeartbeats 4000000 in
theorem ok_X0_hasSleeper {l : Launch} {D : va_G} {cA : Nat → ClassId} {ad : Nat → Nat} (hI : wI ad) {a1 : Int} {sg : Mem} {Q : Int → Prop} (hw : wp_X0_hasSleeper a1 sg Q) : wMi l D cA ad yX0_hasSleeper cX0_hasSleeper 2 (some .boolean) 1 [.ref (ad 1), .int (iI a1)] sg (fun z u => u = sg ∧ Q z) := by
  refine wk_ofZ (by decide) hI (Nat.le_of_ble_eq_true rfl) ?_
  intro p e s m below meth c A QQ ls C0 hret hl hP
  have hx := C0.1
  have hb := C0.2.1
  have hown := C0.2.2.2.1
  have htb := C0.2.2.2.2.1
  have hl : lv_has ls 2 [(0, .ref (ad 1)), (1, .int (iI a1))] := hl
  refine (fun (key : ∀ (H : Heap) (locs : List Loc), wP D cA ad sg H → va_S (wA ad) s.heap H locs → W p l e (rmL 1) s m A below meth c H locs 0 0 QQ (F0 m 0 ls [])) => key _ _ hP va_S.rf) ?_
  intro H locs hP hS
  unfold wp_X0_hasSleeper at hw
  refine lv_iload_n hx hb dX0_hasSleeper_0 rfl (lv_at hl 1 rfl) ?_
  have q1 := hw.1
  have hw := hw.2
  refine wk_if_lt hx hb q1 (tgt := 16) dX0_hasSleeper_1 (by decide) (fun hh => ?_) (fun hh => ?_)
  · have hw := hw.1 hh
    refine lv_iconst (v := iI 0) hx hb dX0_hasSleeper_16 rfl ?_
    exact hret _ _ _ _ _ _ (by decide) ⟨rfl, hw⟩ hP hS dX0_hasSleeper_17
  · have hw := hw.2 hh
    refine lv_iload_n hx hb dX0_hasSleeper_4 rfl (lv_at hl 1 rfl) ?_
    refine lv_aload_n hx hb dX0_hasSleeper_5 rfl (lv_at hl 0 rfl) ?_
    refine wk_getI C0 fl_X0_41 hP (by decide) sh_1 rfl dX0_hasSleeper_6 ?_
    have q2 := hw.1
    have hw := hw.2
    refine wk_icmp_ge hx hb q1 q2 (tgt := 16) dX0_hasSleeper_9 (by decide) (fun hh => ?_) (fun hh => ?_)
    · have hw := hw.1 hh
      refine lv_iconst (v := iI 0) hx hb dX0_hasSleeper_16 rfl ?_
      exact hret _ _ _ _ _ _ (by decide) ⟨rfl, hw⟩ hP hS dX0_hasSleeper_17
    · have hw := hw.2 hh
      refine lv_iconst (v := iI 1) hx hb dX0_hasSleeper_12 rfl ?_
      refine lv_goto (tgt := 17) hx hb dX0_hasSleeper_13 (by decide) ?_
      exact hret _ _ _ _ _ _ (by decide) ⟨rfl, hw⟩ hP hS dX0_hasSleeper_17

set_option maxRecDepth 100000 in
set_option maxHeartbeats 4000000 in
theorem ok_X0_lawAt {l : Launch} {D : va_G} {cA : Nat → ClassId} {ad : Nat → Nat} (hI : wI ad) {a1 : Int} {sg : Mem} {Q : Int → Prop} (hw : wp_X0_lawAt a1 sg Q) : wMi l D cA ad yX0_lawAt cX0_lawAt 2 (some .int) 1 [.ref (ad 1), .int (iI a1)] sg (fun z u => u = sg ∧ Q z) := by
  refine wk_ofI (by decide) hI (Nat.le_of_ble_eq_true rfl) ?_
  intro p e s m below meth c A QQ ls C0 hret hl hP
  have hx := C0.1
  have hb := C0.2.1
  have hown := C0.2.2.2.1
  have htb := C0.2.2.2.2.1
  have hl : lv_has ls 2 [(0, .ref (ad 1)), (1, .int (iI a1))] := hl
  refine (fun (key : ∀ (H : Heap) (locs : List Loc), wP D cA ad sg H → va_S (wA ad) s.heap H locs → W p l e (rmL 1) s m A below meth c H locs 0 0 QQ (F0 m 0 ls [])) => key _ _ hP va_S.rf) ?_
  intro H locs hP hS
  unfold wp_X0_lawAt at hw
  refine lv_aload_n hx hb dX0_lawAt_0 rfl (lv_at hl 0 rfl) ?_
  refine wk_getI C0 fl_X0_30 hP (by decide) sh_1 rfl dX0_lawAt_1 ?_
  refine lv_iconst (v := iI 1) hx hb dX0_lawAt_4 rfl ?_
  have q1 := hw.1
  have hw := hw.2
  refine wk_icmp_lt hx hb q1 ⟨by decide, by decide⟩ (tgt := 12) dX0_lawAt_5 (by decide) (fun hh => ?_) (fun hh => ?_)
  · have hw := hw.1 hh
    refine lv_iconst (v := iI 0) hx hb dX0_lawAt_12 rfl ?_
    refine lv_goto (tgt := 27) hx hb dX0_lawAt_13 (by decide) ?_
    exact hret _ _ _ _ _ _ ⟨rfl, hw⟩ hP hS dX0_lawAt_27
  · have hw := hw.2 hh
    refine lv_iload_n hx hb dX0_lawAt_8 rfl (lv_at hl 1 rfl) ?_
    have q2 := hw.1
    have hw := hw.2
    refine wk_if_ge hx hb q2 (tgt := 16) dX0_lawAt_9 (by decide) (fun hh => ?_) (fun hh => ?_)
    · have hw := hw.1 hh
      refine lv_aload_n hx hb dX0_lawAt_16 rfl (lv_at hl 0 rfl) ?_
      refine wk_getR 7 C0 fl_X0_27 hP (by decide) sh_1 rfl dX0_lawAt_17 ?_
      refine lv_iload_n hx hb dX0_lawAt_20 rfl (lv_at hl 1 rfl) ?_
      refine lv_aload_n hx hb dX0_lawAt_21 rfl (lv_at hl 0 rfl) ?_
      refine wk_getI C0 fl_X0_30 hP (by decide) sh_1 rfl dX0_lawAt_22 ?_
      have q3 := hw.1
      have hw := hw.2
      refine wk_irem hx hb q2 q1 q3 dX0_lawAt_25 ?_
      have q4 := hw.1
      have hw := hw.2
      refine wk_iald C0 hP (by decide) sh_7 q4.1 q4.2 (by decide) dX0_lawAt_26 ?_
      exact hret _ _ _ _ _ _ ⟨rfl, hw⟩ hP hS dX0_lawAt_27
    · have hw := hw.2 hh
      refine lv_iconst (v := iI 0) hx hb dX0_lawAt_12 rfl ?_
      refine lv_goto (tgt := 27) hx hb dX0_lawAt_13 (by decide) ?_
      exact hret _ _ _ _ _ _ ⟨rfl, hw⟩ hP hS dX0_lawAt_27

set_option maxRecDepth 100000 in
set_option maxHeartbeats 4000000 in
theorem ok_X0_warmestPlace {l : Launch} {D : va_G} {cA : Nat → ClassId} {ad : Nat → Nat} (hI : wI ad) {sg : Mem} {Q : Int → Prop} (hw : wp_X0_warmestPlace sg Q) : wMi l D cA ad yX0_warmestPlace cX0_warmestPlace 3 (some .int) 1 [.ref (ad 1)] sg (fun z u => u = sg ∧ Q z) := by
  refine wk_ofI (by decide) hI (Nat.le_of_ble_eq_true rfl) ?_
  intro p e s m below meth c A QQ ls C0 hret hl hP
  have hx := C0.1
  have hb := C0.2.1
  have hown := C0.2.2.2.1
  have htb := C0.2.2.2.2.1
  have hl : lv_has ls 3 [(0, .ref (ad 1))] := hl
  refine (fun (key : ∀ (H : Heap) (locs : List Loc), wP D cA ad sg H → va_S (wA ad) s.heap H locs → W p l e (rmL 1) s m A below meth c H locs 0 0 QQ (F0 m 0 ls [])) => key _ _ hP va_S.rf) ?_
  intro H locs hP hS
  unfold wp_X0_warmestPlace at hw
  refine lv_iconst (v := iI 0) hx hb dX0_warmestPlace_0 rfl ?_
  refine lv_istore_n (lv' := [(1, .int (iI 0)), (0, .ref (ad 1))]) hx hb dX0_warmestPlace_1 rfl hl (by decide) rfl (fun ls hl => ?_)
  refine lv_iconst (v := iI 1) hx hb dX0_warmestPlace_2 rfl ?_
  refine lv_istore_n (lv' := [(2, .int (iI 1)), (1, .int (iI 0)), (0, .ref (ad 1))]) hx hb dX0_warmestPlace_3 rfl hl (by decide) rfl (fun ls hl => ?_)
  obtain ⟨I4, hI4, hw⟩ := hw
  have kI4 : ∀ (k4 : Nat) (y1_1 : Int) (y2_2 : Int) (H : Heap) (locs : List Loc) (ls : Array Slot), wP D cA ad sg H → va_S (wA ad) s.heap H locs → lv_has ls 3 [(0, .ref (ad 1)), (1, .int (iI y1_1)), (2, .int (iI y2_2))] → I4 k4 y1_1 y2_2 → W p l e (rmL 1) s m A below meth c H locs 0 0 QQ (F0 m 4 ls []) := by
    intro k4
    induction k4 using Nat.strongRecOn with
    | _ k4 ih4 =>
      intro y1_1 y2_2 H locs ls hP hS hl hw
      have hw := hI4 k4 y1_1 y2_2 hw
      refine lv_iload_n hx hb dX0_warmestPlace_4 rfl (lv_at hl 2 rfl) ?_
      refine lv_aload_n hx hb dX0_warmestPlace_5 rfl (lv_at hl 0 rfl) ?_
      refine wk_getI C0 fl_X0_34 hP (by decide) sh_1 rfl dX0_warmestPlace_6 ?_
      have q3 := hw.1
      have hw := hw.2
      have q4 := hw.1
      have hw := hw.2
      refine wk_icmp_ge hx hb q3 q4 (tgt := 35) dX0_warmestPlace_9 (by decide) (fun hh => ?_) (fun hh => ?_)
      · have hw := hw.1 hh
        refine lv_iload_n hx hb dX0_warmestPlace_35 rfl (lv_at hl 1 rfl) ?_
        exact hret _ _ _ _ _ _ ⟨rfl, hw⟩ hP hS dX0_warmestPlace_36
      · have hw := hw.2 hh
        refine lv_aload_n hx hb dX0_warmestPlace_12 rfl (lv_at hl 0 rfl) ?_
        refine wk_getR 2 C0 fl_X0_9 hP (by decide) sh_1 rfl dX0_warmestPlace_13 ?_
        refine lv_iload_n hx hb dX0_warmestPlace_16 rfl (lv_at hl 2 rfl) ?_
        have q5 := hw.1
        have hw := hw.2
        refine wk_iald C0 hP (by decide) sh_2 q5.1 q5.2 (by decide) dX0_warmestPlace_17 ?_
        refine lv_aload_n hx hb dX0_warmestPlace_18 rfl (lv_at hl 0 rfl) ?_
        refine wk_getR 2 C0 fl_X0_9 hP (by decide) sh_1 rfl dX0_warmestPlace_19 ?_
        refine lv_iload_n hx hb dX0_warmestPlace_22 rfl (lv_at hl 1 rfl) ?_
        have q6 := hw.1
        have hw := hw.2
        refine wk_iald C0 hP (by decide) sh_2 q6.1 q6.2 (by decide) dX0_warmestPlace_23 ?_
        have q7 := hw.1
        have hw := hw.2
        have q8 := hw.1
        have hw := hw.2
        have kX29 : ∀ y1_9 : Int, y1_9 = (if sg 2 y2_2.toNat ≤ sg 2 y1_1.toNat then y1_1 else y2_2) → ∀ (ls : Array Slot), lv_has ls 3 [(0, .ref (ad 1)), (1, .int (iI y1_9)), (2, .int (iI y2_2))] → W p l e (rmL 1) s m A below meth c H locs 0 0 QQ (F0 m 29 ls []) := by
          intro y1_9 ey1_9 ls hl
          have hw := hw y1_9 ey1_9
          refine wk_iinc (lv' := fun x2_10 => [(2, .int (iI x2_10)), (0, .ref (ad 1)), (1, .int (iI y1_9))]) hx hb dX0_warmestPlace_29 hl (k := 2) rfl (by decide) (fun _ => rfl) (fun x2_10 ls ex2_10 hl => ?_)
          have hw := hw x2_10 ex2_10
          refine lv_goto (tgt := 4) hx hb dX0_warmestPlace_32 (by decide) ?_
          obtain ⟨k11, hk11, hw⟩ := hw
          exact ih4 k11 hk11 y1_9 x2_10 _ _ _ hP hS (lv_sub hl [1, 2, 0] rfl) hw
        refine wk_icmp_le hx hb q7 q8 (tgt := 29) dX0_warmestPlace_24 (by decide) (fun hh12 => ?_) (fun hh12 => ?_)
        · exact kX29 y1_1 (by rw [if_pos hh12]) ls (lv_sub hl [0, 1, 2] rfl)
        · refine lv_iload_n hx hb dX0_warmestPlace_27 rfl (lv_at hl 2 rfl) ?_
          refine lv_istore_n (lv' := [(1, .int (iI y2_2)), (0, .ref (ad 1)), (2, .int (iI y2_2))]) hx hb dX0_warmestPlace_28 rfl hl (by decide) rfl (fun ls hl => ?_)
          exact kX29 y2_2 (by rw [if_neg hh12]) ls (lv_sub hl [1, 0, 2] rfl)
  obtain ⟨k13, hw⟩ := hw
  exact kI4 k13 0 1 _ _ _ hP hS (lv_sub hl [2, 1, 0] rfl) hw

set_option maxRecDepth 100000 in
set_option maxHeartbeats 4000000 in
theorem ok_X0_turned {l : Launch} {D : va_G} {cA : Nat → ClassId} {ad : Nat → Nat} (hI : wI ad) {a1 : Int} {a2 : Int} {sg : Mem} {Q : Int → Prop} (hw : wp_X0_turned a1 a2 sg Q) : wMi l D cA ad yX0_turned cX0_turned 4 (some .int) 1 [.ref (ad 1), .int (iI a1), .int (iI a2)] sg (fun z u => u = sg ∧ Q z) := by
  refine wk_ofI (by decide) hI (Nat.le_of_ble_eq_true rfl) ?_
  intro p e s m below meth c A QQ ls C0 hret hl hP
  have hx := C0.1
  have hb := C0.2.1
  have hown := C0.2.2.2.1
  have htb := C0.2.2.2.2.1
  have hl : lv_has ls 4 [(0, .ref (ad 1)), (1, .int (iI a1)), (2, .int (iI a2))] := hl
  refine (fun (key : ∀ (H : Heap) (locs : List Loc), wP D cA ad sg H → va_S (wA ad) s.heap H locs → W p l e (rmL 1) s m A below meth c H locs 0 0 QQ (F0 m 0 ls [])) => key _ _ hP va_S.rf) ?_
  intro H locs hP hS
  unfold wp_X0_turned at hw
  refine lv_aload_n hx hb dX0_turned_0 rfl (lv_at hl 0 rfl) ?_
  refine wk_getI C0 fl_X0_34 hP (by decide) sh_1 rfl dX0_turned_1 ?_
  refine lv_iconst (v := iI 1) hx hb dX0_turned_4 rfl ?_
  refine wk_isub hx hb dX0_turned_5 ?_
  refine wk_top (fun x3_1 ex3_1 => ?_)
  have hw := hw x3_1 ex3_1
  refine lv_istore_n (lv' := [(3, .int (iI x3_1)), (0, .ref (ad 1)), (1, .int (iI a1)), (2, .int (iI a2))]) hx hb dX0_turned_6 rfl hl (by decide) rfl (fun ls hl => ?_)
  refine lv_iload_n hx hb dX0_turned_7 rfl (lv_at hl 3 rfl) ?_
  have q2 := hw.1
  have hw := hw.2
  by_cases hh0 : a2 = 1
  · have hw := hw.1 hh0
    refine lv_tableIn (off := 28) (tgt := 36) hx hb dX0_turned_8 (by rw [hh0]; first | done | decide +kernel) (by rw [hh0]; first | done | decide +kernel) (by rw [hh0]; first | done | decide +kernel) (by decide) ?_
    refine lv_iload_n hx hb dX0_turned_36 rfl (lv_at hl 2 rfl) ?_
    refine lv_iload_n hx hb dX0_turned_37 rfl (lv_at hl 0 rfl) ?_
    have q3 := hw.1
    have hw := hw.2
    have q4 := hw.1
    have hw := hw.2
    refine wk_icmp_ne hx hb q3 q4 (tgt := 45) dX0_turned_38 (by decide) (fun hh => ?_) (fun hh => ?_)
    · have hw := hw.2 hh
      refine lv_iload_n hx hb dX0_turned_45 rfl (lv_at hl 2 rfl) ?_
      refine lv_iconst (v := iI 1) hx hb dX0_turned_46 rfl ?_
      refine wk_iadd hx hb dX0_turned_47 ?_
      exact hret _ _ _ _ _ _ ⟨rfl, hw⟩ hP hS dX0_turned_48
    · have hw := hw.1 hh
      refine lv_iconst (v := iI 0) hx hb dX0_turned_41 rfl ?_
      refine lv_goto (tgt := 48) hx hb dX0_turned_42 (by decide) ?_
      exact hret _ _ _ _ _ _ ⟨rfl, hw⟩ hP hS dX0_turned_48
  by_cases hh1 : a2 = 2
  · have hw := hw.2.1 hh1
    refine lv_tableIn (off := 41) (tgt := 49) hx hb dX0_turned_8 (by rw [hh1]; first | done | decide +kernel) (by rw [hh1]; first | done | decide +kernel) (by rw [hh1]; first | done | decide +kernel) (by decide) ?_
    refine lv_iload_n hx hb dX0_turned_49 rfl (lv_at hl 2 rfl) ?_
    have q5 := hw.1
    have hw := hw.2
    refine wk_if_ne hx hb q5 (tgt := 57) dX0_turned_50 (by decide) (fun hh => ?_) (fun hh => ?_)
    · have hw := hw.2 hh
      refine lv_iload_n hx hb dX0_turned_57 rfl (lv_at hl 2 rfl) ?_
      refine lv_iconst (v := iI 1) hx hb dX0_turned_58 rfl ?_
      refine wk_isub hx hb dX0_turned_59 ?_
      exact hret _ _ _ _ _ _ ⟨rfl, hw⟩ hP hS dX0_turned_60
    · have hw := hw.1 hh
      refine lv_iload_n hx hb dX0_turned_53 rfl (lv_at hl 0 rfl) ?_
      refine lv_goto (tgt := 60) hx hb dX0_turned_54 (by decide) ?_
      exact hret _ _ _ _ _ _ ⟨rfl, hw⟩ hP hS dX0_turned_60
  by_cases hh2 : a2 = 3
  · have hw := hw.2.2.1 hh2
    refine lv_tableIn (off := 53) (tgt := 61) hx hb dX0_turned_8 (by rw [hh2]; first | done | decide +kernel) (by rw [hh2]; first | done | decide +kernel) (by rw [hh2]; first | done | decide +kernel) (by decide) ?_
    refine lv_iload_n hx hb dX0_turned_61 rfl (lv_at hl 2 rfl) ?_
    have q6 := hw.1
    have hw := hw.2
    refine wk_if_ne hx hb q6 (tgt := 69) dX0_turned_62 (by decide) (fun hh => ?_) (fun hh => ?_)
    · have hw := hw.2 hh
      refine lv_iload_n hx hb dX0_turned_69 rfl (lv_at hl 2 rfl) ?_
      refine lv_iload_n hx hb dX0_turned_70 rfl (lv_at hl 0 rfl) ?_
      have q7 := hw.1
      have hw := hw.2
      refine wk_icmp_ne hx hb q6 q7 (tgt := 78) dX0_turned_71 (by decide) (fun hh => ?_) (fun hh => ?_)
      · have hw := hw.2 hh
        refine lv_iload_n hx hb dX0_turned_78 rfl (lv_at hl 2 rfl) ?_
        exact hret _ _ _ _ _ _ ⟨rfl, hw⟩ hP hS dX0_turned_79
      · have hw := hw.1 hh
        refine lv_iconst (v := iI 0) hx hb dX0_turned_74 rfl ?_
        refine lv_goto (tgt := 79) hx hb dX0_turned_75 (by decide) ?_
        exact hret _ _ _ _ _ _ ⟨rfl, hw⟩ hP hS dX0_turned_79
    · have hw := hw.1 hh
      refine lv_iload_n hx hb dX0_turned_65 rfl (lv_at hl 0 rfl) ?_
      refine lv_goto (tgt := 79) hx hb dX0_turned_66 (by decide) ?_
      exact hret _ _ _ _ _ _ ⟨rfl, hw⟩ hP hS dX0_turned_79
  have hw := hw.2.2.2 (by omega)
  refine lv_tableOut (tgt := 80) hx hb dX0_turned_8 (by rw [iI_toInt q2]; omega) (by decide) ?_
  refine lv_iload_n hx hb dX0_turned_80 rfl (lv_at hl 2 rfl) ?_
  exact hret _ _ _ _ _ _ ⟨rfl, hw⟩ hP hS dX0_turned_81

set_option maxRecDepth 100000 in
set_option maxHeartbeats 4000000 in
theorem ok_X0_unlike {l : Launch} {D : va_G} {cA : Nat → ClassId} {ad : Nat → Nat} (hI : wI ad) {a1 : Int} {sg : Mem} {Q : Int → Prop} (hw : wp_X0_unlike a1 sg Q) : wMi l D cA ad yX0_unlike cX0_unlike 4 (some .int) 1 [.ref (ad 1), .int (iI a1)] sg (fun z u => u = sg ∧ Q z) := by
  refine wk_ofI (by decide) hI (Nat.le_of_ble_eq_true rfl) ?_
  intro p e s m below meth c A QQ ls C0 hret hl hP
  have hx := C0.1
  have hb := C0.2.1
  have hown := C0.2.2.2.1
  have htb := C0.2.2.2.2.1
  have hl : lv_has ls 4 [(0, .ref (ad 1)), (1, .int (iI a1))] := hl
  refine (fun (key : ∀ (H : Heap) (locs : List Loc), wP D cA ad sg H → va_S (wA ad) s.heap H locs → W p l e (rmL 1) s m A below meth c H locs 0 0 QQ (F0 m 0 ls [])) => key _ _ hP va_S.rf) ?_
  intro H locs hP hS
  unfold wp_X0_unlike at hw
  refine lv_iconst (v := iI 0) hx hb dX0_unlike_0 rfl ?_
  refine lv_istore_n (lv' := [(2, .int (iI 0)), (0, .ref (ad 1)), (1, .int (iI a1))]) hx hb dX0_unlike_1 rfl hl (by decide) rfl (fun ls hl => ?_)
  refine lv_iconst (v := iI 0) hx hb dX0_unlike_2 rfl ?_
  refine lv_istore_n (lv' := [(3, .int (iI 0)), (2, .int (iI 0)), (0, .ref (ad 1)), (1, .int (iI a1))]) hx hb dX0_unlike_3 rfl hl (by decide) rfl (fun ls hl => ?_)
  obtain ⟨I4, hI4, hw⟩ := hw
  have kI4 : ∀ (k4 : Nat) (y2_1 : Int) (y3_2 : Int) (H : Heap) (locs : List Loc) (ls : Array Slot), wP D cA ad sg H → va_S (wA ad) s.heap H locs → lv_has ls 4 [(0, .ref (ad 1)), (1, .int (iI a1)), (2, .int (iI y2_1)), (3, .int (iI y3_2))] → I4 k4 y2_1 y3_2 → W p l e (rmL 1) s m A below meth c H locs 0 0 QQ (F0 m 4 ls []) := by
    intro k4
    induction k4 using Nat.strongRecOn with
    | _ k4 ih4 =>
      intro y2_1 y3_2 H locs ls hP hS hl hw
      have hw := hI4 k4 y2_1 y3_2 hw
      refine lv_iload_n hx hb dX0_unlike_4 rfl (lv_at hl 3 rfl) ?_
      refine lv_aload_n hx hb dX0_unlike_5 rfl (lv_at hl 0 rfl) ?_
      refine wk_getI C0 fl_X0_41 hP (by decide) sh_1 rfl dX0_unlike_6 ?_
      have q3 := hw.1
      have hw := hw.2
      have q4 := hw.1
      have hw := hw.2
      refine wk_icmp_ge hx hb q3 q4 (tgt := 46) dX0_unlike_9 (by decide) (fun hh => ?_) (fun hh => ?_)
      · have hw := hw.1 hh
        refine lv_iload_n hx hb dX0_unlike_46 rfl (lv_at hl 2 rfl) ?_
        have q5 := hw.1
        have hw := hw.2
        refine wk_abs C0 hl.1 (cl_X0_50) q5 (Nat.le_of_ble_eq_true rfl) (Nat.le_of_ble_eq_true rfl) dX0_unlike_47 ?_
        exact hret _ _ _ _ _ _ ⟨rfl, hw⟩ hP hS dX0_unlike_50
      · have hw := hw.2 hh
        refine lv_iload_n hx hb dX0_unlike_12 rfl (lv_at hl 2 rfl) ?_
        refine lv_iload_n hx hb dX0_unlike_13 rfl (lv_at hl 1 rfl) ?_
        refine lv_iload_n hx hb dX0_unlike_14 rfl (lv_at hl 3 rfl) ?_
        refine wk_ishr hx hb dX0_unlike_15 ?_
        refine lv_iconst (v := iI 1) hx hb dX0_unlike_16 rfl ?_
        refine wk_iand hx hb dX0_unlike_17 ?_
        refine lv_iconst (v := iI 1) hx hb dX0_unlike_18 rfl ?_
        have q6 := hw.1
        have hw := hw.2
        have hs := hw.1
        have hw := hw.2
        have kX38 : ∀ v9 : Int, v9 = (if zand (zshr a1 y3_2) 1 = 1 then sg 4 y3_2.toNat else -(sg 4 y3_2.toNat)) → ∀ (ls : Array Slot), lv_has ls 4 [(0, .ref (ad 1)), (1, .int (iI a1)), (3, .int (iI y3_2))] → W p l e (rmL 1) s m A below meth c H locs 0 0 QQ (F0 m 38 ls [.int (iI v9), .int (iI y2_1)]) := by
          intro v9 ev9 ls hl
          have hw := hw v9 ev9
          refine wk_iadd hx hb dX0_unlike_38 ?_
          refine wk_top (fun x2_10 ex2_10 => ?_)
          have hw := hw x2_10 ex2_10
          refine lv_istore_n (lv' := [(2, .int (iI x2_10)), (0, .ref (ad 1)), (1, .int (iI a1)), (3, .int (iI y3_2))]) hx hb dX0_unlike_39 rfl hl (by decide) rfl (fun ls hl => ?_)
          refine wk_iinc (lv' := fun x3_11 => [(3, .int (iI x3_11)), (2, .int (iI x2_10)), (0, .ref (ad 1)), (1, .int (iI a1))]) hx hb dX0_unlike_40 hl (k := 3) rfl (by decide) (fun _ => rfl) (fun x3_11 ls ex3_11 hl => ?_)
          have hw := hw x3_11 ex3_11
          refine lv_goto (tgt := 4) hx hb dX0_unlike_43 (by decide) ?_
          obtain ⟨k12, hk12, hw⟩ := hw
          exact ih4 k12 hk12 x2_10 x3_11 _ _ _ hP hS (lv_sub hl [2, 3, 1, 0] rfl) hw
        refine wk_icmp_ne hx hb q6 ⟨by decide, by decide⟩ (tgt := 31) dX0_unlike_19 (by decide) (fun hh13 => ?_) (fun hh13 => ?_)
        · have hs := hs.2 hh13
          refine lv_aload_n hx hb dX0_unlike_31 rfl (lv_at hl 0 rfl) ?_
          refine wk_getR 4 C0 fl_X0_18 hP (by decide) sh_1 rfl dX0_unlike_32 ?_
          refine lv_iload_n hx hb dX0_unlike_35 rfl (lv_at hl 3 rfl) ?_
          have q8 := hs
          refine wk_iald C0 hP (by decide) sh_4 q8.1 q8.2 (by decide) dX0_unlike_36 ?_
          refine wk_ineg hx hb dX0_unlike_37 ?_
          exact kX38 (-(sg 4 y3_2.toNat)) (by rw [if_neg hh13]) ls (lv_sub hl [0, 1, 3] rfl)
        · have hs := hs.1 hh13
          refine lv_aload_n hx hb dX0_unlike_22 rfl (lv_at hl 0 rfl) ?_
          refine wk_getR 4 C0 fl_X0_18 hP (by decide) sh_1 rfl dX0_unlike_23 ?_
          refine lv_iload_n hx hb dX0_unlike_26 rfl (lv_at hl 3 rfl) ?_
          have q7 := hs
          refine wk_iald C0 hP (by decide) sh_4 q7.1 q7.2 (by decide) dX0_unlike_27 ?_
          refine lv_goto (tgt := 38) hx hb dX0_unlike_28 (by decide) ?_
          exact kX38 (sg 4 y3_2.toNat) (by rw [if_pos hh13]) ls (lv_sub hl [0, 1, 3] rfl)
  obtain ⟨k14, hw⟩ := hw
  exact kI4 k14 0 0 _ _ _ hP hS (lv_sub hl [2, 3, 1, 0] rfl) hw

set_option maxRecDepth 100000 in
set_option maxHeartbeats 4000000 in
theorem ok_X1_empty {l : Launch} {D : va_G} {cA : Nat → ClassId} {ad : Nat → Nat} (hI : wI ad) {sg : Mem} {Q : Mem → Prop} (hw : wp_X1_empty sg Q) : wMv l D cA ad yX1_empty cX1_empty 1 none 1 [.ref (ad 63)] sg Q := by
  refine wk_ofV (by decide) hI (Nat.le_of_ble_eq_true rfl) ?_
  intro p e s m below meth c A QQ ls C0 hret hl hP
  have hx := C0.1
  have hb := C0.2.1
  have hown := C0.2.2.2.1
  have htb := C0.2.2.2.2.1
  have hl : lv_has ls 1 [(0, .ref (ad 63))] := hl
  refine (fun (key : ∀ (H : Heap) (locs : List Loc), wP D cA ad sg H → va_S (wA ad) s.heap H locs → W p l e (rmL 1) s m A below meth c H locs 0 0 QQ (F0 m 0 ls [])) => key _ _ hP va_S.rf) ?_
  intro H locs hP hS
  unfold wp_X1_empty at hw
  refine lv_aload_n hx hb dX1_empty_0 rfl (lv_at hl 0 rfl) ?_
  refine lv_iconst (v := iI 0) hx hb dX1_empty_1 rfl ?_
  refine wk_putI C0 fl_X1_15 rfl rfl hP hS (by decide) sh_63 rfl dX1_empty_2 (fun s1 H locs es1 hP hS => ?_)
  have hw := hw s1 es1
  exact hret _ _ _ _ _ hw hP hS dX1_empty_5

set_option maxRecDepth 100000 in
set_option maxHeartbeats 4000000 in
theorem ok_X1_add {l : Launch} {D : va_G} {cA : Nat → ClassId} {ad : Nat → Nat} (hI : wI ad) {a1 : Int} {sg : Mem} {Q : Int → Mem → Prop} (hw : wp_X1_add a1 sg Q) : wMi l D cA ad yX1_add cX1_add 2 (some .boolean) 1 [.ref (ad 63), .int (iI a1)] sg Q := by
  refine wk_ofZ (by decide) hI (Nat.le_of_ble_eq_true rfl) ?_
  intro p e s m below meth c A QQ ls C0 hret hl hP
  have hx := C0.1
  have hb := C0.2.1
  have hown := C0.2.2.2.1
  have htb := C0.2.2.2.2.1
  have hl : lv_has ls 2 [(0, .ref (ad 63)), (1, .int (iI a1))] := hl
  refine (fun (key : ∀ (H : Heap) (locs : List Loc), wP D cA ad sg H → va_S (wA ad) s.heap H locs → W p l e (rmL 1) s m A below meth c H locs 0 0 QQ (F0 m 0 ls [])) => key _ _ hP va_S.rf) ?_
  intro H locs hP hS
  unfold wp_X1_add at hw
  refine lv_aload_n hx hb dX1_add_0 rfl (lv_at hl 0 rfl) ?_
  refine wk_getI C0 fl_X1_15 hP (by decide) sh_63 rfl dX1_add_1 ?_
  refine lv_bipush (v := iI 20) hx hb dX1_add_4 (by decide +kernel) ?_
  have q1 := hw.1
  have hw := hw.2
  refine wk_icmp_lt hx hb q1 ⟨by decide, by decide⟩ (tgt := 11) dX1_add_6 (by decide) (fun hh => ?_) (fun hh => ?_)
  · have hw := hw.1 hh
    refine lv_aload_n hx hb dX1_add_11 rfl (lv_at hl 0 rfl) ?_
    refine wk_getR 64 C0 fl_X1_9 hP (by decide) sh_63 rfl dX1_add_12 ?_
    refine lv_aload_n hx hb dX1_add_15 rfl (lv_at hl 0 rfl) ?_
    refine wk_getI C0 fl_X1_15 hP (by decide) sh_63 rfl dX1_add_16 ?_
    refine lv_iload_n hx hb dX1_add_19 rfl (lv_at hl 1 rfl) ?_
    have q2 := hw.1
    have hw := hw.2
    refine wk_iast C0 hP hS (by decide) sh_64 q2.1 q2.2 (by decide) dX1_add_20 (fun s3 H locs es3 hP hS => ?_)
    have hw := hw s3 es3
    refine lv_aload_n hx hb dX1_add_21 rfl (lv_at hl 0 rfl) ?_
    refine lv_dup hx hb dX1_add_22 rfl ?_
    refine wk_getI C0 fl_X1_15 hP (by decide) sh_63 rfl dX1_add_23 ?_
    refine lv_iconst (v := iI 1) hx hb dX1_add_26 rfl ?_
    refine wk_iadd hx hb dX1_add_27 ?_
    refine wk_putI C0 fl_X1_15 rfl rfl hP hS (by decide) sh_63 rfl dX1_add_28 (fun s4 H locs es4 hP hS => ?_)
    have hw := hw s4 es4
    refine lv_iconst (v := iI 1) hx hb dX1_add_31 rfl ?_
    exact hret _ _ _ _ _ _ (by decide) hw hP hS dX1_add_32
  · have hw := hw.2 hh
    refine lv_iconst (v := iI 0) hx hb dX1_add_9 rfl ?_
    exact hret _ _ _ _ _ _ (by decide) hw hP hS dX1_add_10

set_option maxRecDepth 100000 in
set_option maxHeartbeats 4000000 in
theorem ok_X4_turn {l : Launch} {D : va_G} {cA : Nat → ClassId} {ad : Nat → Nat} (hI : wI ad) {c0 : Nat} (hc0 : isN c0) {a1 : Int} {sg : Mem} {Q : Mem → Prop} (hw : wp_X4_turn c0 a1 sg Q) : wMv l D cA ad yX4_turn cX4_turn 6 none 1 [.ref (ad c0), .int (iI a1)] sg Q := by
  refine wk_ofV (by decide) hI (Nat.le_of_ble_eq_true rfl) ?_
  intro p e s m below meth c A QQ ls C0 hret hl hP
  have hx := C0.1
  have hb := C0.2.1
  have hown := C0.2.2.2.1
  have htb := C0.2.2.2.2.1
  have hl : lv_has ls 6 [(0, .ref (ad c0)), (1, .int (iI a1))] := hl
  refine (fun (key : ∀ (H : Heap) (locs : List Loc), wP D cA ad sg H → va_S (wA ad) s.heap H locs → W p l e (rmL 1) s m A below meth c H locs 0 0 QQ (F0 m 0 ls [])) => key _ _ hP va_S.rf) ?_
  intro H locs hP hS
  unfold wp_X4_turn at hw
  refine lv_aload_n hx hb dX4_turn_0 rfl (lv_at hl 0 rfl) ?_
  refine wk_getR 1 C0 fl_X4_18 hP (isN_lt hc0) (isN_sh hc0).2.1 rfl dX4_turn_1 ?_
  refine wk_getI C0 fl_X4_44 hP (by decide) sh_1 rfl dX4_turn_4 ?_
  refine lv_iconst (v := iI 1) hx hb dX4_turn_7 rfl ?_
  refine wk_isub hx hb dX4_turn_8 ?_
  refine wk_top (fun x2_1 ex2_1 => ?_)
  have hw := hw x2_1 ex2_1
  refine lv_istore_n (lv' := [(2, .int (iI x2_1)), (0, .ref (ad c0)), (1, .int (iI a1))]) hx hb dX4_turn_9 rfl hl (by decide) rfl (fun ls hl => ?_)
  refine lv_iload_n hx hb dX4_turn_10 rfl (lv_at hl 0 rfl) ?_
  refine lv_iconst (v := iI 1) hx hb dX4_turn_11 rfl ?_
  have q2 := hw.1
  have hw := hw.2
  refine wk_icmp_ge hx hb q2 ⟨by decide, by decide⟩ (tgt := 16) dX4_turn_12 (by decide) (fun hh => ?_) (fun hh => ?_)
  · have hw := hw.1 hh
    refine lv_aload_n hx hb dX4_turn_16 rfl (lv_at hl 1 rfl) ?_
    refine wk_getR (c0 + 1) C0 fl_X4_9 hP (isN_lt hc0) (isN_sh hc0).2.1 rfl dX4_turn_17 ?_
    refine lv_iconst (v := iI 0) hx hb dX4_turn_20 rfl ?_
    refine wk_iald C0 hP (isN_lt1 hc0) (isN_sh hc0).2.2.1 (by decide) (by decide) (by decide) dX4_turn_21 ?_
    rw [show (0 : Int).toNat = 0 from rfl]
    refine wk_top (fun x3_3 ex3_3 => ?_)
    have hw := hw x3_3 ex3_3
    refine lv_istore_n (lv' := [(3, .int (iI x3_3)), (2, .int (iI x2_1)), (0, .ref (ad c0)), (1, .int (iI a1))]) hx hb dX4_turn_22 rfl hl (by decide) rfl (fun ls hl => ?_)
    refine lv_aload_n hx hb dX4_turn_23 rfl (lv_at hl 2 rfl) ?_
    refine wk_getR (c0 + 1) C0 fl_X4_9 hP (isN_lt hc0) (isN_sh hc0).2.1 rfl dX4_turn_24 ?_
    refine lv_iload_n hx hb dX4_turn_27 rfl (lv_at hl 1 rfl) ?_
    have q4 := hw.1
    have hw := hw.2
    refine wk_iald C0 hP (isN_lt1 hc0) (isN_sh hc0).2.2.1 q4.1 q4.2 (by decide) dX4_turn_28 ?_
    refine wk_top (fun x4_5 ex4_5 => ?_)
    have hw := hw x4_5 ex4_5
    refine lv_istore (lv' := [(4, .int (iI x4_5)), (3, .int (iI x3_3)), (2, .int (iI x2_1)), (0, .ref (ad c0)), (1, .int (iI a1))]) hx hb dX4_turn_29 hl (by decide) rfl (fun ls hl => ?_)
    refine lv_iload_n hx hb dX4_turn_31 rfl (lv_at hl 4 rfl) ?_
    refine lv_iconst (v := iI 1) hx hb dX4_turn_32 rfl ?_
    have q6 := hw.1
    have hw := hw.2
    refine wk_icmp_ne hx hb q6 ⟨by decide, by decide⟩ (tgt := 77) dX4_turn_33 (by decide) (fun hh => ?_) (fun hh => ?_)
    · have hw := hw.2 hh
      refine lv_iload_n hx hb dX4_turn_77 rfl (lv_at hl 4 rfl) ?_
      refine lv_iconst (v := iI 2) hx hb dX4_turn_78 rfl ?_
      refine wk_icmp_ne hx hb q6 ⟨by decide, by decide⟩ (tgt := 123) dX4_turn_79 (by decide) (fun hh => ?_) (fun hh => ?_)
      · have hw := hw.2 hh
        refine lv_iload_n hx hb dX4_turn_123 rfl (lv_at hl 4 rfl) ?_
        refine lv_iconst (v := iI 3) hx hb dX4_turn_124 rfl ?_
        refine wk_icmp_ne hx hb q6 ⟨by decide, by decide⟩ (tgt := 143) dX4_turn_125 (by decide) (fun hh => ?_) (fun hh => ?_)
        · have hw := hw.2 hh
          exact hret _ _ _ _ _ hw hP hS dX4_turn_143
        · have hw := hw.1 hh
          refine lv_aload_n hx hb dX4_turn_128 rfl (lv_at hl 3 rfl) ?_
          refine wk_getR (c0 + 1) C0 fl_X4_9 hP (isN_lt hc0) (isN_sh hc0).2.1 rfl dX4_turn_129 ?_
          refine lv_iconst (v := iI 0) hx hb dX4_turn_132 rfl ?_
          refine lv_iload hx hb dX4_turn_133 (lv_at hl 0 rfl) ?_
          refine wk_iast C0 hP hS (isN_lt1 hc0) (isN_sh hc0).2.2.1 (by decide) (by decide) (by decide) dX4_turn_135 (fun s27 H locs es27 hP hS => ?_)
          have hw := hw s27 es27
          refine lv_aload_n hx hb dX4_turn_136 rfl (lv_at hl 3 rfl) ?_
          refine wk_getR (c0 + 1) C0 fl_X4_9 hP (isN_lt hc0) (isN_sh hc0).2.1 rfl dX4_turn_137 ?_
          refine lv_iload_n hx hb dX4_turn_140 rfl (lv_at hl 2 rfl) ?_
          refine lv_iload_n hx hb dX4_turn_141 rfl (lv_at hl 1 rfl) ?_
          refine wk_iast C0 hP hS (isN_lt1 hc0) (isN_sh hc0).2.2.1 q4.1 q4.2 (by decide) dX4_turn_142 (fun s28 H locs es28 hP hS => ?_)
          have hw := hw s28 es28
          exact hret _ _ _ _ _ hw hP hS dX4_turn_143
      · have hw := hw.1 hh
        refine lv_iconst (v := iI 0) hx hb dX4_turn_82 rfl ?_
        refine lv_istore (lv' := [(5, .int (iI 0)), (4, .int (iI x4_5)), (3, .int (iI x3_3)), (2, .int (iI x2_1)), (0, .ref (ad c0)), (1, .int (iI a1))]) hx hb dX4_turn_83 hl (by decide) rfl (fun ls hl => ?_)
        obtain ⟨I85, hI85, hw⟩ := hw
        have kI85 : ∀ (k85 : Nat) (y5_17 : Int) (s18 : Mem) (H : Heap) (locs : List Loc) (ls : Array Slot), wP D cA ad s18 H → va_S (wA ad) s.heap H locs → lv_has ls 6 [(0, .ref (ad c0)), (2, .int (iI x2_1)), (3, .int (iI x3_3)), (5, .int (iI y5_17))] → I85 k85 y5_17 s18 → W p l e (rmL 1) s m A below meth c H locs 0 0 QQ (F0 m 85 ls []) := by
          intro k85
          induction k85 using Nat.strongRecOn with
          | _ k85 ih85 =>
            intro y5_17 s18 H locs ls hP hS hl hw
            have hw := hI85 k85 y5_17 s18 hw
            refine lv_iload hx hb dX4_turn_85 (lv_at hl 3 rfl) ?_
            refine lv_iload_n hx hb dX4_turn_87 rfl (lv_at hl 1 rfl) ?_
            have q19 := hw.1
            have hw := hw.2
            refine wk_icmp_ge hx hb q19 q2 (tgt := 113) dX4_turn_88 (by decide) (fun hh => ?_) (fun hh => ?_)
            · have hw := hw.1 hh
              refine lv_aload_n hx hb dX4_turn_113 rfl (lv_at hl 0 rfl) ?_
              refine wk_getR (c0 + 1) C0 fl_X4_9 hP (isN_lt hc0) (isN_sh hc0).2.1 rfl dX4_turn_114 ?_
              refine lv_iload_n hx hb dX4_turn_117 rfl (lv_at hl 1 rfl) ?_
              refine lv_iload_n hx hb dX4_turn_118 rfl (lv_at hl 2 rfl) ?_
              refine wk_iast C0 hP hS (isN_lt1 hc0) (isN_sh hc0).2.2.1 q4.1 q4.2 (by decide) dX4_turn_119 (fun s20 H locs es20 hP hS => ?_)
              have hw := hw s20 es20
              refine lv_goto (tgt := 143) hx hb dX4_turn_120 (by decide) ?_
              exact hret _ _ _ _ _ hw hP hS dX4_turn_143
            · have hw := hw.2 hh
              refine lv_aload_n hx hb dX4_turn_91 rfl (lv_at hl 0 rfl) ?_
              refine wk_getR (c0 + 1) C0 fl_X4_9 hP (isN_lt hc0) (isN_sh hc0).2.1 rfl dX4_turn_92 ?_
              refine lv_iload hx hb dX4_turn_95 (lv_at hl 3 rfl) ?_
              refine lv_aload_n hx hb dX4_turn_97 rfl (lv_at hl 0 rfl) ?_
              refine wk_getR (c0 + 1) C0 fl_X4_9 hP (isN_lt hc0) (isN_sh hc0).2.1 rfl dX4_turn_98 ?_
              refine lv_iload hx hb dX4_turn_101 (lv_at hl 3 rfl) ?_
              refine lv_iconst (v := iI 1) hx hb dX4_turn_103 rfl ?_
              refine wk_iadd hx hb dX4_turn_104 ?_
              have q21 := hw.1
              have hw := hw.2
              refine wk_iald C0 hP (isN_lt1 hc0) (isN_sh hc0).2.2.1 q21.1 q21.2 (by decide) dX4_turn_105 ?_
              have q22 := hw.1
              have hw := hw.2
              refine wk_iast C0 hP hS (isN_lt1 hc0) (isN_sh hc0).2.2.1 q22.1 q22.2 (by decide) dX4_turn_106 (fun s23 H locs es23 hP hS => ?_)
              have hw := hw s23 es23
              refine wk_iinc (lv' := fun x5_24 => [(5, .int (iI x5_24)), (0, .ref (ad c0)), (2, .int (iI x2_1)), (3, .int (iI x3_3))]) hx hb dX4_turn_107 hl (k := 3) rfl (by decide) (fun _ => rfl) (fun x5_24 ls ex5_24 hl => ?_)
              have hw := hw x5_24 ex5_24
              refine lv_goto (tgt := 85) hx hb dX4_turn_110 (by decide) ?_
              obtain ⟨k25, hk25, hw⟩ := hw
              exact ih85 k25 hk25 x5_24 s23 _ _ _ hP hS (lv_sub hl [1, 2, 3, 0] rfl) hw
        obtain ⟨k26, hw⟩ := hw
        exact kI85 k26 0 sg _ _ _ hP hS (lv_sub hl [4, 3, 2, 0] rfl) hw
    · have hw := hw.1 hh
      refine lv_iload_n hx hb dX4_turn_36 rfl (lv_at hl 2 rfl) ?_
      refine lv_istore (lv' := [(5, .int (iI x2_1)), (4, .int (iI x4_5)), (3, .int (iI x3_3)), (2, .int (iI x2_1)), (0, .ref (ad c0)), (1, .int (iI a1))]) hx hb dX4_turn_37 hl (by decide) rfl (fun ls hl => ?_)
      obtain ⟨I39, hI39, hw⟩ := hw
      have kI39 : ∀ (k39 : Nat) (y5_7 : Int) (s8 : Mem) (H : Heap) (locs : List Loc) (ls : Array Slot), wP D cA ad s8 H → va_S (wA ad) s.heap H locs → lv_has ls 6 [(0, .ref (ad c0)), (4, .int (iI x4_5)), (5, .int (iI y5_7))] → I39 k39 y5_7 s8 → W p l e (rmL 1) s m A below meth c H locs 0 0 QQ (F0 m 39 ls []) := by
        intro k39
        induction k39 using Nat.strongRecOn with
        | _ k39 ih39 =>
          intro y5_7 s8 H locs ls hP hS hl hw
          have hw := hI39 k39 y5_7 s8 hw
          refine lv_iload hx hb dX4_turn_39 (lv_at hl 2 rfl) ?_
          have q9 := hw.1
          have hw := hw.2
          refine wk_if_le hx hb q9 (tgt := 66) dX4_turn_41 (by decide) (fun hh => ?_) (fun hh => ?_)
          · have hw := hw.1 hh
            refine lv_aload_n hx hb dX4_turn_66 rfl (lv_at hl 0 rfl) ?_
            refine wk_getR (c0 + 1) C0 fl_X4_9 hP (isN_lt hc0) (isN_sh hc0).2.1 rfl dX4_turn_67 ?_
            refine lv_iconst (v := iI 0) hx hb dX4_turn_70 rfl ?_
            refine lv_iload hx hb dX4_turn_71 (lv_at hl 1 rfl) ?_
            refine wk_iast C0 hP hS (isN_lt1 hc0) (isN_sh hc0).2.2.1 (by decide) (by decide) (by decide) dX4_turn_73 (fun s10 H locs es10 hP hS => ?_)
            have hw := hw s10 es10
            refine lv_goto (tgt := 143) hx hb dX4_turn_74 (by decide) ?_
            exact hret _ _ _ _ _ hw hP hS dX4_turn_143
          · have hw := hw.2 hh
            refine lv_aload_n hx hb dX4_turn_44 rfl (lv_at hl 0 rfl) ?_
            refine wk_getR (c0 + 1) C0 fl_X4_9 hP (isN_lt hc0) (isN_sh hc0).2.1 rfl dX4_turn_45 ?_
            refine lv_iload hx hb dX4_turn_48 (lv_at hl 2 rfl) ?_
            refine lv_aload_n hx hb dX4_turn_50 rfl (lv_at hl 0 rfl) ?_
            refine wk_getR (c0 + 1) C0 fl_X4_9 hP (isN_lt hc0) (isN_sh hc0).2.1 rfl dX4_turn_51 ?_
            refine lv_iload hx hb dX4_turn_54 (lv_at hl 2 rfl) ?_
            refine lv_iconst (v := iI 1) hx hb dX4_turn_56 rfl ?_
            refine wk_isub hx hb dX4_turn_57 ?_
            have q11 := hw.1
            have hw := hw.2
            refine wk_iald C0 hP (isN_lt1 hc0) (isN_sh hc0).2.2.1 q11.1 q11.2 (by decide) dX4_turn_58 ?_
            have q12 := hw.1
            have hw := hw.2
            refine wk_iast C0 hP hS (isN_lt1 hc0) (isN_sh hc0).2.2.1 q12.1 q12.2 (by decide) dX4_turn_59 (fun s13 H locs es13 hP hS => ?_)
            have hw := hw s13 es13
            refine wk_iinc (lv' := fun x5_14 => [(5, .int (iI x5_14)), (0, .ref (ad c0)), (4, .int (iI x4_5))]) hx hb dX4_turn_60 hl (k := 2) rfl (by decide) (fun _ => rfl) (fun x5_14 ls ex5_14 hl => ?_)
            have hw := hw x5_14 ex5_14
            refine lv_goto (tgt := 39) hx hb dX4_turn_63 (by decide) ?_
            obtain ⟨k15, hk15, hw⟩ := hw
            exact ih39 k15 hk15 x5_14 s13 _ _ _ hP hS (lv_sub hl [1, 2, 0] rfl) hw
      obtain ⟨k16, hw⟩ := hw
      exact kI39 k16 x2_1 sg _ _ _ hP hS (lv_sub hl [4, 1, 0] rfl) hw
  · have hw := hw.2 hh
    exact hret _ _ _ _ _ hw hP hS dX4_turn_15

set_option maxRecDepth 100000 in
set_option maxHeartbeats 4000000 in
theorem ok_X4_givenFrom {l : Launch} {D : va_G} {cA : Nat → ClassId} {ad : Nat → Nat} (hI : wI ad) {c0 : Nat} (hc0 : isN c0) {a1 : Int} {sg : Mem} {Q : Int → Prop} (hw : wp_X4_givenFrom c0 a1 sg Q) : wMi l D cA ad yX4_givenFrom cX4_givenFrom 2 (some .int) 1 [.ref (ad c0), .int (iI a1)] sg (fun z u => u = sg ∧ Q z) := by
  refine wk_ofI (by decide) hI (Nat.le_of_ble_eq_true rfl) ?_
  intro p e s m below meth c A QQ ls C0 hret hl hP
  have hx := C0.1
  have hb := C0.2.1
  have hown := C0.2.2.2.1
  have htb := C0.2.2.2.2.1
  have hl : lv_has ls 2 [(0, .ref (ad c0)), (1, .int (iI a1))] := hl
  refine (fun (key : ∀ (H : Heap) (locs : List Loc), wP D cA ad sg H → va_S (wA ad) s.heap H locs → W p l e (rmL 1) s m A below meth c H locs 0 0 QQ (F0 m 0 ls [])) => key _ _ hP va_S.rf) ?_
  intro H locs hP hS
  unfold wp_X4_givenFrom at hw
  refine lv_iload_n hx hb dX4_givenFrom_0 rfl (lv_at hl 1 rfl) ?_
  refine lv_iconst (v := iI (-1)) hx hb dX4_givenFrom_1 rfl ?_
  have q1 := hw.1
  have hw := hw.2
  refine wk_icmp_eq hx hb q1 ⟨by decide, by decide⟩ (tgt := 15) dX4_givenFrom_2 (by decide) (fun hh => ?_) (fun hh => ?_)
  · have hw := hw.1 hh
    refine lv_iconst (v := iI 0) hx hb dX4_givenFrom_15 rfl ?_
    refine lv_goto (tgt := 33) hx hb dX4_givenFrom_16 (by decide) ?_
    exact hret _ _ _ _ _ _ ⟨rfl, hw⟩ hP hS dX4_givenFrom_33
  · have hw := hw.2 hh
    refine lv_aload_n hx hb dX4_givenFrom_5 rfl (lv_at hl 0 rfl) ?_
    refine wk_getR (c0 + 1) C0 fl_X4_9 hP (isN_lt hc0) (isN_sh hc0).2.1 rfl dX4_givenFrom_6 ?_
    refine lv_iload_n hx hb dX4_givenFrom_9 rfl (lv_at hl 1 rfl) ?_
    have q2 := hw.1
    have hw := hw.2
    refine wk_iald C0 hP (isN_lt1 hc0) (isN_sh hc0).2.2.1 q2.1 q2.2 (by decide) dX4_givenFrom_10 ?_
    refine lv_iconst (v := iI (-1)) hx hb dX4_givenFrom_11 rfl ?_
    have q3 := hw.1
    have hw := hw.2
    refine wk_icmp_ne hx hb q3 ⟨by decide, by decide⟩ (tgt := 19) dX4_givenFrom_12 (by decide) (fun hh => ?_) (fun hh => ?_)
    · have hw := hw.2 hh
      refine lv_aload_n hx hb dX4_givenFrom_19 rfl (lv_at hl 0 rfl) ?_
      refine wk_getR 1 C0 fl_X4_18 hP (isN_lt hc0) (isN_sh hc0).2.1 rfl dX4_givenFrom_20 ?_
      refine wk_getR 4 C0 fl_X4_97 hP (by decide) sh_1 rfl dX4_givenFrom_23 ?_
      refine lv_aload_n hx hb dX4_givenFrom_26 rfl (lv_at hl 0 rfl) ?_
      refine wk_getR (c0 + 1) C0 fl_X4_9 hP (isN_lt hc0) (isN_sh hc0).2.1 rfl dX4_givenFrom_27 ?_
      refine lv_iload_n hx hb dX4_givenFrom_30 rfl (lv_at hl 1 rfl) ?_
      refine wk_iald C0 hP (isN_lt1 hc0) (isN_sh hc0).2.2.1 q2.1 q2.2 (by decide) dX4_givenFrom_31 ?_
      have q4 := hw.1
      have hw := hw.2
      refine wk_iald C0 hP (by decide) sh_4 q4.1 q4.2 (by decide) dX4_givenFrom_32 ?_
      exact hret _ _ _ _ _ _ ⟨rfl, hw⟩ hP hS dX4_givenFrom_33
    · have hw := hw.1 hh
      refine lv_iconst (v := iI 0) hx hb dX4_givenFrom_15 rfl ?_
      refine lv_goto (tgt := 33) hx hb dX4_givenFrom_16 (by decide) ?_
      exact hret _ _ _ _ _ _ ⟨rfl, hw⟩ hP hS dX4_givenFrom_33

set_option maxRecDepth 100000 in
set_option maxHeartbeats 4000000 in
theorem ok_X4_givenTo {l : Launch} {D : va_G} {cA : Nat → ClassId} {ad : Nat → Nat} (hI : wI ad) {c0 : Nat} (hc0 : isN c0) {a1 : Int} {sg : Mem} {Q : Int → Prop} (hw : wp_X4_givenTo c0 a1 sg Q) : wMi l D cA ad yX4_givenTo cX4_givenTo 6 (some .int) 2 [.ref (ad c0), .int (iI a1)] sg (fun z u => u = sg ∧ Q z) := by
  refine wk_ofI (by decide) hI (Nat.le_of_ble_eq_true rfl) ?_
  intro p e s m below meth c A QQ ls C0 hret hl hP
  have hx := C0.1
  have hb := C0.2.1
  have hown := C0.2.2.2.1
  have htb := C0.2.2.2.2.1
  have hl : lv_has ls 6 [(0, .ref (ad c0)), (1, .int (iI a1))] := hl
  refine (fun (key : ∀ (H : Heap) (locs : List Loc), wP D cA ad sg H → va_S (wA ad) s.heap H locs → W p l e (rmL 2) s m A below meth c H locs 0 0 QQ (F0 m 0 ls [])) => key _ _ hP va_S.rf) ?_
  intro H locs hP hS
  unfold wp_X4_givenTo at hw
  refine lv_aload_n hx hb dX4_givenTo_0 rfl (lv_at hl 0 rfl) ?_
  refine wk_getR 1 C0 fl_X4_18 hP (isN_lt hc0) (isN_sh hc0).2.1 rfl dX4_givenTo_1 ?_
  refine wk_getI C0 fl_X4_44 hP (by decide) sh_1 rfl dX4_givenTo_4 ?_
  refine lv_iconst (v := iI 1) hx hb dX4_givenTo_7 rfl ?_
  refine wk_isub hx hb dX4_givenTo_8 ?_
  refine wk_top (fun x2_1 ex2_1 => ?_)
  have hw := hw x2_1 ex2_1
  refine lv_istore_n (lv' := [(2, .int (iI x2_1)), (0, .ref (ad c0)), (1, .int (iI a1))]) hx hb dX4_givenTo_9 rfl hl (by decide) rfl (fun ls hl => ?_)
  refine lv_aload_n hx hb dX4_givenTo_10 rfl (lv_at hl 1 rfl) ?_
  refine wk_getR 1 C0 fl_X4_18 hP (isN_lt hc0) (isN_sh hc0).2.1 rfl dX4_givenTo_11 ?_
  refine wk_getI C0 fl_X4_90 hP (by decide) sh_1 rfl dX4_givenTo_14 ?_
  have q2 := hw.1
  have hw := hw.2
  have hs := hw.1
  have hw := hw.2
  have kX30 : ∀ v4 : Int, v4 = (if sg 1 1 = 0 then 0 else if x2_1 ≤ 1 then 0 else 1) → ∀ (ls : Array Slot), lv_has ls 6 [(0, .ref (ad c0)), (1, .int (iI a1)), (2, .int (iI x2_1))] → W p l e (rmL 2) s m A below meth c H locs 0 0 QQ (F0 m 30 ls [.int (iI v4)]) := by
    intro v4 ev4 ls hl
    have hw := hw v4 ev4
    refine lv_istore_n (lv' := [(3, .int (iI v4)), (0, .ref (ad c0)), (1, .int (iI a1)), (2, .int (iI x2_1))]) hx hb dX4_givenTo_30 rfl hl (by decide) rfl (fun ls hl => ?_)
    refine lv_iload_n hx hb dX4_givenTo_31 rfl (lv_at hl 2 rfl) ?_
    have q5 := hw.1
    have hw := hw.2
    have hs := hw.1
    have hw := hw.2
    have kX50 : ∀ v7 : Int, v7 = (if a1 ≤ 0 then if v4 = 0 then (-1) else x2_1 else a1 - 1) → ∀ (ls : Array Slot), lv_has ls 6 [(0, .ref (ad c0)), (1, .int (iI a1)), (2, .int (iI x2_1)), (3, .int (iI v4))] → W p l e (rmL 2) s m A below meth c H locs 0 0 QQ (F0 m 50 ls [.int (iI v7)]) := by
      intro v7 ev7 ls hl
      have hw := hw v7 ev7
      refine lv_istore (lv' := [(4, .int (iI v7)), (0, .ref (ad c0)), (1, .int (iI a1)), (2, .int (iI x2_1)), (3, .int (iI v4))]) hx hb dX4_givenTo_50 hl (by decide) rfl (fun ls hl => ?_)
      refine lv_iload_n hx hb dX4_givenTo_52 rfl (lv_at hl 2 rfl) ?_
      refine lv_iload_n hx hb dX4_givenTo_53 rfl (lv_at hl 3 rfl) ?_
      have q8 := hw.1
      have hw := hw.2
      have hs := hw.1
      have hw := hw.2
      have kX72 : ∀ v10 : Int, v10 = (if x2_1 ≤ a1 then if v4 = 0 then (-1) else 0 else a1 + 1) → ∀ (ls : Array Slot), lv_has ls 6 [(0, .ref (ad c0)), (4, .int (iI v7))] → W p l e (rmL 2) s m A below meth c H locs 0 0 QQ (F0 m 72 ls [.int (iI v10)]) := by
        intro v10 ev10 ls hl
        have hw := hw v10 ev10
        refine lv_istore (lv' := [(5, .int (iI v10)), (0, .ref (ad c0)), (4, .int (iI v7))]) hx hb dX4_givenTo_72 hl (by decide) rfl (fun ls hl => ?_)
        refine lv_aload_n hx hb dX4_givenTo_74 rfl (lv_at hl 1 rfl) ?_
        refine lv_iload hx hb dX4_givenTo_75 (lv_at hl 2 rfl) ?_
        refine wk_rip (wk_callV (rest := []) C0 cl_X4_94 (ok_X4_givenFrom hI hc0 hw) hP (isN_lt hc0) (isN_sh hc0).2.1 rfl rfl rfl (Nat.le_of_ble_eq_true rfl) (wk_room (by decide) (by decide)) hl.1 dX4_givenTo_77 ⟨Nat.le_refl _, Nat.le_refl _⟩) hS (fun r11 H locs hw hP hS => ?_)
        refine lv_aload_n hx hb dX4_givenTo_80 rfl (lv_at hl 1 rfl) ?_
        refine lv_iload hx hb dX4_givenTo_81 (lv_at hl 0 rfl) ?_
        refine wk_rip (wk_callV (rest := [.int (iI r11)]) C0 cl_X4_94 (ok_X4_givenFrom hI hc0 hw) hP (isN_lt hc0) (isN_sh hc0).2.1 rfl rfl rfl (Nat.le_of_ble_eq_true rfl) (wk_room (by decide) (by decide)) hl.1 dX4_givenTo_83 ⟨Nat.le_refl _, Nat.le_refl _⟩) hS (fun r12 H locs hw hP hS => ?_)
        refine wk_iadd hx hb dX4_givenTo_86 ?_
        exact hret _ _ _ _ _ _ ⟨rfl, hw⟩ hP hS dX4_givenTo_87
      refine wk_icmp_ge hx hb q5 q8 (tgt := 63) dX4_givenTo_54 (by decide) (fun hh13 => ?_) (fun hh13 => ?_)
      · have hs := hs.1 hh13
        refine lv_iload_n hx hb dX4_givenTo_63 rfl (lv_at hl 4 rfl) ?_
        have q9 := hs
        refine wk_if_eq hx hb q9 (tgt := 71) dX4_givenTo_64 (by decide) (fun hh14 => ?_) (fun hh14 => ?_)
        · refine lv_iconst (v := iI (-1)) hx hb dX4_givenTo_71 rfl ?_
          exact kX72 (-1) (by rw [if_pos hh13, if_pos hh14]) ls (lv_sub hl [1, 0] rfl)
        · refine lv_iconst (v := iI 0) hx hb dX4_givenTo_67 rfl ?_
          refine lv_goto (tgt := 72) hx hb dX4_givenTo_68 (by decide) ?_
          exact kX72 0 (by rw [if_pos hh13, if_neg hh14]) ls (lv_sub hl [1, 0] rfl)
      · refine lv_iload_n hx hb dX4_givenTo_57 rfl (lv_at hl 2 rfl) ?_
        refine lv_iconst (v := iI 1) hx hb dX4_givenTo_58 rfl ?_
        refine wk_iadd hx hb dX4_givenTo_59 ?_
        refine lv_goto (tgt := 72) hx hb dX4_givenTo_60 (by decide) ?_
        exact kX72 (a1 + 1) (by rw [if_neg hh13]) ls (lv_sub hl [1, 0] rfl)
    refine wk_if_le hx hb q5 (tgt := 41) dX4_givenTo_32 (by decide) (fun hh15 => ?_) (fun hh15 => ?_)
    · have hs := hs.1 hh15
      refine lv_iload_n hx hb dX4_givenTo_41 rfl (lv_at hl 0 rfl) ?_
      have q6 := hs
      refine wk_if_eq hx hb q6 (tgt := 49) dX4_givenTo_42 (by decide) (fun hh16 => ?_) (fun hh16 => ?_)
      · refine lv_iconst (v := iI (-1)) hx hb dX4_givenTo_49 rfl ?_
        exact kX50 (-1) (by rw [if_pos hh15, if_pos hh16]) ls (lv_sub hl [1, 2, 3, 0] rfl)
      · refine lv_iload_n hx hb dX4_givenTo_45 rfl (lv_at hl 3 rfl) ?_
        refine lv_goto (tgt := 50) hx hb dX4_givenTo_46 (by decide) ?_
        exact kX50 x2_1 (by rw [if_pos hh15, if_neg hh16]) ls (lv_sub hl [1, 2, 3, 0] rfl)
    · refine lv_iload_n hx hb dX4_givenTo_35 rfl (lv_at hl 2 rfl) ?_
      refine lv_iconst (v := iI 1) hx hb dX4_givenTo_36 rfl ?_
      refine wk_isub hx hb dX4_givenTo_37 ?_
      refine lv_goto (tgt := 50) hx hb dX4_givenTo_38 (by decide) ?_
      exact kX50 (a1 - 1) (by rw [if_neg hh15]) ls (lv_sub hl [1, 2, 3, 0] rfl)
  refine wk_if_eq hx hb q2 (tgt := 29) dX4_givenTo_17 (by decide) (fun hh17 => ?_) (fun hh17 => ?_)
  · refine lv_iconst (v := iI 0) hx hb dX4_givenTo_29 rfl ?_
    exact kX30 0 (by rw [if_pos hh17]) ls (lv_sub hl [1, 2, 0] rfl)
  · have hs := hs.2 hh17
    refine lv_iload_n hx hb dX4_givenTo_20 rfl (lv_at hl 0 rfl) ?_
    refine lv_iconst (v := iI 1) hx hb dX4_givenTo_21 rfl ?_
    have q3 := hs
    refine wk_icmp_le hx hb q3 ⟨by decide, by decide⟩ (tgt := 29) dX4_givenTo_22 (by decide) (fun hh18 => ?_) (fun hh18 => ?_)
    · refine lv_iconst (v := iI 0) hx hb dX4_givenTo_29 rfl ?_
      exact kX30 0 (by rw [if_neg hh17, if_pos hh18]) ls (lv_sub hl [1, 2, 0] rfl)
    · refine lv_iconst (v := iI 1) hx hb dX4_givenTo_25 rfl ?_
      refine lv_goto (tgt := 30) hx hb dX4_givenTo_26 (by decide) ?_
      exact kX30 1 (by rw [if_neg hh17, if_neg hh18]) ls (lv_sub hl [1, 2, 0] rfl)

set_option maxRecDepth 100000 in
set_option maxHeartbeats 4000000 in
theorem ok_X4_stay {l : Launch} {D : va_G} {cA : Nat → ClassId} {ad : Nat → Nat} (hI : wI ad) {c0 : Nat} (hc0 : isN c0) {a1 : Int} {sg : Mem} {Q : Mem → Prop} (hw : wp_X4_stay c0 a1 sg Q) : wMv l D cA ad yX4_stay cX4_stay 6 none 3 [.ref (ad c0), .int (iI a1)] sg Q := by
  refine wk_ofV (by decide) hI (Nat.le_of_ble_eq_true rfl) ?_
  intro p e s m below meth c A QQ ls C0 hret hl hP
  have hx := C0.1
  have hb := C0.2.1
  have hown := C0.2.2.2.1
  have htb := C0.2.2.2.2.1
  have hl : lv_has ls 6 [(0, .ref (ad c0)), (1, .int (iI a1))] := hl
  refine (fun (key : ∀ (H : Heap) (locs : List Loc), wP D cA ad sg H → va_S (wA ad) s.heap H locs → W p l e (rmL 3) s m A below meth c H locs 0 0 QQ (F0 m 0 ls [])) => key _ _ hP va_S.rf) ?_
  intro H locs hP hS
  unfold wp_X4_stay at hw
  refine lv_iconst (v := iI 0) hx hb dX4_stay_0 rfl ?_
  refine lv_istore_n (lv' := [(2, .int (iI 0)), (0, .ref (ad c0)), (1, .int (iI a1))]) hx hb dX4_stay_1 rfl hl (by decide) rfl (fun ls hl => ?_)
  refine lv_iconst (v := iI 0) hx hb dX4_stay_2 rfl ?_
  refine lv_istore_n (lv' := [(3, .int (iI 0)), (2, .int (iI 0)), (0, .ref (ad c0)), (1, .int (iI a1))]) hx hb dX4_stay_3 rfl hl (by decide) rfl (fun ls hl => ?_)
  obtain ⟨I4, hI4, hw⟩ := hw
  have kI4 : ∀ (k4 : Nat) (y2_1 : Int) (y3_2 : Int) (s3 : Mem) (H : Heap) (locs : List Loc) (ls : Array Slot), wP D cA ad s3 H → va_S (wA ad) s.heap H locs → lv_has ls 6 [(0, .ref (ad c0)), (1, .int (iI a1)), (2, .int (iI y2_1)), (3, .int (iI y3_2))] → I4 k4 y2_1 y3_2 s3 → W p l e (rmL 3) s m A below meth c H locs 0 0 QQ (F0 m 4 ls []) := by
    intro k4
    induction k4 using Nat.strongRecOn with
    | _ k4 ih4 =>
      intro y2_1 y3_2 s3 H locs ls hP hS hl hw
      have hw := hI4 k4 y2_1 y3_2 s3 hw
      refine lv_iload_n hx hb dX4_stay_4 rfl (lv_at hl 3 rfl) ?_
      refine lv_aload_n hx hb dX4_stay_5 rfl (lv_at hl 0 rfl) ?_
      refine wk_getR 1 C0 fl_X4_18 hP (isN_lt hc0) (isN_sh hc0).2.1 rfl dX4_stay_6 ?_
      refine wk_getI C0 fl_X4_44 hP (by decide) sh_1 rfl dX4_stay_9 ?_
      have q4 := hw.1
      have hw := hw.2
      have q5 := hw.1
      have hw := hw.2
      refine wk_icmp_ge hx hb q4 q5 (tgt := 98) dX4_stay_12 (by decide) (fun hh => ?_) (fun hh => ?_)
      · have hw := hw.1 hh
        refine lv_iconst (v := iI 0) hx hb dX4_stay_98 rfl ?_
        refine lv_istore_n (lv' := [(3, .int (iI 0)), (0, .ref (ad c0)), (1, .int (iI a1)), (2, .int (iI y2_1))]) hx hb dX4_stay_99 rfl hl (by decide) rfl (fun ls hl => ?_)
        obtain ⟨I100, hI100, hw⟩ := hw
        have kI100 : ∀ (k100 : Nat) (y3_6 : Int) (s7 : Mem) (H : Heap) (locs : List Loc) (ls : Array Slot), wP D cA ad s7 H → va_S (wA ad) s.heap H locs → lv_has ls 6 [(0, .ref (ad c0)), (1, .int (iI a1)), (2, .int (iI y2_1)), (3, .int (iI y3_6))] → I100 k100 y3_6 s7 → W p l e (rmL 3) s m A below meth c H locs 0 0 QQ (F0 m 100 ls []) := by
          intro k100
          induction k100 using Nat.strongRecOn with
          | _ k100 ih100 =>
            intro y3_6 s7 H locs ls hP hS hl hw
            have hw := hI100 k100 y3_6 s7 hw
            refine lv_iload_n hx hb dX4_stay_100 rfl (lv_at hl 3 rfl) ?_
            refine lv_aload_n hx hb dX4_stay_101 rfl (lv_at hl 0 rfl) ?_
            refine wk_getR 1 C0 fl_X4_18 hP (isN_lt hc0) (isN_sh hc0).2.1 rfl dX4_stay_102 ?_
            refine wk_getI C0 fl_X4_22 hP (by decide) sh_1 rfl dX4_stay_105 ?_
            have q8 := hw.1
            have hw := hw.2
            have q9 := hw.1
            have hw := hw.2
            refine wk_icmp_ge hx hb q8 q9 (tgt := 155) dX4_stay_108 (by decide) (fun hh => ?_) (fun hh => ?_)
            · have hw := hw.1 hh
              exact hret _ _ _ _ _ hw hP hS dX4_stay_155
            · have hw := hw.2 hh
              refine lv_iload_n hx hb dX4_stay_111 rfl (lv_at hl 2 rfl) ?_
              refine lv_iload_n hx hb dX4_stay_112 rfl (lv_at hl 3 rfl) ?_
              refine wk_ishr hx hb dX4_stay_113 ?_
              refine lv_iconst (v := iI 1) hx hb dX4_stay_114 rfl ?_
              refine wk_iand hx hb dX4_stay_115 ?_
              have q10 := hw.1
              have hw := hw.2
              obtain ⟨X149, hX149, hw⟩ := hw
              have kX149 : ∀ (s11 : Mem) (H : Heap) (locs : List Loc) (ls : Array Slot), wP D cA ad s11 H → va_S (wA ad) s.heap H locs → lv_has ls 6 [(0, .ref (ad c0)), (1, .int (iI a1)), (2, .int (iI y2_1)), (3, .int (iI y3_6))] → X149 s11 → W p l e (rmL 3) s m A below meth c H locs 0 0 QQ (F0 m 149 ls []) := by
                intro s11 H locs ls hP hS hl hw
                have hw := hX149 s11 hw
                refine wk_iinc (lv' := fun x3_12 => [(3, .int (iI x3_12)), (0, .ref (ad c0)), (1, .int (iI a1)), (2, .int (iI y2_1))]) hx hb dX4_stay_149 hl (k := 3) rfl (by decide) (fun _ => rfl) (fun x3_12 ls ex3_12 hl => ?_)
                have hw := hw x3_12 ex3_12
                refine lv_goto (tgt := 100) hx hb dX4_stay_152 (by decide) ?_
                obtain ⟨k13, hk13, hw⟩ := hw
                exact ih100 k13 hk13 x3_12 s11 _ _ _ hP hS (lv_sub hl [1, 2, 3, 0] rfl) hw
              refine wk_if_ne hx hb q10 (tgt := 149) dX4_stay_116 (by decide) (fun hh => ?_) (fun hh => ?_)
              · have hw := hw.2 hh
                exact kX149 s7 _ _ _ hP hS (lv_sub hl [0, 1, 2, 3] rfl) hw
              · have hw := hw.1 hh
                refine lv_aload_n hx hb dX4_stay_119 rfl (lv_at hl 0 rfl) ?_
                refine wk_getR (c0 + 2) C0 fl_X4_15 hP (isN_lt hc0) (isN_sh hc0).2.1 rfl dX4_stay_120 ?_
                refine lv_iload_n hx hb dX4_stay_123 rfl (lv_at hl 3 rfl) ?_
                refine lv_iconst (v := iI 0) hx hb dX4_stay_124 rfl ?_
                refine lv_aload_n hx hb dX4_stay_125 rfl (lv_at hl 0 rfl) ?_
                refine wk_getR (c0 + 2) C0 fl_X4_15 hP (isN_lt hc0) (isN_sh hc0).2.1 rfl dX4_stay_126 ?_
                refine lv_iload_n hx hb dX4_stay_129 rfl (lv_at hl 3 rfl) ?_
                have q14 := hw.1
                have hw := hw.2
                refine wk_iald C0 hP (isN_lt2 hc0) (isN_sh hc0).2.2.2 q14.1 q14.2 (by decide) dX4_stay_130 ?_
                refine lv_iload_n hx hb dX4_stay_131 rfl (lv_at hl 1 rfl) ?_
                refine lv_iconst (v := iI 2) hx hb dX4_stay_132 rfl ?_
                refine wk_imul hx hb dX4_stay_133 ?_
                refine lv_aload_n hx hb dX4_stay_134 rfl (lv_at hl 0 rfl) ?_
                refine wk_getR 1 C0 fl_X4_18 hP (isN_lt hc0) (isN_sh hc0).2.1 rfl dX4_stay_135 ?_
                refine wk_getR 5 C0 fl_X4_78 hP (by decide) sh_1 rfl dX4_stay_138 ?_
                refine lv_iload_n hx hb dX4_stay_141 rfl (lv_at hl 3 rfl) ?_
                refine wk_iald C0 hP (by decide) sh_5 q14.1 q14.2 (by decide) dX4_stay_142 ?_
                refine wk_imul hx hb dX4_stay_143 ?_
                refine wk_isub hx hb dX4_stay_144 ?_
                have q15 := hw.1
                have hw := hw.2
                refine wk_max C0 hl.1 (cl_X4_87) ⟨by decide, by decide⟩ q15 (Nat.le_of_ble_eq_true rfl) (Nat.le_of_ble_eq_true rfl) dX4_stay_145 ?_
                refine wk_iast C0 hP hS (isN_lt2 hc0) (isN_sh hc0).2.2.2 q14.1 q14.2 (by decide) dX4_stay_148 (fun s16 H locs es16 hP hS => ?_)
                have hw := hw s16 es16
                exact kX149 s16 _ _ _ hP hS (lv_sub hl [0, 1, 2, 3] rfl) hw
        obtain ⟨k17, hw⟩ := hw
        exact kI100 k17 0 s3 _ _ _ hP hS (lv_sub hl [1, 2, 3, 0] rfl) hw
      · have hw := hw.2 hh
        refine lv_aload_n hx hb dX4_stay_15 rfl (lv_at hl 0 rfl) ?_
        refine wk_getR (c0 + 1) C0 fl_X4_9 hP (isN_lt hc0) (isN_sh hc0).2.1 rfl dX4_stay_16 ?_
        refine lv_iload_n hx hb dX4_stay_19 rfl (lv_at hl 3 rfl) ?_
        have q18 := hw.1
        have hw := hw.2
        refine wk_iald C0 hP (isN_lt1 hc0) (isN_sh hc0).2.2.1 q18.1 q18.2 (by decide) dX4_stay_20 ?_
        refine wk_top (fun x4_19 ex4_19 => ?_)
        have hw := hw x4_19 ex4_19
        refine lv_istore (lv' := [(4, .int (iI x4_19)), (0, .ref (ad c0)), (1, .int (iI a1)), (2, .int (iI y2_1)), (3, .int (iI y3_2))]) hx hb dX4_stay_21 hl (by decide) rfl (fun ls hl => ?_)
        refine lv_iload hx hb dX4_stay_23 (lv_at hl 0 rfl) ?_
        refine lv_iconst (v := iI (-1)) hx hb dX4_stay_25 rfl ?_
        have q20 := hw.1
        have hw := hw.2
        obtain ⟨X92, hX92, hw⟩ := hw
        have kX92 : ∀ (y2_21 : Int) (s22 : Mem) (H : Heap) (locs : List Loc) (ls : Array Slot), wP D cA ad s22 H → va_S (wA ad) s.heap H locs → lv_has ls 6 [(0, .ref (ad c0)), (1, .int (iI a1)), (2, .int (iI y2_21)), (3, .int (iI y3_2))] → X92 y2_21 s22 → W p l e (rmL 3) s m A below meth c H locs 0 0 QQ (F0 m 92 ls []) := by
          intro y2_21 s22 H locs ls hP hS hl hw
          have hw := hX92 y2_21 s22 hw
          refine wk_iinc (lv' := fun x3_23 => [(3, .int (iI x3_23)), (0, .ref (ad c0)), (1, .int (iI a1)), (2, .int (iI y2_21))]) hx hb dX4_stay_92 hl (k := 3) rfl (by decide) (fun _ => rfl) (fun x3_23 ls ex3_23 hl => ?_)
          have hw := hw x3_23 ex3_23
          refine lv_goto (tgt := 4) hx hb dX4_stay_95 (by decide) ?_
          obtain ⟨k24, hk24, hw⟩ := hw
          exact ih4 k24 hk24 y2_21 x3_23 s22 _ _ _ hP hS (lv_sub hl [1, 2, 3, 0] rfl) hw
        refine wk_icmp_eq hx hb q20 ⟨by decide, by decide⟩ (tgt := 92) dX4_stay_26 (by decide) (fun hh => ?_) (fun hh => ?_)
        · have hw := hw.1 hh
          exact kX92 y2_1 s3 _ _ _ hP hS (lv_sub hl [1, 2, 3, 4] rfl) hw
        · have hw := hw.2 hh
          refine lv_iload_n hx hb dX4_stay_29 rfl (lv_at hl 3 rfl) ?_
          refine lv_iconst (v := iI 1) hx hb dX4_stay_30 rfl ?_
          refine lv_iload hx hb dX4_stay_31 (lv_at hl 0 rfl) ?_
          refine wk_ishl hx hb dX4_stay_33 ?_
          refine wk_ior hx hb dX4_stay_34 ?_
          refine wk_top (fun x2_25 ex2_25 => ?_)
          have hw := hw x2_25 ex2_25
          refine lv_istore_n (lv' := [(2, .int (iI x2_25)), (4, .int (iI x4_19)), (0, .ref (ad c0)), (1, .int (iI a1)), (3, .int (iI y3_2))]) hx hb dX4_stay_35 rfl hl (by decide) rfl (fun ls hl => ?_)
          refine lv_aload_n hx hb dX4_stay_36 rfl (lv_at hl 2 rfl) ?_
          refine wk_getR 1 C0 fl_X4_18 hP (isN_lt hc0) (isN_sh hc0).2.1 rfl dX4_stay_37 ?_
          refine wk_getR 2 C0 fl_X4_72 hP (by decide) sh_1 rfl dX4_stay_40 ?_
          refine lv_iload_n hx hb dX4_stay_43 rfl (lv_at hl 4 rfl) ?_
          refine wk_iald C0 hP (by decide) sh_2 q18.1 q18.2 (by decide) dX4_stay_44 ?_
          refine lv_aload_n hx hb dX4_stay_45 rfl (lv_at hl 2 rfl) ?_
          refine lv_iload_n hx hb dX4_stay_46 rfl (lv_at hl 4 rfl) ?_
          refine wk_rip (wk_callV (rest := [.int (iI (s3 2 y3_2.toNat))]) C0 cl_X4_75 (ok_X4_givenTo hI hc0 hw) hP (isN_lt hc0) (isN_sh hc0).2.1 rfl rfl rfl (Nat.le_of_ble_eq_true rfl) (wk_room (by decide) (by decide)) hl.1 dX4_stay_47 ⟨Nat.le_refl _, Nat.le_refl _⟩) hS (fun r26 H locs hw hP hS => ?_)
          refine wk_iadd hx hb dX4_stay_50 ?_
          refine lv_aload_n hx hb dX4_stay_51 rfl (lv_at hl 2 rfl) ?_
          refine wk_getR 1 C0 fl_X4_18 hP (isN_lt hc0) (isN_sh hc0).2.1 rfl dX4_stay_52 ?_
          refine wk_getR 5 C0 fl_X4_78 hP (by decide) sh_1 rfl dX4_stay_55 ?_
          refine lv_iload hx hb dX4_stay_58 (lv_at hl 1 rfl) ?_
          have q27 := hw.1
          have hw := hw.2
          refine wk_iald C0 hP (by decide) sh_5 q27.1 q27.2 (by decide) dX4_stay_60 ?_
          refine wk_isub hx hb dX4_stay_61 ?_
          refine wk_top (fun x5_28 ex5_28 => ?_)
          have hw := hw x5_28 ex5_28
          refine lv_istore (lv' := [(5, .int (iI x5_28)), (2, .int (iI x2_25)), (4, .int (iI x4_19)), (0, .ref (ad c0)), (1, .int (iI a1)), (3, .int (iI y3_2))]) hx hb dX4_stay_62 hl (by decide) rfl (fun ls hl => ?_)
          refine lv_aload_n hx hb dX4_stay_64 rfl (lv_at hl 3 rfl) ?_
          refine wk_getR (c0 + 2) C0 fl_X4_15 hP (isN_lt hc0) (isN_sh hc0).2.1 rfl dX4_stay_65 ?_
          refine lv_iload hx hb dX4_stay_68 (lv_at hl 2 rfl) ?_
          refine lv_iconst (v := iI 0) hx hb dX4_stay_70 rfl ?_
          refine lv_bipush (v := iI 99) hx hb dX4_stay_71 (by decide +kernel) ?_
          refine lv_aload_n hx hb dX4_stay_73 rfl (lv_at hl 3 rfl) ?_
          refine wk_getR (c0 + 2) C0 fl_X4_15 hP (isN_lt hc0) (isN_sh hc0).2.1 rfl dX4_stay_74 ?_
          refine lv_iload hx hb dX4_stay_77 (lv_at hl 2 rfl) ?_
          refine wk_iald C0 hP (isN_lt2 hc0) (isN_sh hc0).2.2.2 q27.1 q27.2 (by decide) dX4_stay_79 ?_
          refine lv_iload_n hx hb dX4_stay_80 rfl (lv_at hl 4 rfl) ?_
          refine lv_iload hx hb dX4_stay_81 (lv_at hl 0 rfl) ?_
          refine wk_imul hx hb dX4_stay_83 ?_
          refine wk_iadd hx hb dX4_stay_84 ?_
          have q29 := hw.1
          have hw := hw.2
          refine wk_min C0 hl.1 (cl_X4_81) ⟨by decide, by decide⟩ q29 (Nat.le_of_ble_eq_true rfl) (Nat.le_of_ble_eq_true rfl) dX4_stay_85 ?_
          have q30 := hw.1
          have hw := hw.2
          refine wk_max C0 hl.1 (cl_X4_87) ⟨by decide, by decide⟩ q30 (Nat.le_of_ble_eq_true rfl) (Nat.le_of_ble_eq_true rfl) dX4_stay_88 ?_
          refine wk_iast C0 hP hS (isN_lt2 hc0) (isN_sh hc0).2.2.2 q27.1 q27.2 (by decide) dX4_stay_91 (fun s31 H locs es31 hP hS => ?_)
          have hw := hw s31 es31
          exact kX92 x2_25 s31 _ _ _ hP hS (lv_sub hl [3, 4, 1, 5] rfl) hw
  obtain ⟨k32, hw⟩ := hw
  exact kI4 k32 0 0 sg _ _ _ hP hS (lv_sub hl [2, 3, 1, 0] rfl) hw

set_option maxRecDepth 100000 in
set_option maxHeartbeats 4000000 in
theorem ok_X4_passHour {l : Launch} {D : va_G} {cA : Nat → ClassId} {ad : Nat → Nat} (hI : wI ad) {c0 : Nat} (hc0 : isN c0) {a1 : Int} {sg : Mem} {Q : Mem → Prop} (hw : wp_X4_passHour c0 a1 sg Q) : wMv l D cA ad yX4_passHour cX4_passHour 2 none 4 [.ref (ad c0), .int (iI a1)] sg Q := by
  refine wk_ofV (by decide) hI (Nat.le_of_ble_eq_true rfl) ?_
  intro p e s m below meth c A QQ ls C0 hret hl hP
  have hx := C0.1
  have hb := C0.2.1
  have hown := C0.2.2.2.1
  have htb := C0.2.2.2.2.1
  have hl : lv_has ls 2 [(0, .ref (ad c0)), (1, .int (iI a1))] := hl
  refine (fun (key : ∀ (H : Heap) (locs : List Loc), wP D cA ad sg H → va_S (wA ad) s.heap H locs → W p l e (rmL 4) s m A below meth c H locs 0 0 QQ (F0 m 0 ls [])) => key _ _ hP va_S.rf) ?_
  intro H locs hP hS
  unfold wp_X4_passHour at hw
  refine lv_aload_n hx hb dX4_passHour_0 rfl (lv_at hl 0 rfl) ?_
  refine lv_iload_n hx hb dX4_passHour_1 rfl (lv_at hl 1 rfl) ?_
  refine wk_rv (wk_callV (rest := []) C0 cl_X4_58 (ok_X4_turn hI hc0 hw) hP (isN_lt hc0) (isN_sh hc0).2.1 rfl rfl rfl (Nat.le_of_ble_eq_true rfl) (wk_room (by decide) (by decide)) hl.1 dX4_passHour_2 ⟨Nat.le_refl _, Nat.le_refl _⟩) hS (fun s1 H locs hw hP hS => ?_)
  refine lv_aload_n hx hb dX4_passHour_5 rfl (lv_at hl 0 rfl) ?_
  refine lv_iconst (v := iI 1) hx hb dX4_passHour_6 rfl ?_
  refine wk_rv (wk_callV (rest := []) C0 cl_X4_62 (ok_X4_stay hI hc0 hw) hP (isN_lt hc0) (isN_sh hc0).2.1 rfl rfl rfl (Nat.le_of_ble_eq_true rfl) (wk_room (by decide) (by decide)) hl.1 dX4_passHour_7 ⟨Nat.le_refl _, Nat.le_refl _⟩) hS (fun s2 H locs hw hP hS => ?_)
  refine lv_aload_n hx hb dX4_passHour_10 rfl (lv_at hl 0 rfl) ?_
  refine lv_dup hx hb dX4_passHour_11 rfl ?_
  refine wk_getI C0 fl_X4_31 hP (isN_lt hc0) (isN_sh hc0).2.1 rfl dX4_passHour_12 ?_
  refine lv_iconst (v := iI 1) hx hb dX4_passHour_15 rfl ?_
  refine wk_iadd hx hb dX4_passHour_16 ?_
  refine wk_putI C0 fl_X4_31 rfl rfl hP hS (isN_lt hc0) (isN_sh hc0).2.1 rfl dX4_passHour_17 (fun s3 H locs es3 hP hS => ?_)
  have hw := hw s3 es3
  exact hret _ _ _ _ _ hw hP hS dX4_passHour_20

set_option maxRecDepth 100000 in
set_option maxHeartbeats 4000000 in
theorem ok_X4_awake {l : Launch} {D : va_G} {cA : Nat → ClassId} {ad : Nat → Nat} (hI : wI ad) {c0 : Nat} (hc0 : isN c0) {sg : Mem} {Q : Int → Prop} (hw : wp_X4_awake c0 sg Q) : wMi l D cA ad yX4_awake cX4_awake 4 (some .int) 1 [.ref (ad c0)] sg (fun z u => u = sg ∧ Q z) := by
  refine wk_ofI (by decide) hI (Nat.le_of_ble_eq_true rfl) ?_
  intro p e s m below meth c A QQ ls C0 hret hl hP
  have hx := C0.1
  have hb := C0.2.1
  have hown := C0.2.2.2.1
  have htb := C0.2.2.2.2.1
  have hl : lv_has ls 4 [(0, .ref (ad c0))] := hl
  refine (fun (key : ∀ (H : Heap) (locs : List Loc), wP D cA ad sg H → va_S (wA ad) s.heap H locs → W p l e (rmL 1) s m A below meth c H locs 0 0 QQ (F0 m 0 ls [])) => key _ _ hP va_S.rf) ?_
  intro H locs hP hS
  unfold wp_X4_awake at hw
  refine lv_iconst (v := iI 0) hx hb dX4_awake_0 rfl ?_
  refine lv_istore_n (lv' := [(1, .int (iI 0)), (0, .ref (ad c0))]) hx hb dX4_awake_1 rfl hl (by decide) rfl (fun ls hl => ?_)
  refine lv_iconst (v := iI 0) hx hb dX4_awake_2 rfl ?_
  refine lv_istore_n (lv' := [(2, .int (iI 0)), (1, .int (iI 0)), (0, .ref (ad c0))]) hx hb dX4_awake_3 rfl hl (by decide) rfl (fun ls hl => ?_)
  obtain ⟨I4, hI4, hw⟩ := hw
  have kI4 : ∀ (k4 : Nat) (y1_1 : Int) (y2_2 : Int) (H : Heap) (locs : List Loc) (ls : Array Slot), wP D cA ad sg H → va_S (wA ad) s.heap H locs → lv_has ls 4 [(0, .ref (ad c0)), (1, .int (iI y1_1)), (2, .int (iI y2_2))] → I4 k4 y1_1 y2_2 → W p l e (rmL 1) s m A below meth c H locs 0 0 QQ (F0 m 4 ls []) := by
    intro k4
    induction k4 using Nat.strongRecOn with
    | _ k4 ih4 =>
      intro y1_1 y2_2 H locs ls hP hS hl hw
      have hw := hI4 k4 y1_1 y2_2 hw
      refine lv_iload_n hx hb dX4_awake_4 rfl (lv_at hl 2 rfl) ?_
      refine lv_aload_n hx hb dX4_awake_5 rfl (lv_at hl 0 rfl) ?_
      refine wk_getR 1 C0 fl_X4_18 hP (isN_lt hc0) (isN_sh hc0).2.1 rfl dX4_awake_6 ?_
      refine wk_getI C0 fl_X4_44 hP (by decide) sh_1 rfl dX4_awake_9 ?_
      have q3 := hw.1
      have hw := hw.2
      have q4 := hw.1
      have hw := hw.2
      refine wk_icmp_ge hx hb q3 q4 (tgt := 57) dX4_awake_12 (by decide) (fun hh => ?_) (fun hh => ?_)
      · have hw := hw.1 hh
        refine lv_iload_n hx hb dX4_awake_57 rfl (lv_at hl 1 rfl) ?_
        exact hret _ _ _ _ _ _ ⟨rfl, hw⟩ hP hS dX4_awake_58
      · have hw := hw.2 hh
        refine lv_aload_n hx hb dX4_awake_15 rfl (lv_at hl 0 rfl) ?_
        refine wk_getR (c0 + 1) C0 fl_X4_9 hP (isN_lt hc0) (isN_sh hc0).2.1 rfl dX4_awake_16 ?_
        refine lv_iload_n hx hb dX4_awake_19 rfl (lv_at hl 2 rfl) ?_
        have q5 := hw.1
        have hw := hw.2
        refine wk_iald C0 hP (isN_lt1 hc0) (isN_sh hc0).2.2.1 q5.1 q5.2 (by decide) dX4_awake_20 ?_
        refine wk_top (fun x3_6 ex3_6 => ?_)
        have hw := hw x3_6 ex3_6
        refine lv_istore_n (lv' := [(3, .int (iI x3_6)), (0, .ref (ad c0)), (1, .int (iI y1_1)), (2, .int (iI y2_2))]) hx hb dX4_awake_21 rfl hl (by decide) rfl (fun ls hl => ?_)
        refine lv_iload_n hx hb dX4_awake_22 rfl (lv_at hl 0 rfl) ?_
        refine lv_iconst (v := iI (-1)) hx hb dX4_awake_23 rfl ?_
        have q7 := hw.1
        have hw := hw.2
        have hs := hw.1
        have hw := hw.2
        have kX51 : ∀ y1_11 : Int, y1_11 = (if x3_6 = (-1) then y1_1 else if sg 6 x3_6.toNat < sg (c0 + 2) x3_6.toNat then y1_1 else zor y1_1 (zshl 1 x3_6)) → ∀ (ls : Array Slot), lv_has ls 4 [(0, .ref (ad c0)), (1, .int (iI y1_11)), (2, .int (iI y2_2))] → W p l e (rmL 1) s m A below meth c H locs 0 0 QQ (F0 m 51 ls []) := by
          intro y1_11 ey1_11 ls hl
          have hw := hw y1_11 ey1_11
          refine wk_iinc (lv' := fun x2_12 => [(2, .int (iI x2_12)), (0, .ref (ad c0)), (1, .int (iI y1_11))]) hx hb dX4_awake_51 hl (k := 2) rfl (by decide) (fun _ => rfl) (fun x2_12 ls ex2_12 hl => ?_)
          have hw := hw x2_12 ex2_12
          refine lv_goto (tgt := 4) hx hb dX4_awake_54 (by decide) ?_
          obtain ⟨k13, hk13, hw⟩ := hw
          exact ih4 k13 hk13 y1_11 x2_12 _ _ _ hP hS (lv_sub hl [1, 2, 0] rfl) hw
        refine wk_icmp_eq hx hb q7 ⟨by decide, by decide⟩ (tgt := 51) dX4_awake_24 (by decide) (fun hh14 => ?_) (fun hh14 => ?_)
        · exact kX51 y1_1 (by rw [if_pos hh14]) ls (lv_sub hl [1, 2, 3] rfl)
        · have hs := hs.2 hh14
          refine lv_aload_n hx hb dX4_awake_27 rfl (lv_at hl 1 rfl) ?_
          refine wk_getR (c0 + 2) C0 fl_X4_15 hP (isN_lt hc0) (isN_sh hc0).2.1 rfl dX4_awake_28 ?_
          refine lv_iload_n hx hb dX4_awake_31 rfl (lv_at hl 0 rfl) ?_
          have q8 := hs.1
          have hs := hs.2
          refine wk_iald C0 hP (isN_lt2 hc0) (isN_sh hc0).2.2.2 q8.1 q8.2 (by decide) dX4_awake_32 ?_
          refine lv_aload_n hx hb dX4_awake_33 rfl (lv_at hl 1 rfl) ?_
          refine wk_getR 1 C0 fl_X4_18 hP (isN_lt hc0) (isN_sh hc0).2.1 rfl dX4_awake_34 ?_
          refine wk_getR 6 C0 fl_X4_51 hP (by decide) sh_1 rfl dX4_awake_37 ?_
          refine lv_iload_n hx hb dX4_awake_40 rfl (lv_at hl 0 rfl) ?_
          refine wk_iald C0 hP (by decide) sh_6 q8.1 q8.2 (by decide) dX4_awake_41 ?_
          have q9 := hs.1
          have hs := hs.2
          have q10 := hs
          refine wk_icmp_gt hx hb q9 q10 (tgt := 51) dX4_awake_42 (by decide) (fun hh15 => ?_) (fun hh15 => ?_)
          · exact kX51 y1_1 (by rw [if_neg hh14, if_pos hh15]) ls (lv_sub hl [1, 2, 3] rfl)
          · refine lv_iload_n hx hb dX4_awake_45 rfl (lv_at hl 2 rfl) ?_
            refine lv_iconst (v := iI 1) hx hb dX4_awake_46 rfl ?_
            refine lv_iload_n hx hb dX4_awake_47 rfl (lv_at hl 0 rfl) ?_
            refine wk_ishl hx hb dX4_awake_48 ?_
            refine wk_ior hx hb dX4_awake_49 ?_
            refine lv_istore_n (lv' := [(1, .int (iI (zor y1_1 (zshl 1 x3_6)))), (3, .int (iI x3_6)), (0, .ref (ad c0)), (2, .int (iI y2_2))]) hx hb dX4_awake_50 rfl hl (by decide) rfl (fun ls hl => ?_)
            exact kX51 (zor y1_1 (zshl 1 x3_6)) (by rw [if_neg hh14, if_neg hh15]) ls (lv_sub hl [2, 0, 3] rfl)
  obtain ⟨k16, hw⟩ := hw
  exact kI4 k16 0 0 _ _ _ hP hS (lv_sub hl [2, 1, 0] rfl) hw

set_option maxRecDepth 100000 in
set_option maxHeartbeats 4000000 in
theorem ok_X1_sayTo {l : Launch} {D : va_G} {cA : Nat → ClassId} {ad : Nat → Nat} (hI : wI ad) {c1 : Nat} (hc1 : isN c1) {sg : Mem} {Q : Int → Mem → Prop} (hw : wp_X1_sayTo c1 sg Q) : wMi l D cA ad yX1_sayTo cX1_sayTo 4 (some .int) 5 [.ref (ad 63), .ref (ad c1)] sg Q := by
  refine wk_ofI (by decide) hI (Nat.le_of_ble_eq_true rfl) ?_
  intro p e s m below meth c A QQ ls C0 hret hl hP
  have hx := C0.1
  have hb := C0.2.1
  have hown := C0.2.2.2.1
  have htb := C0.2.2.2.2.1
  have hl : lv_has ls 4 [(0, .ref (ad 63)), (1, .ref (ad c1))] := hl
  refine (fun (key : ∀ (H : Heap) (locs : List Loc), wP D cA ad sg H → va_S (wA ad) s.heap H locs → W p l e (rmL 5) s m A below meth c H locs 0 0 QQ (F0 m 0 ls [])) => key _ _ hP va_S.rf) ?_
  intro H locs hP hS
  unfold wp_X1_sayTo at hw
  refine lv_iconst (v := iI (-1)) hx hb dX1_sayTo_0 rfl ?_
  refine lv_istore_n (lv' := [(2, .int (iI (-1))), (0, .ref (ad 63)), (1, .ref (ad c1))]) hx hb dX1_sayTo_1 rfl hl (by decide) rfl (fun ls hl => ?_)
  refine lv_iconst (v := iI 0) hx hb dX1_sayTo_2 rfl ?_
  refine lv_istore_n (lv' := [(3, .int (iI 0)), (2, .int (iI (-1))), (0, .ref (ad 63)), (1, .ref (ad c1))]) hx hb dX1_sayTo_3 rfl hl (by decide) rfl (fun ls hl => ?_)
  obtain ⟨I4, hI4, hw⟩ := hw
  have kI4 : ∀ (k4 : Nat) (y2_1 : Int) (y3_2 : Int) (s3 : Mem) (H : Heap) (locs : List Loc) (ls : Array Slot), wP D cA ad s3 H → va_S (wA ad) s.heap H locs → lv_has ls 4 [(0, .ref (ad 63)), (1, .ref (ad c1)), (2, .int (iI y2_1)), (3, .int (iI y3_2))] → I4 k4 y2_1 y3_2 s3 → W p l e (rmL 5) s m A below meth c H locs 0 0 QQ (F0 m 4 ls []) := by
    intro k4
    induction k4 using Nat.strongRecOn with
    | _ k4 ih4 =>
      intro y2_1 y3_2 s3 H locs ls hP hS hl hw
      have hw := hI4 k4 y2_1 y3_2 s3 hw
      refine lv_iload_n hx hb dX1_sayTo_4 rfl (lv_at hl 3 rfl) ?_
      refine lv_aload_n hx hb dX1_sayTo_5 rfl (lv_at hl 0 rfl) ?_
      refine wk_getI C0 fl_X1_15 hP (by decide) sh_63 rfl dX1_sayTo_6 ?_
      have q4 := hw.1
      have hw := hw.2
      have q5 := hw.1
      have hw := hw.2
      refine wk_icmp_ge hx hb q4 q5 (tgt := 42) dX1_sayTo_9 (by decide) (fun hh => ?_) (fun hh => ?_)
      · have hw := hw.1 hh
        refine lv_iload_n hx hb dX1_sayTo_42 rfl (lv_at hl 2 rfl) ?_
        exact hret _ _ _ _ _ _ hw hP hS dX1_sayTo_43
      · have hw := hw.2 hh
        refine lv_aload_n hx hb dX1_sayTo_12 rfl (lv_at hl 1 rfl) ?_
        refine lv_aload_n hx hb dX1_sayTo_13 rfl (lv_at hl 0 rfl) ?_
        refine wk_getR 64 C0 fl_X1_9 hP (by decide) sh_63 rfl dX1_sayTo_14 ?_
        refine lv_iload_n hx hb dX1_sayTo_17 rfl (lv_at hl 3 rfl) ?_
        have q6 := hw.1
        have hw := hw.2
        refine wk_iald C0 hP (by decide) sh_64 q6.1 q6.2 (by decide) dX1_sayTo_18 ?_
        refine wk_rv (wk_callV (rest := []) C0 cl_X1_19 (ok_X4_passHour hI hc1 hw) hP (isN_lt hc1) (isN_sh hc1).2.1 rfl rfl rfl (Nat.le_of_ble_eq_true rfl) (wk_room (by decide) (by decide)) hl.1 dX1_sayTo_19 ⟨Nat.le_refl _, Nat.le_refl _⟩) hS (fun s7 H locs hw hP hS => ?_)
        refine lv_iload_n hx hb dX1_sayTo_22 rfl (lv_at hl 2 rfl) ?_
        refine lv_iconst (v := iI (-1)) hx hb dX1_sayTo_23 rfl ?_
        have q8 := hw.1
        have hw := hw.2
        obtain ⟨X36, hX36, hw⟩ := hw
        have kX36 : ∀ (y2_9 : Int) (H : Heap) (locs : List Loc) (ls : Array Slot), wP D cA ad s7 H → va_S (wA ad) s.heap H locs → lv_has ls 4 [(0, .ref (ad 63)), (1, .ref (ad c1)), (2, .int (iI y2_9)), (3, .int (iI y3_2))] → X36 y2_9 → W p l e (rmL 5) s m A below meth c H locs 0 0 QQ (F0 m 36 ls []) := by
          intro y2_9 H locs ls hP hS hl hw
          have hw := hX36 y2_9 hw
          refine wk_iinc (lv' := fun x3_10 => [(3, .int (iI x3_10)), (0, .ref (ad 63)), (1, .ref (ad c1)), (2, .int (iI y2_9))]) hx hb dX1_sayTo_36 hl (k := 3) rfl (by decide) (fun _ => rfl) (fun x3_10 ls ex3_10 hl => ?_)
          have hw := hw x3_10 ex3_10
          refine lv_goto (tgt := 4) hx hb dX1_sayTo_39 (by decide) ?_
          obtain ⟨k11, hk11, hw⟩ := hw
          exact ih4 k11 hk11 y2_9 x3_10 s7 _ _ _ hP hS (lv_sub hl [1, 2, 3, 0] rfl) hw
        refine wk_icmp_ne hx hb q8 ⟨by decide, by decide⟩ (tgt := 36) dX1_sayTo_24 (by decide) (fun hh => ?_) (fun hh => ?_)
        · have hw := hw.2 hh
          exact kX36 y2_1 _ _ _ hP hS (lv_sub hl [0, 1, 2, 3] rfl) hw
        · have hw := hw.1 hh
          refine lv_aload_n hx hb dX1_sayTo_27 rfl (lv_at hl 1 rfl) ?_
          refine wk_rip (wk_callV (rest := []) C0 cl_X1_25 (ok_X4_awake hI hc1 hw) hP (isN_lt hc1) (isN_sh hc1).2.1 rfl rfl rfl (Nat.le_of_ble_eq_true rfl) (wk_room (by decide) (by decide)) hl.1 dX1_sayTo_28 ⟨Nat.le_refl _, Nat.le_refl _⟩) hS (fun r12 H locs hw hP hS => ?_)
          have q13 := hw.1
          have hw := hw.2
          refine wk_if_eq hx hb q13 (tgt := 36) dX1_sayTo_31 (by decide) (fun hh => ?_) (fun hh => ?_)
          · have hw := hw.1 hh
            exact kX36 y2_1 _ _ _ hP hS (lv_sub hl [0, 1, 2, 3] rfl) hw
          · have hw := hw.2 hh
            refine lv_iload_n hx hb dX1_sayTo_34 rfl (lv_at hl 3 rfl) ?_
            refine lv_istore_n (lv' := [(2, .int (iI y3_2)), (0, .ref (ad 63)), (1, .ref (ad c1)), (3, .int (iI y3_2))]) hx hb dX1_sayTo_35 rfl hl (by decide) rfl (fun ls hl => ?_)
            exact kX36 y3_2 _ _ _ hP hS (lv_sub hl [1, 2, 0, 3] rfl) hw
  obtain ⟨k14, hw⟩ := hw
  exact kI4 k14 (-1) 0 sg _ _ _ hP hS (lv_sub hl [2, 3, 1, 0] rfl) hw

set_option maxRecDepth 100000 in
set_option maxHeartbeats 4000000 in
theorem ok_X4_code {l : Launch} {D : va_G} {cA : Nat → ClassId} {ad : Nat → Nat} (hI : wI ad) {c0 : Nat} (hc0 : isN c0) {sg : Mem} {Q : Int → Prop} (hw : wp_X4_code c0 sg Q) : wMl l D cA ad yX4_code cX4_code 4 (some .long) 1 [.ref (ad c0)] sg (fun z u => u = sg ∧ Q z) := by
  refine wk_ofL (by decide) hI (Nat.le_of_ble_eq_true rfl) ?_
  intro p e s m below meth c A QQ ls C0 hret hl hP
  have hx := C0.1
  have hb := C0.2.1
  have hown := C0.2.2.2.1
  have htb := C0.2.2.2.2.1
  have hl : lv_has ls 4 [(0, .ref (ad c0))] := hl
  refine (fun (key : ∀ (H : Heap) (locs : List Loc), wP D cA ad sg H → va_S (wA ad) s.heap H locs → W p l e (rmL 1) s m A below meth c H locs 0 0 QQ (F0 m 0 ls [])) => key _ _ hP va_S.rf) ?_
  intro H locs hP hS
  unfold wp_X4_code at hw
  refine lv_lconst (v := iL 0) hx hb dX4_code_0 rfl ?_
  refine lv_lstore_n (lv' := [(1, .long (iL 0)), (0, .ref (ad c0))]) hx hb dX4_code_1 rfl hl (by decide) rfl (fun ls hl => ?_)
  refine lv_iconst (v := iI 0) hx hb dX4_code_2 rfl ?_
  refine lv_istore_n (lv' := [(3, .int (iI 0)), (1, .long (iL 0)), (0, .ref (ad c0))]) hx hb dX4_code_3 rfl hl (by decide) rfl (fun ls hl => ?_)
  obtain ⟨I4, hI4, hw⟩ := hw
  have kI4 : ∀ (k4 : Nat) (y1_1 : Int) (y3_2 : Int) (H : Heap) (locs : List Loc) (ls : Array Slot), wP D cA ad sg H → va_S (wA ad) s.heap H locs → lv_has ls 4 [(0, .ref (ad c0)), (1, .long (iL y1_1)), (3, .int (iI y3_2))] → I4 k4 y1_1 y3_2 → W p l e (rmL 1) s m A below meth c H locs 0 0 QQ (F0 m 4 ls []) := by
    intro k4
    induction k4 using Nat.strongRecOn with
    | _ k4 ih4 =>
      intro y1_1 y3_2 H locs ls hP hS hl hw
      have hw := hI4 k4 y1_1 y3_2 hw
      refine lv_iload_n hx hb dX4_code_4 rfl (lv_at hl 2 rfl) ?_
      refine lv_bipush (v := iI 6) hx hb dX4_code_5 (by decide +kernel) ?_
      have q3 := hw.1
      have hw := hw.2
      refine wk_icmp_ge hx hb q3 ⟨by decide, by decide⟩ (tgt := 40) dX4_code_7 (by decide) (fun hh => ?_) (fun hh => ?_)
      · have hw := hw.1 hh
        refine lv_lload_n hx hb dX4_code_40 rfl (lv_at hl 1 rfl) ?_
        exact hret _ _ _ _ _ _ ⟨rfl, hw⟩ hP hS dX4_code_41
      · have hw := hw.2 hh
        refine lv_lload_n hx hb dX4_code_10 rfl (lv_at hl 1 rfl) ?_
        refine lv_bipush (v := iI 10) hx hb dX4_code_11 (by decide +kernel) ?_
        refine wk_lshl hx hb dX4_code_13 ?_
        refine lv_aload_n hx hb dX4_code_14 rfl (lv_at hl 0 rfl) ?_
        refine wk_getR (c0 + 2) C0 fl_X4_15 hP (isN_lt hc0) (isN_sh hc0).2.1 rfl dX4_code_15 ?_
        refine lv_iload_n hx hb dX4_code_18 rfl (lv_at hl 2 rfl) ?_
        have q4 := hw.1
        have hw := hw.2
        refine wk_iald C0 hP (isN_lt2 hc0) (isN_sh hc0).2.2.2 q4.1 q4.2 (by decide) dX4_code_19 ?_
        refine lv_iconst (v := iI 3) hx hb dX4_code_20 rfl ?_
        refine wk_ishl hx hb dX4_code_21 ?_
        refine lv_aload_n hx hb dX4_code_22 rfl (lv_at hl 0 rfl) ?_
        refine wk_getR (c0 + 1) C0 fl_X4_9 hP (isN_lt hc0) (isN_sh hc0).2.1 rfl dX4_code_23 ?_
        refine lv_iload_n hx hb dX4_code_26 rfl (lv_at hl 2 rfl) ?_
        refine wk_iald C0 hP (isN_lt1 hc0) (isN_sh hc0).2.2.1 q4.1 q4.2 (by decide) dX4_code_27 ?_
        refine lv_iconst (v := iI 1) hx hb dX4_code_28 rfl ?_
        refine wk_iadd hx hb dX4_code_29 ?_
        refine wk_ior hx hb dX4_code_30 ?_
        have q5 := hw.1
        have hw := hw.2
        refine wk_i2l hx hb q5 dX4_code_31 ?_
        refine wk_lor hx hb dX4_code_32 ?_
        refine wk_topl (fun x1_6 ex1_6 => ?_)
        have hw := hw x1_6 ex1_6
        refine lv_lstore_n (lv' := [(1, .long (iL x1_6)), (0, .ref (ad c0)), (3, .int (iI y3_2))]) hx hb dX4_code_33 rfl hl (by decide) rfl (fun ls hl => ?_)
        refine wk_iinc (lv' := fun x3_7 => [(3, .int (iI x3_7)), (1, .long (iL x1_6)), (0, .ref (ad c0))]) hx hb dX4_code_34 hl (k := 2) rfl (by decide) (fun _ => rfl) (fun x3_7 ls ex3_7 hl => ?_)
        have hw := hw x3_7 ex3_7
        refine lv_goto (tgt := 4) hx hb dX4_code_37 (by decide) ?_
        obtain ⟨k8, hk8, hw⟩ := hw
        exact ih4 k8 hk8 x1_6 x3_7 _ _ _ hP hS (lv_sub hl [2, 1, 0] rfl) hw
  obtain ⟨k9, hw⟩ := hw
  exact kI4 k9 0 0 _ _ _ hP hS (lv_sub hl [2, 1, 0] rfl) hw

set_option maxRecDepth 100000 in
set_option maxHeartbeats 4000000 in
theorem ok_X2_take {l : Launch} {D : va_G} {cA : Nat → ClassId} {ad : Nat → Nat} (hI : wI ad) {c0 : Nat} {c1 : Nat} (hc0 : isG c0) (hc1 : isN c1) {a2 : Int} {sg : Mem} {Q : Mem → Prop} (hw : wp_X2_take c0 c1 a2 sg Q) : wMv l D cA ad yX2_take cX2_take 3 none 2 [.ref (ad c0), .ref (ad c1), .int (iI a2)] sg Q := by
  refine wk_ofV (by decide) hI (Nat.le_of_ble_eq_true rfl) ?_
  intro p e s m below meth c A QQ ls C0 hret hl hP
  have hx := C0.1
  have hb := C0.2.1
  have hown := C0.2.2.2.1
  have htb := C0.2.2.2.2.1
  have hl : lv_has ls 3 [(0, .ref (ad c0)), (1, .ref (ad c1)), (2, .int (iI a2))] := hl
  refine (fun (key : ∀ (H : Heap) (locs : List Loc), wP D cA ad sg H → va_S (wA ad) s.heap H locs → W p l e (rmL 2) s m A below meth c H locs 0 0 QQ (F0 m 0 ls [])) => key _ _ hP va_S.rf) ?_
  intro H locs hP hS
  unfold wp_X2_take at hw
  refine lv_aload_n hx hb dX2_take_0 rfl (lv_at hl 0 rfl) ?_
  refine lv_iconst (v := iI 1) hx hb dX2_take_1 rfl ?_
  refine wk_putZ C0 fl_X2_7 rfl rfl (by decide) hP hS (isG_sh hc0).1 (isG_sh hc0).2 rfl dX2_take_2 (fun s1 H locs es1 hP hS => ?_)
  have hw := hw s1 es1
  refine lv_aload_n hx hb dX2_take_5 rfl (lv_at hl 0 rfl) ?_
  refine lv_aload_n hx hb dX2_take_6 rfl (lv_at hl 1 rfl) ?_
  refine wk_rlp (wk_callV (rest := [.ref (ad c0)]) C0 cl_X2_13 (ok_X4_code hI hc1 hw) hP (isN_lt hc1) (isN_sh hc1).2.1 rfl rfl rfl (Nat.le_of_ble_eq_true rfl) (wk_room (by decide) (by decide)) hl.1 dX2_take_7 ⟨Nat.le_refl _, Nat.le_refl _⟩) hS (fun r2 H locs hw hP hS => ?_)
  refine wk_putJ C0 fl_X2_19 rfl rfl hP hS (isG_sh hc0).1 (isG_sh hc0).2 rfl dX2_take_10 (fun s3 H locs es3 hP hS => ?_)
  have hw := hw s3 es3
  refine lv_aload_n hx hb dX2_take_13 rfl (lv_at hl 0 rfl) ?_
  refine lv_aload_n hx hb dX2_take_14 rfl (lv_at hl 1 rfl) ?_
  refine wk_getI C0 fl_X2_22 hP (isN_lt hc1) (isN_sh hc1).2.1 rfl dX2_take_15 ?_
  refine wk_putI C0 fl_X2_26 rfl rfl hP hS (isG_sh hc0).1 (isG_sh hc0).2 rfl dX2_take_18 (fun s4 H locs es4 hP hS => ?_)
  have hw := hw s4 es4
  refine lv_aload_n hx hb dX2_take_21 rfl (lv_at hl 0 rfl) ?_
  refine lv_iload_n hx hb dX2_take_22 rfl (lv_at hl 2 rfl) ?_
  refine wk_putI C0 fl_X2_27 rfl rfl hP hS (isG_sh hc0).1 (isG_sh hc0).2 rfl dX2_take_23 (fun s5 H locs es5 hP hS => ?_)
  have hw := hw s5 es5
  exact hret _ _ _ _ _ hw hP hS dX2_take_26

set_option maxRecDepth 100000 in
set_option maxHeartbeats 4000000 in
theorem ok_X4_inBed {l : Launch} {D : va_G} {cA : Nat → ClassId} {ad : Nat → Nat} (hI : wI ad) {c0 : Nat} (hc0 : isN c0) {sg : Mem} {Q : Int → Prop} (hw : wp_X4_inBed c0 sg Q) : wMi l D cA ad yX4_inBed cX4_inBed 3 (some .int) 1 [.ref (ad c0)] sg (fun z u => u = sg ∧ Q z) := by
  refine wk_ofI (by decide) hI (Nat.le_of_ble_eq_true rfl) ?_
  intro p e s m below meth c A QQ ls C0 hret hl hP
  have hx := C0.1
  have hb := C0.2.1
  have hown := C0.2.2.2.1
  have htb := C0.2.2.2.2.1
  have hl : lv_has ls 3 [(0, .ref (ad c0))] := hl
  refine (fun (key : ∀ (H : Heap) (locs : List Loc), wP D cA ad sg H → va_S (wA ad) s.heap H locs → W p l e (rmL 1) s m A below meth c H locs 0 0 QQ (F0 m 0 ls [])) => key _ _ hP va_S.rf) ?_
  intro H locs hP hS
  unfold wp_X4_inBed at hw
  refine lv_iconst (v := iI 0) hx hb dX4_inBed_0 rfl ?_
  refine lv_istore_n (lv' := [(1, .int (iI 0)), (0, .ref (ad c0))]) hx hb dX4_inBed_1 rfl hl (by decide) rfl (fun ls hl => ?_)
  refine lv_iconst (v := iI 0) hx hb dX4_inBed_2 rfl ?_
  refine lv_istore_n (lv' := [(2, .int (iI 0)), (1, .int (iI 0)), (0, .ref (ad c0))]) hx hb dX4_inBed_3 rfl hl (by decide) rfl (fun ls hl => ?_)
  obtain ⟨I4, hI4, hw⟩ := hw
  have kI4 : ∀ (k4 : Nat) (y1_1 : Int) (y2_2 : Int) (H : Heap) (locs : List Loc) (ls : Array Slot), wP D cA ad sg H → va_S (wA ad) s.heap H locs → lv_has ls 3 [(0, .ref (ad c0)), (1, .int (iI y1_1)), (2, .int (iI y2_2))] → I4 k4 y1_1 y2_2 → W p l e (rmL 1) s m A below meth c H locs 0 0 QQ (F0 m 4 ls []) := by
    intro k4
    induction k4 using Nat.strongRecOn with
    | _ k4 ih4 =>
      intro y1_1 y2_2 H locs ls hP hS hl hw
      have hw := hI4 k4 y1_1 y2_2 hw
      refine lv_iload_n hx hb dX4_inBed_4 rfl (lv_at hl 2 rfl) ?_
      refine lv_aload_n hx hb dX4_inBed_5 rfl (lv_at hl 0 rfl) ?_
      refine wk_getR 1 C0 fl_X4_18 hP (isN_lt hc0) (isN_sh hc0).2.1 rfl dX4_inBed_6 ?_
      refine wk_getI C0 fl_X4_44 hP (by decide) sh_1 rfl dX4_inBed_9 ?_
      have q3 := hw.1
      have hw := hw.2
      have q4 := hw.1
      have hw := hw.2
      refine wk_icmp_ge hx hb q3 q4 (tgt := 42) dX4_inBed_12 (by decide) (fun hh => ?_) (fun hh => ?_)
      · have hw := hw.1 hh
        refine lv_iload_n hx hb dX4_inBed_42 rfl (lv_at hl 1 rfl) ?_
        exact hret _ _ _ _ _ _ ⟨rfl, hw⟩ hP hS dX4_inBed_43
      · have hw := hw.2 hh
        refine lv_aload_n hx hb dX4_inBed_15 rfl (lv_at hl 0 rfl) ?_
        refine wk_getR (c0 + 1) C0 fl_X4_9 hP (isN_lt hc0) (isN_sh hc0).2.1 rfl dX4_inBed_16 ?_
        refine lv_iload_n hx hb dX4_inBed_19 rfl (lv_at hl 2 rfl) ?_
        have q5 := hw.1
        have hw := hw.2
        refine wk_iald C0 hP (isN_lt1 hc0) (isN_sh hc0).2.2.1 q5.1 q5.2 (by decide) dX4_inBed_20 ?_
        refine lv_iconst (v := iI (-1)) hx hb dX4_inBed_21 rfl ?_
        have q6 := hw.1
        have hw := hw.2
        have kX36 : ∀ y1_7 : Int, y1_7 = (if sg (c0 + 1) y2_2.toNat = (-1) then y1_1 else zor y1_1 (zshl 1 (sg (c0 + 1) y2_2.toNat))) → ∀ (ls : Array Slot), lv_has ls 3 [(0, .ref (ad c0)), (1, .int (iI y1_7)), (2, .int (iI y2_2))] → W p l e (rmL 1) s m A below meth c H locs 0 0 QQ (F0 m 36 ls []) := by
          intro y1_7 ey1_7 ls hl
          have hw := hw y1_7 ey1_7
          refine wk_iinc (lv' := fun x2_8 => [(2, .int (iI x2_8)), (0, .ref (ad c0)), (1, .int (iI y1_7))]) hx hb dX4_inBed_36 hl (k := 2) rfl (by decide) (fun _ => rfl) (fun x2_8 ls ex2_8 hl => ?_)
          have hw := hw x2_8 ex2_8
          refine lv_goto (tgt := 4) hx hb dX4_inBed_39 (by decide) ?_
          obtain ⟨k9, hk9, hw⟩ := hw
          exact ih4 k9 hk9 y1_7 x2_8 _ _ _ hP hS (lv_sub hl [1, 2, 0] rfl) hw
        refine wk_icmp_eq hx hb q6 ⟨by decide, by decide⟩ (tgt := 36) dX4_inBed_22 (by decide) (fun hh10 => ?_) (fun hh10 => ?_)
        · exact kX36 y1_1 (by rw [if_pos hh10]) ls (lv_sub hl [0, 1, 2] rfl)
        · refine lv_iload_n hx hb dX4_inBed_25 rfl (lv_at hl 1 rfl) ?_
          refine lv_iconst (v := iI 1) hx hb dX4_inBed_26 rfl ?_
          refine lv_aload_n hx hb dX4_inBed_27 rfl (lv_at hl 0 rfl) ?_
          refine wk_getR (c0 + 1) C0 fl_X4_9 hP (isN_lt hc0) (isN_sh hc0).2.1 rfl dX4_inBed_28 ?_
          refine lv_iload_n hx hb dX4_inBed_31 rfl (lv_at hl 2 rfl) ?_
          refine wk_iald C0 hP (isN_lt1 hc0) (isN_sh hc0).2.2.1 q5.1 q5.2 (by decide) dX4_inBed_32 ?_
          refine wk_ishl hx hb dX4_inBed_33 ?_
          refine wk_ior hx hb dX4_inBed_34 ?_
          refine lv_istore_n (lv' := [(1, .int (iI (zor y1_1 (zshl 1 (sg (c0 + 1) y2_2.toNat))))), (0, .ref (ad c0)), (2, .int (iI y2_2))]) hx hb dX4_inBed_35 rfl hl (by decide) rfl (fun ls hl => ?_)
          exact kX36 (zor y1_1 (zshl 1 (sg (c0 + 1) y2_2.toNat))) (by rw [if_neg hh10]) ls (lv_sub hl [1, 0, 2] rfl)
  obtain ⟨k11, hw⟩ := hw
  exact kI4 k11 0 0 _ _ _ hP hS (lv_sub hl [2, 1, 0] rfl) hw

set_option maxRecDepth 100000 in
set_option maxHeartbeats 4000000 in
theorem ok_X4_become {l : Launch} {D : va_G} {cA : Nat → ClassId} {ad : Nat → Nat} (hI : wI ad) {c0 : Nat} {c1 : Nat} (hc0 : isN c0) (hc1 : isN c1) {sg : Mem} {Q : Mem → Prop} (hw : wp_X4_become c0 c1 sg Q) : wMv l D cA ad yX4_become cX4_become 2 none 1 [.ref (ad c0), .ref (ad c1)] sg Q := by
  refine wk_ofV (by decide) hI (Nat.le_of_ble_eq_true rfl) ?_
  intro p e s m below meth c A QQ ls C0 hret hl hP
  have hx := C0.1
  have hb := C0.2.1
  have hown := C0.2.2.2.1
  have htb := C0.2.2.2.2.1
  have hl : lv_has ls 2 [(0, .ref (ad c0)), (1, .ref (ad c1))] := hl
  refine (fun (key : ∀ (H : Heap) (locs : List Loc), wP D cA ad sg H → va_S (wA ad) s.heap H locs → W p l e (rmL 1) s m A below meth c H locs 0 0 QQ (F0 m 0 ls [])) => key _ _ hP va_S.rf) ?_
  intro H locs hP hS
  unfold wp_X4_become at hw
  refine lv_aload_n hx hb dX4_become_0 rfl (lv_at hl 1 rfl) ?_
  refine wk_getR (c1 + 1) C0 fl_X4_9 hP (isN_lt hc1) (isN_sh hc1).2.1 rfl dX4_become_1 ?_
  refine lv_iconst (v := iI 0) hx hb dX4_become_4 rfl ?_
  refine lv_aload_n hx hb dX4_become_5 rfl (lv_at hl 0 rfl) ?_
  refine wk_getR (c0 + 1) C0 fl_X4_9 hP (isN_lt hc0) (isN_sh hc0).2.1 rfl dX4_become_6 ?_
  refine lv_iconst (v := iI 0) hx hb dX4_become_9 rfl ?_
  refine lv_bipush (v := iI 6) hx hb dX4_become_10 (by decide +kernel) ?_
  refine wk_copy C0 hl.1 ac_X4_34 ac_nat ac_st ini_J10 hP hS (isN_lt1 hc1) (isN_lt1 hc0) (isN_sh hc1).2.2.1 (isN_sh hc0).2.2.1 (by decide) (by decide) (by decide) (by decide) (Nat.le_of_ble_eq_true rfl) (Nat.le_of_ble_eq_true rfl) dX4_become_12 (fun s1 H locs es1 hP hS => ?_)
  have hw := hw s1 es1
  refine lv_aload_n hx hb dX4_become_15 rfl (lv_at hl 1 rfl) ?_
  refine wk_getR (c1 + 2) C0 fl_X4_15 hP (isN_lt hc1) (isN_sh hc1).2.1 rfl dX4_become_16 ?_
  refine lv_iconst (v := iI 0) hx hb dX4_become_19 rfl ?_
  refine lv_aload_n hx hb dX4_become_20 rfl (lv_at hl 0 rfl) ?_
  refine wk_getR (c0 + 2) C0 fl_X4_15 hP (isN_lt hc0) (isN_sh hc0).2.1 rfl dX4_become_21 ?_
  refine lv_iconst (v := iI 0) hx hb dX4_become_24 rfl ?_
  refine lv_bipush (v := iI 6) hx hb dX4_become_25 (by decide +kernel) ?_
  refine wk_copy C0 hl.1 ac_X4_34 ac_nat ac_st ini_J10 hP hS (isN_lt2 hc1) (isN_lt2 hc0) (isN_sh hc1).2.2.2 (isN_sh hc0).2.2.2 (by decide) (by decide) (by decide) (by decide) (Nat.le_of_ble_eq_true rfl) (Nat.le_of_ble_eq_true rfl) dX4_become_27 (fun s2 H locs es2 hP hS => ?_)
  have hw := hw s2 es2
  refine lv_aload_n hx hb dX4_become_30 rfl (lv_at hl 0 rfl) ?_
  refine lv_aload_n hx hb dX4_become_31 rfl (lv_at hl 1 rfl) ?_
  refine wk_getI C0 fl_X4_31 hP (isN_lt hc1) (isN_sh hc1).2.1 rfl dX4_become_32 ?_
  refine wk_putI C0 fl_X4_31 rfl rfl hP hS (isN_lt hc0) (isN_sh hc0).2.1 rfl dX4_become_35 (fun s3 H locs es3 hP hS => ?_)
  have hw := hw s3 es3
  exact hret _ _ _ _ _ hw hP hS dX4_become_38

set_option maxRecDepth 100000 in
set_option maxHeartbeats 4000000 in
theorem ok_X4_coldest {l : Launch} {D : va_G} {cA : Nat → ClassId} {ad : Nat → Nat} (hI : wI ad) {c0 : Nat} (hc0 : isN c0) {sg : Mem} {Q : Int → Prop} (hw : wp_X4_coldest c0 sg Q) : wMi l D cA ad yX4_coldest cX4_coldest 5 (some .int) 1 [.ref (ad c0)] sg (fun z u => u = sg ∧ Q z) := by
  refine wk_ofI (by decide) hI (Nat.le_of_ble_eq_true rfl) ?_
  intro p e s m below meth c A QQ ls C0 hret hl hP
  have hx := C0.1
  have hb := C0.2.1
  have hown := C0.2.2.2.1
  have htb := C0.2.2.2.2.1
  have hl : lv_has ls 5 [(0, .ref (ad c0))] := hl
  refine (fun (key : ∀ (H : Heap) (locs : List Loc), wP D cA ad sg H → va_S (wA ad) s.heap H locs → W p l e (rmL 1) s m A below meth c H locs 0 0 QQ (F0 m 0 ls [])) => key _ _ hP va_S.rf) ?_
  intro H locs hP hS
  unfold wp_X4_coldest at hw
  refine lv_iconst (v := iI (-1)) hx hb dX4_coldest_0 rfl ?_
  refine lv_istore_n (lv' := [(1, .int (iI (-1))), (0, .ref (ad c0))]) hx hb dX4_coldest_1 rfl hl (by decide) rfl (fun ls hl => ?_)
  refine lv_iconst (v := iI 0) hx hb dX4_coldest_2 rfl ?_
  refine lv_istore_n (lv' := [(2, .int (iI 0)), (1, .int (iI (-1))), (0, .ref (ad c0))]) hx hb dX4_coldest_3 rfl hl (by decide) rfl (fun ls hl => ?_)
  obtain ⟨I4, hI4, hw⟩ := hw
  have kI4 : ∀ (k4 : Nat) (y1_1 : Int) (y2_2 : Int) (H : Heap) (locs : List Loc) (ls : Array Slot), wP D cA ad sg H → va_S (wA ad) s.heap H locs → lv_has ls 5 [(0, .ref (ad c0)), (1, .int (iI y1_1)), (2, .int (iI y2_2))] → I4 k4 y1_1 y2_2 → W p l e (rmL 1) s m A below meth c H locs 0 0 QQ (F0 m 4 ls []) := by
    intro k4
    induction k4 using Nat.strongRecOn with
    | _ k4 ih4 =>
      intro y1_1 y2_2 H locs ls hP hS hl hw
      have hw := hI4 k4 y1_1 y2_2 hw
      refine lv_iload_n hx hb dX4_coldest_4 rfl (lv_at hl 2 rfl) ?_
      refine lv_aload_n hx hb dX4_coldest_5 rfl (lv_at hl 0 rfl) ?_
      refine wk_getR 1 C0 fl_X4_18 hP (isN_lt hc0) (isN_sh hc0).2.1 rfl dX4_coldest_6 ?_
      refine wk_getI C0 fl_X4_44 hP (by decide) sh_1 rfl dX4_coldest_9 ?_
      have q3 := hw.1
      have hw := hw.2
      have q4 := hw.1
      have hw := hw.2
      refine wk_icmp_ge hx hb q3 q4 (tgt := 72) dX4_coldest_12 (by decide) (fun hh => ?_) (fun hh => ?_)
      · have hw := hw.1 hh
        refine lv_iload_n hx hb dX4_coldest_72 rfl (lv_at hl 1 rfl) ?_
        exact hret _ _ _ _ _ _ ⟨rfl, hw⟩ hP hS dX4_coldest_73
      · have hw := hw.2 hh
        refine lv_aload_n hx hb dX4_coldest_15 rfl (lv_at hl 0 rfl) ?_
        refine wk_getR (c0 + 1) C0 fl_X4_9 hP (isN_lt hc0) (isN_sh hc0).2.1 rfl dX4_coldest_16 ?_
        refine lv_iload_n hx hb dX4_coldest_19 rfl (lv_at hl 2 rfl) ?_
        have q5 := hw.1
        have hw := hw.2
        refine wk_iald C0 hP (isN_lt1 hc0) (isN_sh hc0).2.2.1 q5.1 q5.2 (by decide) dX4_coldest_20 ?_
        refine wk_top (fun x3_6 ex3_6 => ?_)
        have hw := hw x3_6 ex3_6
        refine lv_istore_n (lv' := [(3, .int (iI x3_6)), (0, .ref (ad c0)), (1, .int (iI y1_1)), (2, .int (iI y2_2))]) hx hb dX4_coldest_21 rfl hl (by decide) rfl (fun ls hl => ?_)
        refine lv_iload_n hx hb dX4_coldest_22 rfl (lv_at hl 0 rfl) ?_
        refine lv_iconst (v := iI (-1)) hx hb dX4_coldest_23 rfl ?_
        have q7 := hw.1
        have hw := hw.2
        have hs := hw.1
        have hw := hw.2
        have kX66 : ∀ y1_11 : Int, y1_11 = (if x3_6 = (-1) then y1_1 else if y1_1 = (-1) then (100 + (sg (c0 + 2) x3_6.toNat)) - (sg 6 x3_6.toNat) else if y1_1 ≤ (100 + (sg (c0 + 2) x3_6.toNat)) - (sg 6 x3_6.toNat) then y1_1 else (100 + (sg (c0 + 2) x3_6.toNat)) - (sg 6 x3_6.toNat)) → ∀ (ls : Array Slot), lv_has ls 5 [(0, .ref (ad c0)), (1, .int (iI y1_11)), (2, .int (iI y2_2))] → W p l e (rmL 1) s m A below meth c H locs 0 0 QQ (F0 m 66 ls []) := by
          intro y1_11 ey1_11 ls hl
          have hw := hw y1_11 ey1_11
          refine wk_iinc (lv' := fun x2_12 => [(2, .int (iI x2_12)), (0, .ref (ad c0)), (1, .int (iI y1_11))]) hx hb dX4_coldest_66 hl (k := 2) rfl (by decide) (fun _ => rfl) (fun x2_12 ls ex2_12 hl => ?_)
          have hw := hw x2_12 ex2_12
          refine lv_goto (tgt := 4) hx hb dX4_coldest_69 (by decide) ?_
          obtain ⟨k13, hk13, hw⟩ := hw
          exact ih4 k13 hk13 y1_11 x2_12 _ _ _ hP hS (lv_sub hl [1, 2, 0] rfl) hw
        refine wk_icmp_eq hx hb q7 ⟨by decide, by decide⟩ (tgt := 66) dX4_coldest_24 (by decide) (fun hh14 => ?_) (fun hh14 => ?_)
        · exact kX66 y1_1 (by rw [if_pos hh14]) ls (lv_sub hl [1, 2, 3] rfl)
        · have hs := hs.2 hh14
          refine lv_bipush (v := iI 100) hx hb dX4_coldest_27 (by decide +kernel) ?_
          refine lv_aload_n hx hb dX4_coldest_29 rfl (lv_at hl 1 rfl) ?_
          refine wk_getR (c0 + 2) C0 fl_X4_15 hP (isN_lt hc0) (isN_sh hc0).2.1 rfl dX4_coldest_30 ?_
          refine lv_iload_n hx hb dX4_coldest_33 rfl (lv_at hl 0 rfl) ?_
          have q8 := hs.1
          have hs := hs.2
          refine wk_iald C0 hP (isN_lt2 hc0) (isN_sh hc0).2.2.2 q8.1 q8.2 (by decide) dX4_coldest_34 ?_
          refine wk_iadd hx hb dX4_coldest_35 ?_
          refine lv_aload_n hx hb dX4_coldest_36 rfl (lv_at hl 1 rfl) ?_
          refine wk_getR 1 C0 fl_X4_18 hP (isN_lt hc0) (isN_sh hc0).2.1 rfl dX4_coldest_37 ?_
          refine wk_getR 6 C0 fl_X4_51 hP (by decide) sh_1 rfl dX4_coldest_40 ?_
          refine lv_iload_n hx hb dX4_coldest_43 rfl (lv_at hl 0 rfl) ?_
          refine wk_iald C0 hP (by decide) sh_6 q8.1 q8.2 (by decide) dX4_coldest_44 ?_
          refine wk_isub hx hb dX4_coldest_45 ?_
          refine lv_istore (lv' := [(4, .int (iI ((100 + (sg (c0 + 2) x3_6.toNat)) - (sg 6 x3_6.toNat)))), (3, .int (iI x3_6)), (0, .ref (ad c0)), (1, .int (iI y1_1)), (2, .int (iI y2_2))]) hx hb dX4_coldest_46 hl (by decide) rfl (fun ls hl => ?_)
          refine lv_iload_n hx hb dX4_coldest_48 rfl (lv_at hl 3 rfl) ?_
          refine lv_iconst (v := iI (-1)) hx hb dX4_coldest_49 rfl ?_
          have q9 := hs.1
          have hs := hs.2
          refine wk_icmp_eq hx hb q9 ⟨by decide, by decide⟩ (tgt := 59) dX4_coldest_50 (by decide) (fun hh15 => ?_) (fun hh15 => ?_)
          · refine lv_iload hx hb dX4_coldest_59 (lv_at hl 0 rfl) ?_
            refine lv_goto (tgt := 65) hx hb dX4_coldest_61 (by decide) ?_
            refine lv_istore_n (lv' := [(1, .int (iI ((100 + (sg (c0 + 2) x3_6.toNat)) - (sg 6 x3_6.toNat)))), (4, .int (iI ((100 + (sg (c0 + 2) x3_6.toNat)) - (sg 6 x3_6.toNat)))), (3, .int (iI x3_6)), (0, .ref (ad c0)), (2, .int (iI y2_2))]) hx hb dX4_coldest_65 rfl hl (by decide) rfl (fun ls hl => ?_)
            exact kX66 ((100 + (sg (c0 + 2) x3_6.toNat)) - (sg 6 x3_6.toNat)) (by rw [if_neg hh14, if_pos hh15]) ls (lv_sub hl [3, 0, 4] rfl)
          · have hs := hs.2 hh15
            refine lv_iload hx hb dX4_coldest_53 (lv_at hl 0 rfl) ?_
            refine lv_iload_n hx hb dX4_coldest_55 rfl (lv_at hl 3 rfl) ?_
            have q10 := hs
            refine wk_icmp_ge hx hb q10 q9 (tgt := 64) dX4_coldest_56 (by decide) (fun hh16 => ?_) (fun hh16 => ?_)
            · refine lv_iload_n hx hb dX4_coldest_64 rfl (lv_at hl 3 rfl) ?_
              refine lv_istore_n (lv' := [(1, .int (iI y1_1)), (4, .int (iI ((100 + (sg (c0 + 2) x3_6.toNat)) - (sg 6 x3_6.toNat)))), (3, .int (iI x3_6)), (0, .ref (ad c0)), (2, .int (iI y2_2))]) hx hb dX4_coldest_65 rfl hl (by decide) rfl (fun ls hl => ?_)
              exact kX66 y1_1 (by rw [if_neg hh14, if_neg hh15, if_pos hh16]) ls (lv_sub hl [3, 0, 4] rfl)
            · refine lv_iload hx hb dX4_coldest_59 (lv_at hl 0 rfl) ?_
              refine lv_goto (tgt := 65) hx hb dX4_coldest_61 (by decide) ?_
              refine lv_istore_n (lv' := [(1, .int (iI ((100 + (sg (c0 + 2) x3_6.toNat)) - (sg 6 x3_6.toNat)))), (4, .int (iI ((100 + (sg (c0 + 2) x3_6.toNat)) - (sg 6 x3_6.toNat)))), (3, .int (iI x3_6)), (0, .ref (ad c0)), (2, .int (iI y2_2))]) hx hb dX4_coldest_65 rfl hl (by decide) rfl (fun ls hl => ?_)
              exact kX66 ((100 + (sg (c0 + 2) x3_6.toNat)) - (sg 6 x3_6.toNat)) (by rw [if_neg hh14, if_neg hh15, if_neg hh16]) ls (lv_sub hl [3, 0, 4] rfl)
  obtain ⟨k17, hw⟩ := hw
  exact kI4 k17 (-1) 0 _ _ _ hP hS (lv_sub hl [2, 1, 0] rfl) hw

set_option maxRecDepth 100000 in
set_option maxHeartbeats 4000000 in
theorem ok_X3_compare {l : Launch} {D : va_G} {cA : Nat → ClassId} {ad : Nat → Nat} (hI : wI ad) {c1 : Nat} (hc1 : isN c1) {a2 : Int} {sg : Mem} {Q : Mem → Prop} (hw : wp_X3_compare c1 a2 sg Q) : wMv l D cA ad yX3_compare cX3_compare 4 none 4 [.ref (ad 52), .ref (ad c1), .int (iI a2)] sg Q := by
  refine wk_ofV (by decide) hI (Nat.le_of_ble_eq_true rfl) ?_
  intro p e s m below meth c A QQ ls C0 hret hl hP
  have hx := C0.1
  have hb := C0.2.1
  have hown := C0.2.2.2.1
  have htb := C0.2.2.2.2.1
  have hl : lv_has ls 4 [(0, .ref (ad 52)), (1, .ref (ad c1)), (2, .int (iI a2))] := hl
  refine (fun (key : ∀ (H : Heap) (locs : List Loc), wP D cA ad sg H → va_S (wA ad) s.heap H locs → W p l e (rmL 4) s m A below meth c H locs 0 0 QQ (F0 m 0 ls [])) => key _ _ hP va_S.rf) ?_
  intro H locs hP hS
  unfold wp_X3_compare at hw
  refine lv_aload_n hx hb dX3_compare_0 rfl (lv_at hl 0 rfl) ?_
  refine wk_getR 20 C0 fl_X3_27 hP (by decide) sh_52 rfl dX3_compare_1 ?_
  refine lv_aload_n hx hb dX3_compare_4 rfl (lv_at hl 1 rfl) ?_
  refine wk_rv (wk_callV (rest := []) C0 cl_X3_64 (ok_X4_become hI isN_20 hc1 hw) hP (by decide) sh_20 rfl rfl rfl (Nat.le_of_ble_eq_true rfl) (wk_room (by decide) (by decide)) hl.1 dX3_compare_5 ⟨Nat.le_refl _, Nat.le_refl _⟩) hS (fun s1 H locs hw hP hS => ?_)
  refine lv_iconst (v := iI 0) hx hb dX3_compare_8 rfl ?_
  refine lv_istore_n (lv' := [(3, .int (iI 0)), (0, .ref (ad 52)), (1, .ref (ad c1)), (2, .int (iI a2))]) hx hb dX3_compare_9 rfl hl (by decide) rfl (fun ls hl => ?_)
  obtain ⟨I10, hI10, hw⟩ := hw
  have kI10 : ∀ (k10 : Nat) (y3_2 : Int) (s3 : Mem) (H : Heap) (locs : List Loc) (ls : Array Slot), wP D cA ad s3 H → va_S (wA ad) s.heap H locs → lv_has ls 4 [(0, .ref (ad 52)), (2, .int (iI a2)), (3, .int (iI y3_2))] → I10 k10 y3_2 s3 → W p l e (rmL 4) s m A below meth c H locs 0 0 QQ (F0 m 10 ls []) := by
    intro k10
    induction k10 using Nat.strongRecOn with
    | _ k10 ih10 =>
      intro y3_2 s3 H locs ls hP hS hl hw
      have hw := hI10 k10 y3_2 s3 hw
      refine lv_iload_n hx hb dX3_compare_10 rfl (lv_at hl 2 rfl) ?_
      refine lv_aload_n hx hb dX3_compare_11 rfl (lv_at hl 0 rfl) ?_
      refine wk_getI C0 fl_X3_35 hP (by decide) sh_52 rfl dX3_compare_12 ?_
      have q4 := hw.1
      have hw := hw.2
      have q5 := hw.1
      have hw := hw.2
      refine wk_icmp_ge hx hb q4 q5 (tgt := 44) dX3_compare_15 (by decide) (fun hh => ?_) (fun hh => ?_)
      · have hw := hw.1 hh
        refine lv_aload_n hx hb dX3_compare_44 rfl (lv_at hl 0 rfl) ?_
        refine wk_getR 20 C0 fl_X3_27 hP (by decide) sh_52 rfl dX3_compare_45 ?_
        refine lv_iload_n hx hb dX3_compare_48 rfl (lv_at hl 1 rfl) ?_
        refine wk_rv (wk_callV (rest := []) C0 cl_X3_68 (ok_X4_stay hI isN_20 hw) hP (by decide) sh_20 rfl rfl rfl (Nat.le_of_ble_eq_true rfl) (wk_room (by decide) (by decide)) hl.1 dX3_compare_49 ⟨Nat.le_refl _, Nat.le_refl _⟩) hS (fun s6 H locs hw hP hS => ?_)
        refine lv_aload_n hx hb dX3_compare_52 rfl (lv_at hl 0 rfl) ?_
        refine wk_getR 20 C0 fl_X3_27 hP (by decide) sh_52 rfl dX3_compare_53 ?_
        refine wk_rip (wk_callV (rest := []) C0 cl_X3_72 (ok_X4_coldest hI isN_20 hw) hP (by decide) sh_20 rfl rfl rfl (Nat.le_of_ble_eq_true rfl) (wk_room (by decide) (by decide)) hl.1 dX3_compare_56 ⟨Nat.le_refl _, Nat.le_refl _⟩) hS (fun r7 H locs hw hP hS => ?_)
        refine lv_istore_n (lv' := [(3, .int (iI r7)), (0, .ref (ad 52)), (2, .int (iI a2))]) hx hb dX3_compare_59 rfl hl (by decide) rfl (fun ls hl => ?_)
        refine lv_iload_n hx hb dX3_compare_60 rfl (lv_at hl 0 rfl) ?_
        refine lv_aload_n hx hb dX3_compare_61 rfl (lv_at hl 1 rfl) ?_
        refine wk_getI C0 fl_X3_31 hP (by decide) sh_52 rfl dX3_compare_62 ?_
        have q8 := hw.1
        have hw := hw.2
        have q9 := hw.1
        have hw := hw.2
        refine wk_icmp_le hx hb q8 q9 (tgt := 88) dX3_compare_65 (by decide) (fun hh => ?_) (fun hh => ?_)
        · have hw := hw.1 hh
          exact hret _ _ _ _ _ hw hP hS dX3_compare_88
        · have hw := hw.2 hh
          refine lv_aload_n hx hb dX3_compare_68 rfl (lv_at hl 1 rfl) ?_
          refine lv_iload_n hx hb dX3_compare_69 rfl (lv_at hl 0 rfl) ?_
          refine wk_putI C0 fl_X3_31 rfl rfl hP hS (by decide) sh_52 rfl dX3_compare_70 (fun s10 H locs es10 hP hS => ?_)
          have hw := hw s10 es10
          refine lv_aload_n hx hb dX3_compare_73 rfl (lv_at hl 1 rfl) ?_
          refine wk_getR 54 C0 fl_X3_15 hP (by decide) sh_52 rfl dX3_compare_74 ?_
          refine lv_iconst (v := iI 0) hx hb dX3_compare_77 rfl ?_
          refine lv_aload_n hx hb dX3_compare_78 rfl (lv_at hl 1 rfl) ?_
          refine wk_getR 55 C0 fl_X3_18 hP (by decide) sh_52 rfl dX3_compare_79 ?_
          refine lv_iconst (v := iI 0) hx hb dX3_compare_82 rfl ?_
          refine lv_bipush (v := iI 6) hx hb dX3_compare_83 (by decide +kernel) ?_
          refine wk_copy C0 hl.1 ac_X3_74 ac_nat ac_st ini_J10 hP hS (by decide) (by decide) sh_54 sh_55 (by decide) (by decide) (by decide) (by decide) (Nat.le_of_ble_eq_true rfl) (Nat.le_of_ble_eq_true rfl) dX3_compare_85 (fun s11 H locs es11 hP hS => ?_)
          have hw := hw s11 es11
          exact hret _ _ _ _ _ hw hP hS dX3_compare_88
      · have hw := hw.2 hh
        refine lv_aload_n hx hb dX3_compare_18 rfl (lv_at hl 0 rfl) ?_
        refine wk_getR 20 C0 fl_X3_27 hP (by decide) sh_52 rfl dX3_compare_19 ?_
        refine wk_getR 21 C0 fl_X3_49 hP (by decide) sh_20 rfl dX3_compare_22 ?_
        refine lv_aload_n hx hb dX3_compare_25 rfl (lv_at hl 0 rfl) ?_
        refine wk_getR 53 C0 fl_X3_9 hP (by decide) sh_52 rfl dX3_compare_26 ?_
        refine lv_iload_n hx hb dX3_compare_29 rfl (lv_at hl 2 rfl) ?_
        have q12 := hw.1
        have hw := hw.2
        refine wk_iald C0 hP (by decide) sh_53 q12.1 q12.2 (by decide) dX3_compare_30 ?_
        refine lv_aload_n hx hb dX3_compare_31 rfl (lv_at hl 0 rfl) ?_
        refine wk_getR 54 C0 fl_X3_15 hP (by decide) sh_52 rfl dX3_compare_32 ?_
        refine lv_iload_n hx hb dX3_compare_35 rfl (lv_at hl 2 rfl) ?_
        refine wk_iald C0 hP (by decide) sh_54 q12.1 q12.2 (by decide) dX3_compare_36 ?_
        have q13 := hw.1
        have hw := hw.2
        refine wk_iast C0 hP hS (by decide) sh_21 q13.1 q13.2 (by decide) dX3_compare_37 (fun s14 H locs es14 hP hS => ?_)
        have hw := hw s14 es14
        refine wk_iinc (lv' := fun x3_15 => [(3, .int (iI x3_15)), (0, .ref (ad 52)), (2, .int (iI a2))]) hx hb dX3_compare_38 hl (k := 2) rfl (by decide) (fun _ => rfl) (fun x3_15 ls ex3_15 hl => ?_)
        have hw := hw x3_15 ex3_15
        refine lv_goto (tgt := 10) hx hb dX3_compare_41 (by decide) ?_
        obtain ⟨k16, hk16, hw⟩ := hw
        exact ih10 k16 hk16 x3_15 s14 _ _ _ hP hS (lv_sub hl [1, 2, 0] rfl) hw
  obtain ⟨k17, hw⟩ := hw
  exact kI10 k17 0 s1 _ _ _ hP hS (lv_sub hl [1, 3, 0] rfl) hw

set_option maxRecDepth 100000 in
set_option maxHeartbeats 4000000 in
theorem ok_X3_tryOrders {l : Launch} {D : va_G} {cA : Nat → ClassId} {ad : Nat → Nat} (hI : wI ad) : ∀ (d : Nat) {c2 : Nat} (hc2 : isN c2) {a3 : Int} {a4 : Int} {a5 : Int} {sg : Mem} {Q : Mem → Prop}, wp_X3_tryOrders d c2 a3 a4 a5 sg Q → wMv l D cA ad yX3_tryOrders cX3_tryOrders 6 none (5 + d) [.ref (ad 52), .ref (ad c2), .int (iI a3), .int (iI a4), .int (iI a5)] sg Q := by
  intro d
  induction d with
  | zero =>
    intros
    rename_i hw
    exact hw.elim
  | succ d ih =>
    intro c2 hc2 a3 a4 a5 sg Q hw
    refine wk_ofV (by decide) hI (Nat.le_of_ble_eq_true rfl) ?_
    intro p e s m below meth c A QQ ls C0 hret hl hP
    have hx := C0.1
    have hb := C0.2.1
    have hown := C0.2.2.2.1
    have htb := C0.2.2.2.2.1
    have hl : lv_has ls 6 [(0, .ref (ad 52)), (1, .ref (ad c2)), (2, .int (iI a3)), (3, .int (iI a4)), (4, .int (iI a5))] := hl
    refine (fun (key : ∀ (H : Heap) (locs : List Loc), wP D cA ad sg H → va_S (wA ad) s.heap H locs → W p l e (rmL (5 + (d + 1))) s m A below meth c H locs 0 0 QQ (F0 m 0 ls [])) => key _ _ hP va_S.rf) ?_
    intro H locs hP hS
    unfold wp_X3_tryOrders at hw
    refine lv_iload_n hx hb dX3_tryOrders_0 rfl (lv_at hl 2 rfl) ?_
    refine lv_aload_n hx hb dX3_tryOrders_1 rfl (lv_at hl 0 rfl) ?_
    refine wk_getI C0 fl_X3_35 hP (by decide) sh_52 rfl dX3_tryOrders_2 ?_
    have q1 := hw.1
    have hw := hw.2
    have q2 := hw.1
    have hw := hw.2
    obtain ⟨X14, hX14, hw⟩ := hw
    have kX14 : ∀ (H : Heap) (locs : List Loc) (ls : Array Slot), wP D cA ad sg H → va_S (wA ad) s.heap H locs → lv_has ls 6 [(0, .ref (ad 52)), (1, .ref (ad c2)), (4, .int (iI a5))] → X14 → W p l e (rmL (5 + (d + 1))) s m A below meth c H locs 0 0 QQ (F0 m 14 ls []) := by
      intro H locs ls hP hS hl hw
      have hw := hX14 hw
      refine lv_aload_n hx hb dX3_tryOrders_14 rfl (lv_at hl 0 rfl) ?_
      refine lv_aload_n hx hb dX3_tryOrders_15 rfl (lv_at hl 1 rfl) ?_
      refine lv_iload hx hb dX3_tryOrders_16 (lv_at hl 2 rfl) ?_
      refine wk_rv (wk_callV (rest := []) C0 cl_X3_60 (ok_X3_compare hI hc2 hw) hP (by decide) sh_52 rfl rfl rfl (Nat.le_of_ble_eq_true rfl) (wk_room (by omega) (by decide)) hl.1 dX3_tryOrders_18 ⟨Nat.le_refl _, Nat.le_refl _⟩) hS (fun s3 H locs hw hP hS => ?_)
      exact hret _ _ _ _ _ hw hP hS dX3_tryOrders_21
    refine wk_icmp_ge hx hb q1 q2 (tgt := 14) dX3_tryOrders_5 (by decide) (fun hh => ?_) (fun hh => ?_)
    · have hw := hw.1 hh
      exact kX14  _ _ _ hP hS (lv_sub hl [0, 1, 4] rfl) hw
    · have hw := hw.2 hh
      refine lv_iload_n hx hb dX3_tryOrders_8 rfl (lv_at hl 2 rfl) ?_
      refine lv_bipush (v := iI 6) hx hb dX3_tryOrders_9 (by decide +kernel) ?_
      refine wk_icmp_lt hx hb q1 ⟨by decide, by decide⟩ (tgt := 22) dX3_tryOrders_11 (by decide) (fun hh => ?_) (fun hh => ?_)
      · have hw := hw.1 hh
        refine lv_iconst (v := iI 0) hx hb dX3_tryOrders_22 rfl ?_
        refine lv_istore (lv' := [(5, .int (iI 0)), (0, .ref (ad 52)), (1, .ref (ad c2)), (2, .int (iI a3)), (3, .int (iI a4)), (4, .int (iI a5))]) hx hb dX3_tryOrders_23 hl (by decide) rfl (fun ls hl => ?_)
        obtain ⟨I25, hI25, hw⟩ := hw
        have kI25 : ∀ (k25 : Nat) (y5_4 : Int) (s5 : Mem) (H : Heap) (locs : List Loc) (ls : Array Slot), wP D cA ad s5 H → va_S (wA ad) s.heap H locs → lv_has ls 6 [(0, .ref (ad 52)), (1, .ref (ad c2)), (2, .int (iI a3)), (3, .int (iI a4)), (4, .int (iI a5)), (5, .int (iI y5_4))] → I25 k25 y5_4 s5 → W p l e (rmL (5 + (d + 1))) s m A below meth c H locs 0 0 QQ (F0 m 25 ls []) := by
          intro k25
          induction k25 using Nat.strongRecOn with
          | _ k25 ih25 =>
            intro y5_4 s5 H locs ls hP hS hl hw
            have hw := hI25 k25 y5_4 s5 hw
            refine lv_iload hx hb dX3_tryOrders_25 (lv_at hl 5 rfl) ?_
            refine lv_bipush (v := iI 6) hx hb dX3_tryOrders_27 (by decide +kernel) ?_
            have q6 := hw.1
            have hw := hw.2
            refine wk_icmp_ge hx hb q6 ⟨by decide, by decide⟩ (tgt := 74) dX3_tryOrders_29 (by decide) (fun hh => ?_) (fun hh => ?_)
            · have hw := hw.1 hh
              exact hret _ _ _ _ _ hw hP hS dX3_tryOrders_74
            · have hw := hw.2 hh
              refine lv_iload_n hx hb dX3_tryOrders_32 rfl (lv_at hl 3 rfl) ?_
              refine lv_iload hx hb dX3_tryOrders_33 (lv_at hl 5 rfl) ?_
              refine wk_ishr hx hb dX3_tryOrders_35 ?_
              refine lv_iconst (v := iI 1) hx hb dX3_tryOrders_36 rfl ?_
              refine wk_iand hx hb dX3_tryOrders_37 ?_
              refine lv_iconst (v := iI 1) hx hb dX3_tryOrders_38 rfl ?_
              have q7 := hw.1
              have hw := hw.2
              obtain ⟨X68, hX68, hw⟩ := hw
              have kX68 : ∀ (s8 : Mem) (H : Heap) (locs : List Loc) (ls : Array Slot), wP D cA ad s8 H → va_S (wA ad) s.heap H locs → lv_has ls 6 [(0, .ref (ad 52)), (1, .ref (ad c2)), (2, .int (iI a3)), (3, .int (iI a4)), (4, .int (iI a5)), (5, .int (iI y5_4))] → X68 s8 → W p l e (rmL (5 + (d + 1))) s m A below meth c H locs 0 0 QQ (F0 m 68 ls []) := by
                intro s8 H locs ls hP hS hl hw
                have hw := hX68 s8 hw
                refine wk_iinc (lv' := fun x5_9 => [(5, .int (iI x5_9)), (0, .ref (ad 52)), (1, .ref (ad c2)), (2, .int (iI a3)), (3, .int (iI a4)), (4, .int (iI a5))]) hx hb dX3_tryOrders_68 hl (k := 5) rfl (by decide) (fun _ => rfl) (fun x5_9 ls ex5_9 hl => ?_)
                have hw := hw x5_9 ex5_9
                refine lv_goto (tgt := 25) hx hb dX3_tryOrders_71 (by decide) ?_
                obtain ⟨k10, hk10, hw⟩ := hw
                exact ih25 k10 hk10 x5_9 s8 _ _ _ hP hS (lv_sub hl [1, 2, 3, 4, 5, 0] rfl) hw
              refine wk_icmp_ne hx hb q7 ⟨by decide, by decide⟩ (tgt := 68) dX3_tryOrders_39 (by decide) (fun hh => ?_) (fun hh => ?_)
              · have hw := hw.2 hh
                exact kX68 s5 _ _ _ hP hS (lv_sub hl [0, 1, 2, 3, 4, 5] rfl) hw
              · have hw := hw.1 hh
                refine lv_aload_n hx hb dX3_tryOrders_42 rfl (lv_at hl 0 rfl) ?_
                refine wk_getR 54 C0 fl_X3_15 hP (by decide) sh_52 rfl dX3_tryOrders_43 ?_
                refine lv_iload_n hx hb dX3_tryOrders_46 rfl (lv_at hl 2 rfl) ?_
                refine lv_iload hx hb dX3_tryOrders_47 (lv_at hl 5 rfl) ?_
                have q11 := hw.1
                have hw := hw.2
                refine wk_iast C0 hP hS (by decide) sh_54 q11.1 q11.2 (by decide) dX3_tryOrders_49 (fun s12 H locs es12 hP hS => ?_)
                have hw := hw s12 es12
                refine lv_aload_n hx hb dX3_tryOrders_50 rfl (lv_at hl 0 rfl) ?_
                refine lv_aload_n hx hb dX3_tryOrders_51 rfl (lv_at hl 1 rfl) ?_
                refine lv_iload_n hx hb dX3_tryOrders_52 rfl (lv_at hl 2 rfl) ?_
                refine lv_iconst (v := iI 1) hx hb dX3_tryOrders_53 rfl ?_
                refine wk_iadd hx hb dX3_tryOrders_54 ?_
                refine lv_iload_n hx hb dX3_tryOrders_55 rfl (lv_at hl 3 rfl) ?_
                refine lv_iconst (v := iI 1) hx hb dX3_tryOrders_56 rfl ?_
                refine lv_iload hx hb dX3_tryOrders_57 (lv_at hl 5 rfl) ?_
                refine wk_ishl hx hb dX3_tryOrders_59 ?_
                refine lv_iconst (v := iI (-1)) hx hb dX3_tryOrders_60 rfl ?_
                refine wk_ixor hx hb dX3_tryOrders_61 ?_
                refine wk_iand hx hb dX3_tryOrders_62 ?_
                refine lv_iload hx hb dX3_tryOrders_63 (lv_at hl 4 rfl) ?_
                refine wk_rv (wk_callS (rest := []) C0 cl_X3_56 (ih hc2 hw) hP rfl rfl (Nat.le_of_ble_eq_true rfl) (wk_room (by omega) (by decide)) hl.1 dX3_tryOrders_65 ⟨Nat.le_refl _, Nat.le_refl _⟩) hS (fun s13 H locs hw hP hS => ?_)
                exact kX68 s13 _ _ _ hP hS (lv_sub hl [0, 1, 2, 3, 4, 5] rfl) hw
        obtain ⟨k14, hw⟩ := hw
        exact kI25 k14 0 sg _ _ _ hP hS (lv_sub hl [1, 2, 3, 4, 5, 0] rfl) hw
      · have hw := hw.2 hh
        exact kX14  _ _ _ hP hS (lv_sub hl [0, 1, 4] rfl) hw

set_option maxRecDepth 100000 in
set_option maxHeartbeats 4000000 in
theorem ok_X3_seek {l : Launch} {D : va_G} {cA : Nat → ClassId} {ad : Nat → Nat} (hI : wI ad) {c1 : Nat} (hc1 : isN c1) {a2 : Int} {sg : Mem} {Q : Mem → Prop} (hw : wp_X3_seek c1 a2 sg Q) : wMv l D cA ad yX3_seek cX3_seek 4 none 14 [.ref (ad 52), .ref (ad c1), .int (iI a2)] sg Q := by
  refine wk_ofV (by decide) hI (Nat.le_of_ble_eq_true rfl) ?_
  intro p e s m below meth c A QQ ls C0 hret hl hP
  have hx := C0.1
  have hb := C0.2.1
  have hown := C0.2.2.2.1
  have htb := C0.2.2.2.2.1
  have hl : lv_has ls 4 [(0, .ref (ad 52)), (1, .ref (ad c1)), (2, .int (iI a2))] := hl
  refine (fun (key : ∀ (H : Heap) (locs : List Loc), wP D cA ad sg H → va_S (wA ad) s.heap H locs → W p l e (rmL 14) s m A below meth c H locs 0 0 QQ (F0 m 0 ls [])) => key _ _ hP va_S.rf) ?_
  intro H locs hP hS
  unfold wp_X3_seek at hw
  refine lv_aload_n hx hb dX3_seek_0 rfl (lv_at hl 0 rfl) ?_
  refine lv_iconst (v := iI (-1)) hx hb dX3_seek_1 rfl ?_
  refine wk_putI C0 fl_X3_31 rfl rfl hP hS (by decide) sh_52 rfl dX3_seek_2 (fun s1 H locs es1 hP hS => ?_)
  have hw := hw s1 es1
  refine lv_aload_n hx hb dX3_seek_5 rfl (lv_at hl 0 rfl) ?_
  refine lv_iconst (v := iI 0) hx hb dX3_seek_6 rfl ?_
  refine wk_putI C0 fl_X3_35 rfl rfl hP hS (by decide) sh_52 rfl dX3_seek_7 (fun s2 H locs es2 hP hS => ?_)
  have hw := hw s2 es2
  refine lv_iconst (v := iI 0) hx hb dX3_seek_10 rfl ?_
  refine lv_istore_n (lv' := [(3, .int (iI 0)), (0, .ref (ad 52)), (1, .ref (ad c1)), (2, .int (iI a2))]) hx hb dX3_seek_11 rfl hl (by decide) rfl (fun ls hl => ?_)
  obtain ⟨I12, hI12, hw⟩ := hw
  have kI12 : ∀ (k12 : Nat) (y3_3 : Int) (s4 : Mem) (H : Heap) (locs : List Loc) (ls : Array Slot), wP D cA ad s4 H → va_S (wA ad) s.heap H locs → lv_has ls 4 [(0, .ref (ad 52)), (1, .ref (ad c1)), (2, .int (iI a2)), (3, .int (iI y3_3))] → I12 k12 y3_3 s4 → W p l e (rmL 14) s m A below meth c H locs 0 0 QQ (F0 m 12 ls []) := by
    intro k12
    induction k12 using Nat.strongRecOn with
    | _ k12 ih12 =>
      intro y3_3 s4 H locs ls hP hS hl hw
      have hw := hI12 k12 y3_3 s4 hw
      refine lv_iload_n hx hb dX3_seek_12 rfl (lv_at hl 3 rfl) ?_
      refine lv_aload_n hx hb dX3_seek_13 rfl (lv_at hl 1 rfl) ?_
      refine wk_getR 1 C0 fl_X3_38 hP (isN_lt hc1) (isN_sh hc1).2.1 rfl dX3_seek_14 ?_
      refine wk_getI C0 fl_X3_44 hP (by decide) sh_1 rfl dX3_seek_17 ?_
      have q5 := hw.1
      have hw := hw.2
      have q6 := hw.1
      have hw := hw.2
      refine wk_icmp_ge hx hb q5 q6 (tgt := 59) dX3_seek_20 (by decide) (fun hh => ?_) (fun hh => ?_)
      · have hw := hw.1 hh
        refine lv_aload_n hx hb dX3_seek_59 rfl (lv_at hl 0 rfl) ?_
        refine wk_getI C0 fl_X3_35 hP (by decide) sh_52 rfl dX3_seek_60 ?_
        have q7 := hw.1
        have hw := hw.2
        refine wk_if_le hx hb q7 (tgt := 77) dX3_seek_63 (by decide) (fun hh => ?_) (fun hh => ?_)
        · have hw := hw.1 hh
          exact hret _ _ _ _ _ hw hP hS dX3_seek_77
        · have hw := hw.2 hh
          refine lv_aload_n hx hb dX3_seek_66 rfl (lv_at hl 0 rfl) ?_
          refine lv_aload_n hx hb dX3_seek_67 rfl (lv_at hl 1 rfl) ?_
          refine lv_iconst (v := iI 0) hx hb dX3_seek_68 rfl ?_
          refine lv_aload_n hx hb dX3_seek_69 rfl (lv_at hl 1 rfl) ?_
          refine wk_rip (wk_callV (rest := [.int (iI 0), .ref (ad c1), .ref (ad 52)]) C0 cl_X3_52 (ok_X4_inBed hI hc1 hw) hP (isN_lt hc1) (isN_sh hc1).2.1 rfl rfl rfl (Nat.le_of_ble_eq_true rfl) (wk_room (by decide) (by decide)) hl.1 dX3_seek_70 ⟨Nat.le_refl _, Nat.le_refl _⟩) hS (fun r8 H locs hw hP hS => ?_)
          refine lv_iload_n hx hb dX3_seek_73 rfl (lv_at hl 2 rfl) ?_
          obtain ⟨d9, hd9, hw⟩ := hw
          refine wk_rv (wk_callS (rest := []) C0 cl_X3_56 (ok_X3_tryOrders hI d9 hc1 hw) hP rfl rfl (Nat.le_of_ble_eq_true rfl) (wk_room (by omega) (by decide)) hl.1 dX3_seek_74 ⟨Nat.le_refl _, Nat.le_refl _⟩) hS (fun s10 H locs hw hP hS => ?_)
          exact hret _ _ _ _ _ hw hP hS dX3_seek_77
      · have hw := hw.2 hh
        refine lv_aload_n hx hb dX3_seek_23 rfl (lv_at hl 1 rfl) ?_
        refine wk_getR (c1 + 1) C0 fl_X3_49 hP (isN_lt hc1) (isN_sh hc1).2.1 rfl dX3_seek_24 ?_
        refine lv_iload_n hx hb dX3_seek_27 rfl (lv_at hl 3 rfl) ?_
        have q11 := hw.1
        have hw := hw.2
        refine wk_iald C0 hP (isN_lt1 hc1) (isN_sh hc1).2.2.1 q11.1 q11.2 (by decide) dX3_seek_28 ?_
        refine lv_iconst (v := iI (-1)) hx hb dX3_seek_29 rfl ?_
        have q12 := hw.1
        have hw := hw.2
        obtain ⟨X53, hX53, hw⟩ := hw
        have kX53 : ∀ (s13 : Mem) (H : Heap) (locs : List Loc) (ls : Array Slot), wP D cA ad s13 H → va_S (wA ad) s.heap H locs → lv_has ls 4 [(0, .ref (ad 52)), (1, .ref (ad c1)), (2, .int (iI a2)), (3, .int (iI y3_3))] → X53 s13 → W p l e (rmL 14) s m A below meth c H locs 0 0 QQ (F0 m 53 ls []) := by
          intro s13 H locs ls hP hS hl hw
          have hw := hX53 s13 hw
          refine wk_iinc (lv' := fun x3_14 => [(3, .int (iI x3_14)), (0, .ref (ad 52)), (1, .ref (ad c1)), (2, .int (iI a2))]) hx hb dX3_seek_53 hl (k := 3) rfl (by decide) (fun _ => rfl) (fun x3_14 ls ex3_14 hl => ?_)
          have hw := hw x3_14 ex3_14
          refine lv_goto (tgt := 12) hx hb dX3_seek_56 (by decide) ?_
          obtain ⟨k15, hk15, hw⟩ := hw
          exact ih12 k15 hk15 x3_14 s13 _ _ _ hP hS (lv_sub hl [1, 2, 3, 0] rfl) hw
        refine wk_icmp_eq hx hb q12 ⟨by decide, by decide⟩ (tgt := 53) dX3_seek_30 (by decide) (fun hh => ?_) (fun hh => ?_)
        · have hw := hw.1 hh
          exact kX53 s4 _ _ _ hP hS (lv_sub hl [0, 1, 2, 3] rfl) hw
        · have hw := hw.2 hh
          refine lv_aload_n hx hb dX3_seek_33 rfl (lv_at hl 0 rfl) ?_
          refine wk_getR 53 C0 fl_X3_9 hP (by decide) sh_52 rfl dX3_seek_34 ?_
          refine lv_aload_n hx hb dX3_seek_37 rfl (lv_at hl 0 rfl) ?_
          refine wk_getI C0 fl_X3_35 hP (by decide) sh_52 rfl dX3_seek_38 ?_
          refine lv_iload_n hx hb dX3_seek_41 rfl (lv_at hl 3 rfl) ?_
          have q16 := hw.1
          have hw := hw.2
          refine wk_iast C0 hP hS (by decide) sh_53 q16.1 q16.2 (by decide) dX3_seek_42 (fun s17 H locs es17 hP hS => ?_)
          have hw := hw s17 es17
          refine lv_aload_n hx hb dX3_seek_43 rfl (lv_at hl 0 rfl) ?_
          refine lv_dup hx hb dX3_seek_44 rfl ?_
          refine wk_getI C0 fl_X3_35 hP (by decide) sh_52 rfl dX3_seek_45 ?_
          refine lv_iconst (v := iI 1) hx hb dX3_seek_48 rfl ?_
          refine wk_iadd hx hb dX3_seek_49 ?_
          refine wk_putI C0 fl_X3_35 rfl rfl hP hS (by decide) sh_52 rfl dX3_seek_50 (fun s18 H locs es18 hP hS => ?_)
          have hw := hw s18 es18
          exact kX53 s18 _ _ _ hP hS (lv_sub hl [0, 1, 2, 3] rfl) hw
  obtain ⟨k19, hw⟩ := hw
  exact kI12 k19 0 s2 _ _ _ hP hS (lv_sub hl [1, 2, 3, 0] rfl) hw

set_option maxRecDepth 100000 in
set_option maxHeartbeats 4000000 in
theorem ok_X4_placeOf {l : Launch} {D : va_G} {cA : Nat → ClassId} {ad : Nat → Nat} (hI : wI ad) {c0 : Nat} (hc0 : isN c0) {a1 : Int} {sg : Mem} {Q : Int → Prop} (hw : wp_X4_placeOf c0 a1 sg Q) : wMi l D cA ad yX4_placeOf cX4_placeOf 3 (some .int) 1 [.ref (ad c0), .int (iI a1)] sg (fun z u => u = sg ∧ Q z) := by
  refine wk_ofI (by decide) hI (Nat.le_of_ble_eq_true rfl) ?_
  intro p e s m below meth c A QQ ls C0 hret hl hP
  have hx := C0.1
  have hb := C0.2.1
  have hown := C0.2.2.2.1
  have htb := C0.2.2.2.2.1
  have hl : lv_has ls 3 [(0, .ref (ad c0)), (1, .int (iI a1))] := hl
  refine (fun (key : ∀ (H : Heap) (locs : List Loc), wP D cA ad sg H → va_S (wA ad) s.heap H locs → W p l e (rmL 1) s m A below meth c H locs 0 0 QQ (F0 m 0 ls [])) => key _ _ hP va_S.rf) ?_
  intro H locs hP hS
  unfold wp_X4_placeOf at hw
  refine lv_iconst (v := iI 0) hx hb dX4_placeOf_0 rfl ?_
  refine lv_istore_n (lv' := [(2, .int (iI 0)), (0, .ref (ad c0)), (1, .int (iI a1))]) hx hb dX4_placeOf_1 rfl hl (by decide) rfl (fun ls hl => ?_)
  obtain ⟨I2, hI2, hw⟩ := hw
  have kI2 : ∀ (k2 : Nat) (y2_1 : Int) (H : Heap) (locs : List Loc) (ls : Array Slot), wP D cA ad sg H → va_S (wA ad) s.heap H locs → lv_has ls 3 [(0, .ref (ad c0)), (1, .int (iI a1)), (2, .int (iI y2_1))] → I2 k2 y2_1 → W p l e (rmL 1) s m A below meth c H locs 0 0 QQ (F0 m 2 ls []) := by
    intro k2
    induction k2 using Nat.strongRecOn with
    | _ k2 ih2 =>
      intro y2_1 H locs ls hP hS hl hw
      have hw := hI2 k2 y2_1 hw
      refine lv_iload_n hx hb dX4_placeOf_2 rfl (lv_at hl 2 rfl) ?_
      refine lv_aload_n hx hb dX4_placeOf_3 rfl (lv_at hl 0 rfl) ?_
      refine wk_getR 1 C0 fl_X4_18 hP (isN_lt hc0) (isN_sh hc0).2.1 rfl dX4_placeOf_4 ?_
      refine wk_getI C0 fl_X4_44 hP (by decide) sh_1 rfl dX4_placeOf_7 ?_
      have q2 := hw.1
      have hw := hw.2
      have q3 := hw.1
      have hw := hw.2
      refine wk_icmp_ge hx hb q2 q3 (tgt := 31) dX4_placeOf_10 (by decide) (fun hh => ?_) (fun hh => ?_)
      · have hw := hw.1 hh
        refine lv_iconst (v := iI (-1)) hx hb dX4_placeOf_31 rfl ?_
        exact hret _ _ _ _ _ _ ⟨rfl, hw⟩ hP hS dX4_placeOf_32
      · have hw := hw.2 hh
        refine lv_aload_n hx hb dX4_placeOf_13 rfl (lv_at hl 0 rfl) ?_
        refine wk_getR (c0 + 1) C0 fl_X4_9 hP (isN_lt hc0) (isN_sh hc0).2.1 rfl dX4_placeOf_14 ?_
        refine lv_iload_n hx hb dX4_placeOf_17 rfl (lv_at hl 2 rfl) ?_
        have q4 := hw.1
        have hw := hw.2
        refine wk_iald C0 hP (isN_lt1 hc0) (isN_sh hc0).2.2.1 q4.1 q4.2 (by decide) dX4_placeOf_18 ?_
        refine lv_iload_n hx hb dX4_placeOf_19 rfl (lv_at hl 1 rfl) ?_
        have q5 := hw.1
        have hw := hw.2
        have q6 := hw.1
        have hw := hw.2
        refine wk_icmp_ne hx hb q5 q6 (tgt := 25) dX4_placeOf_20 (by decide) (fun hh => ?_) (fun hh => ?_)
        · have hw := hw.2 hh
          refine wk_iinc (lv' := fun x2_7 => [(2, .int (iI x2_7)), (0, .ref (ad c0)), (1, .int (iI a1))]) hx hb dX4_placeOf_25 hl (k := 2) rfl (by decide) (fun _ => rfl) (fun x2_7 ls ex2_7 hl => ?_)
          have hw := hw x2_7 ex2_7
          refine lv_goto (tgt := 2) hx hb dX4_placeOf_28 (by decide) ?_
          obtain ⟨k8, hk8, hw⟩ := hw
          exact ih2 k8 hk8 x2_7 _ _ _ hP hS (lv_sub hl [1, 2, 0] rfl) hw
        · have hw := hw.1 hh
          refine lv_iload_n hx hb dX4_placeOf_23 rfl (lv_at hl 2 rfl) ?_
          exact hret _ _ _ _ _ _ ⟨rfl, hw⟩ hP hS dX4_placeOf_24
  obtain ⟨k9, hw⟩ := hw
  exact kI2 k9 0 _ _ _ hP hS (lv_sub hl [1, 2, 0] rfl) hw

set_option maxRecDepth 100000 in
set_option maxHeartbeats 4000000 in
theorem ok_X3_bothWarmer {l : Launch} {D : va_G} {cA : Nat → ClassId} {ad : Nat → Nat} (hI : wI ad) {c1 : Nat} (hc1 : isN c1) {a2 : Int} {a3 : Int} {sg : Mem} {Q : Int → Mem → Prop} (hw : wp_X3_bothWarmer c1 a2 a3 sg Q) : wMi l D cA ad yX3_bothWarmer cX3_bothWarmer 6 (some .boolean) 4 [.ref (ad 52), .ref (ad c1), .int (iI a2), .int (iI a3)] sg Q := by
  refine wk_ofZ (by decide) hI (Nat.le_of_ble_eq_true rfl) ?_
  intro p e s m below meth c A QQ ls C0 hret hl hP
  have hx := C0.1
  have hb := C0.2.1
  have hown := C0.2.2.2.1
  have htb := C0.2.2.2.2.1
  have hl : lv_has ls 6 [(0, .ref (ad 52)), (1, .ref (ad c1)), (2, .int (iI a2)), (3, .int (iI a3))] := hl
  refine (fun (key : ∀ (H : Heap) (locs : List Loc), wP D cA ad sg H → va_S (wA ad) s.heap H locs → W p l e (rmL 4) s m A below meth c H locs 0 0 QQ (F0 m 0 ls [])) => key _ _ hP va_S.rf) ?_
  intro H locs hP hS
  unfold wp_X3_bothWarmer at hw
  refine lv_aload_n hx hb dX3_bothWarmer_0 rfl (lv_at hl 1 rfl) ?_
  refine lv_iload_n hx hb dX3_bothWarmer_1 rfl (lv_at hl 2 rfl) ?_
  refine wk_rip (wk_callV (rest := []) C0 cl_X3_93 (ok_X4_placeOf hI hc1 hw) hP (isN_lt hc1) (isN_sh hc1).2.1 rfl rfl rfl (Nat.le_of_ble_eq_true rfl) (wk_room (by decide) (by decide)) hl.1 dX3_bothWarmer_2 ⟨Nat.le_refl _, Nat.le_refl _⟩) hS (fun r1 H locs hw hP hS => ?_)
  refine lv_istore (lv' := [(4, .int (iI r1)), (0, .ref (ad 52)), (1, .ref (ad c1)), (2, .int (iI a2)), (3, .int (iI a3))]) hx hb dX3_bothWarmer_5 hl (by decide) rfl (fun ls hl => ?_)
  refine lv_aload_n hx hb dX3_bothWarmer_7 rfl (lv_at hl 2 rfl) ?_
  refine lv_iload_n hx hb dX3_bothWarmer_8 rfl (lv_at hl 4 rfl) ?_
  refine wk_rip (wk_callV (rest := []) C0 cl_X3_93 (ok_X4_placeOf hI hc1 hw) hP (isN_lt hc1) (isN_sh hc1).2.1 rfl rfl rfl (Nat.le_of_ble_eq_true rfl) (wk_room (by decide) (by decide)) hl.1 dX3_bothWarmer_9 ⟨Nat.le_refl _, Nat.le_refl _⟩) hS (fun r2 H locs hw hP hS => ?_)
  refine lv_istore (lv' := [(5, .int (iI r2)), (4, .int (iI r1)), (0, .ref (ad 52)), (1, .ref (ad c1)), (2, .int (iI a2)), (3, .int (iI a3))]) hx hb dX3_bothWarmer_12 hl (by decide) rfl (fun ls hl => ?_)
  refine lv_iload hx hb dX3_bothWarmer_14 (lv_at hl 1 rfl) ?_
  refine lv_iconst (v := iI (-1)) hx hb dX3_bothWarmer_16 rfl ?_
  have q3 := hw.1
  have hw := hw.2
  refine wk_icmp_eq hx hb q3 ⟨by decide, by decide⟩ (tgt := 26) dX3_bothWarmer_17 (by decide) (fun hh => ?_) (fun hh => ?_)
  · have hw := hw.1 hh
    refine lv_iconst (v := iI 0) hx hb dX3_bothWarmer_26 rfl ?_
    exact hret _ _ _ _ _ _ (by decide) hw hP hS dX3_bothWarmer_27
  · have hw := hw.2 hh
    refine lv_iload hx hb dX3_bothWarmer_20 (lv_at hl 0 rfl) ?_
    refine lv_iconst (v := iI (-1)) hx hb dX3_bothWarmer_22 rfl ?_
    have q4 := hw.1
    have hw := hw.2
    refine wk_icmp_ne hx hb q4 ⟨by decide, by decide⟩ (tgt := 28) dX3_bothWarmer_23 (by decide) (fun hh => ?_) (fun hh => ?_)
    · have hw := hw.2 hh
      refine lv_aload_n hx hb dX3_bothWarmer_28 rfl (lv_at hl 2 rfl) ?_
      refine wk_getR 20 C0 fl_X3_27 hP (by decide) sh_52 rfl dX3_bothWarmer_29 ?_
      refine lv_aload_n hx hb dX3_bothWarmer_32 rfl (lv_at hl 3 rfl) ?_
      refine wk_rv (wk_callV (rest := []) C0 cl_X3_64 (ok_X4_become hI isN_20 hc1 hw) hP (by decide) sh_20 rfl rfl rfl (Nat.le_of_ble_eq_true rfl) (wk_room (by decide) (by decide)) hl.1 dX3_bothWarmer_33 ⟨Nat.le_refl _, Nat.le_refl _⟩) hS (fun s5 H locs hw hP hS => ?_)
      refine lv_aload_n hx hb dX3_bothWarmer_36 rfl (lv_at hl 2 rfl) ?_
      refine wk_getR 20 C0 fl_X3_27 hP (by decide) sh_52 rfl dX3_bothWarmer_37 ?_
      refine wk_getR 21 C0 fl_X3_49 hP (by decide) sh_20 rfl dX3_bothWarmer_40 ?_
      refine lv_iload hx hb dX3_bothWarmer_43 (lv_at hl 1 rfl) ?_
      refine lv_iload_n hx hb dX3_bothWarmer_45 rfl (lv_at hl 5 rfl) ?_
      have q6 := hw.1
      have hw := hw.2
      refine wk_iast C0 hP hS (by decide) sh_21 q6.1 q6.2 (by decide) dX3_bothWarmer_46 (fun s7 H locs es7 hP hS => ?_)
      have hw := hw s7 es7
      refine lv_aload_n hx hb dX3_bothWarmer_47 rfl (lv_at hl 2 rfl) ?_
      refine wk_getR 20 C0 fl_X3_27 hP (by decide) sh_52 rfl dX3_bothWarmer_48 ?_
      refine wk_getR 21 C0 fl_X3_49 hP (by decide) sh_20 rfl dX3_bothWarmer_51 ?_
      refine lv_iload hx hb dX3_bothWarmer_54 (lv_at hl 0 rfl) ?_
      refine lv_iload_n hx hb dX3_bothWarmer_56 rfl (lv_at hl 4 rfl) ?_
      have q8 := hw.1
      have hw := hw.2
      refine wk_iast C0 hP hS (by decide) sh_21 q8.1 q8.2 (by decide) dX3_bothWarmer_57 (fun s9 H locs es9 hP hS => ?_)
      have hw := hw s9 es9
      refine lv_aload_n hx hb dX3_bothWarmer_58 rfl (lv_at hl 2 rfl) ?_
      refine wk_getR 20 C0 fl_X3_27 hP (by decide) sh_52 rfl dX3_bothWarmer_59 ?_
      refine lv_iconst (v := iI 1) hx hb dX3_bothWarmer_62 rfl ?_
      refine wk_rv (wk_callV (rest := []) C0 cl_X3_68 (ok_X4_stay hI isN_20 hw) hP (by decide) sh_20 rfl rfl rfl (Nat.le_of_ble_eq_true rfl) (wk_room (by decide) (by decide)) hl.1 dX3_bothWarmer_63 ⟨Nat.le_refl _, Nat.le_refl _⟩) hS (fun s10 H locs hw hP hS => ?_)
      refine lv_aload_n hx hb dX3_bothWarmer_66 rfl (lv_at hl 2 rfl) ?_
      refine wk_getR 20 C0 fl_X3_27 hP (by decide) sh_52 rfl dX3_bothWarmer_67 ?_
      refine wk_getR 22 C0 fl_X3_80 hP (by decide) sh_20 rfl dX3_bothWarmer_70 ?_
      refine lv_iload_n hx hb dX3_bothWarmer_73 rfl (lv_at hl 4 rfl) ?_
      have q11 := hw.1
      have hw := hw.2
      refine wk_iald C0 hP (by decide) sh_22 q11.1 q11.2 (by decide) dX3_bothWarmer_74 ?_
      refine lv_aload_n hx hb dX3_bothWarmer_75 rfl (lv_at hl 2 rfl) ?_
      refine wk_getR 56 C0 fl_X3_21 hP (by decide) sh_52 rfl dX3_bothWarmer_76 ?_
      refine lv_iload_n hx hb dX3_bothWarmer_79 rfl (lv_at hl 4 rfl) ?_
      refine wk_iald C0 hP (by decide) sh_56 q11.1 q11.2 (by decide) dX3_bothWarmer_80 ?_
      have q12 := hw.1
      have hw := hw.2
      have q13 := hw.1
      have hw := hw.2
      refine wk_icmp_le hx hb q12 q13 (tgt := 106) dX3_bothWarmer_81 (by decide) (fun hh => ?_) (fun hh => ?_)
      · have hw := hw.1 hh
        refine lv_iconst (v := iI 0) hx hb dX3_bothWarmer_106 rfl ?_
        exact hret _ _ _ _ _ _ (by decide) hw hP hS dX3_bothWarmer_107
      · have hw := hw.2 hh
        refine lv_aload_n hx hb dX3_bothWarmer_84 rfl (lv_at hl 2 rfl) ?_
        refine wk_getR 20 C0 fl_X3_27 hP (by decide) sh_52 rfl dX3_bothWarmer_85 ?_
        refine wk_getR 22 C0 fl_X3_80 hP (by decide) sh_20 rfl dX3_bothWarmer_88 ?_
        refine lv_iload_n hx hb dX3_bothWarmer_91 rfl (lv_at hl 5 rfl) ?_
        have q14 := hw.1
        have hw := hw.2
        refine wk_iald C0 hP (by decide) sh_22 q14.1 q14.2 (by decide) dX3_bothWarmer_92 ?_
        refine lv_aload_n hx hb dX3_bothWarmer_93 rfl (lv_at hl 2 rfl) ?_
        refine wk_getR 56 C0 fl_X3_21 hP (by decide) sh_52 rfl dX3_bothWarmer_94 ?_
        refine lv_iload_n hx hb dX3_bothWarmer_97 rfl (lv_at hl 5 rfl) ?_
        refine wk_iald C0 hP (by decide) sh_56 q14.1 q14.2 (by decide) dX3_bothWarmer_98 ?_
        have q15 := hw.1
        have hw := hw.2
        have q16 := hw.1
        have hw := hw.2
        refine wk_icmp_le hx hb q15 q16 (tgt := 106) dX3_bothWarmer_99 (by decide) (fun hh => ?_) (fun hh => ?_)
        · have hw := hw.1 hh
          refine lv_iconst (v := iI 0) hx hb dX3_bothWarmer_106 rfl ?_
          exact hret _ _ _ _ _ _ (by decide) hw hP hS dX3_bothWarmer_107
        · have hw := hw.2 hh
          refine lv_iconst (v := iI 1) hx hb dX3_bothWarmer_102 rfl ?_
          refine lv_goto (tgt := 107) hx hb dX3_bothWarmer_103 (by decide) ?_
          exact hret _ _ _ _ _ _ (by decide) hw hP hS dX3_bothWarmer_107
    · have hw := hw.1 hh
      refine lv_iconst (v := iI 0) hx hb dX3_bothWarmer_26 rfl ?_
      exact hret _ _ _ _ _ _ (by decide) hw hP hS dX3_bothWarmer_27

set_option maxRecDepth 100000 in
set_option maxHeartbeats 4000000 in
theorem ok_X3_seekPairs {l : Launch} {D : va_G} {cA : Nat → ClassId} {ad : Nat → Nat} (hI : wI ad) {c1 : Nat} (hc1 : isN c1) {sg : Mem} {Q : Mem → Prop} (hw : wp_X3_seekPairs c1 sg Q) : wMv l D cA ad yX3_seekPairs cX3_seekPairs 4 none 5 [.ref (ad 52), .ref (ad c1)] sg Q := by
  refine wk_ofV (by decide) hI (Nat.le_of_ble_eq_true rfl) ?_
  intro p e s m below meth c A QQ ls C0 hret hl hP
  have hx := C0.1
  have hb := C0.2.1
  have hown := C0.2.2.2.1
  have htb := C0.2.2.2.2.1
  have hl : lv_has ls 4 [(0, .ref (ad 52)), (1, .ref (ad c1))] := hl
  refine (fun (key : ∀ (H : Heap) (locs : List Loc), wP D cA ad sg H → va_S (wA ad) s.heap H locs → W p l e (rmL 5) s m A below meth c H locs 0 0 QQ (F0 m 0 ls [])) => key _ _ hP va_S.rf) ?_
  intro H locs hP hS
  unfold wp_X3_seekPairs at hw
  refine lv_aload_n hx hb dX3_seekPairs_0 rfl (lv_at hl 0 rfl) ?_
  refine wk_getR 20 C0 fl_X3_27 hP (by decide) sh_52 rfl dX3_seekPairs_1 ?_
  refine lv_aload_n hx hb dX3_seekPairs_4 rfl (lv_at hl 1 rfl) ?_
  refine wk_rv (wk_callV (rest := []) C0 cl_X3_64 (ok_X4_become hI isN_20 hc1 hw) hP (by decide) sh_20 rfl rfl rfl (Nat.le_of_ble_eq_true rfl) (wk_room (by decide) (by decide)) hl.1 dX3_seekPairs_5 ⟨Nat.le_refl _, Nat.le_refl _⟩) hS (fun s1 H locs hw hP hS => ?_)
  refine lv_aload_n hx hb dX3_seekPairs_8 rfl (lv_at hl 0 rfl) ?_
  refine wk_getR 20 C0 fl_X3_27 hP (by decide) sh_52 rfl dX3_seekPairs_9 ?_
  refine lv_iconst (v := iI 1) hx hb dX3_seekPairs_12 rfl ?_
  refine wk_rv (wk_callV (rest := []) C0 cl_X3_68 (ok_X4_stay hI isN_20 hw) hP (by decide) sh_20 rfl rfl rfl (Nat.le_of_ble_eq_true rfl) (wk_room (by decide) (by decide)) hl.1 dX3_seekPairs_13 ⟨Nat.le_refl _, Nat.le_refl _⟩) hS (fun s2 H locs hw hP hS => ?_)
  refine lv_aload_n hx hb dX3_seekPairs_16 rfl (lv_at hl 0 rfl) ?_
  refine wk_getR 20 C0 fl_X3_27 hP (by decide) sh_52 rfl dX3_seekPairs_17 ?_
  refine wk_getR 22 C0 fl_X3_80 hP (by decide) sh_20 rfl dX3_seekPairs_20 ?_
  refine lv_iconst (v := iI 0) hx hb dX3_seekPairs_23 rfl ?_
  refine lv_aload_n hx hb dX3_seekPairs_24 rfl (lv_at hl 0 rfl) ?_
  refine wk_getR 56 C0 fl_X3_21 hP (by decide) sh_52 rfl dX3_seekPairs_25 ?_
  refine lv_iconst (v := iI 0) hx hb dX3_seekPairs_28 rfl ?_
  refine lv_bipush (v := iI 6) hx hb dX3_seekPairs_29 (by decide +kernel) ?_
  refine wk_copy C0 hl.1 ac_X3_74 ac_nat ac_st ini_J10 hP hS (by decide) (by decide) sh_22 sh_56 (by decide) (by decide) (by decide) (by decide) (Nat.le_of_ble_eq_true rfl) (Nat.le_of_ble_eq_true rfl) dX3_seekPairs_31 (fun s3 H locs es3 hP hS => ?_)
  have hw := hw s3 es3
  refine lv_aload_n hx hb dX3_seekPairs_34 rfl (lv_at hl 0 rfl) ?_
  refine lv_iconst (v := iI 0) hx hb dX3_seekPairs_35 rfl ?_
  refine wk_putI C0 fl_X3_83 rfl rfl hP hS (by decide) sh_52 rfl dX3_seekPairs_36 (fun s4 H locs es4 hP hS => ?_)
  have hw := hw s4 es4
  refine lv_iconst (v := iI 0) hx hb dX3_seekPairs_39 rfl ?_
  refine lv_istore_n (lv' := [(2, .int (iI 0)), (0, .ref (ad 52)), (1, .ref (ad c1))]) hx hb dX3_seekPairs_40 rfl hl (by decide) rfl (fun ls hl => ?_)
  obtain ⟨I41, hI41, hw⟩ := hw
  have kI41 : ∀ (k41 : Nat) (y2_5 : Int) (s6 : Mem) (H : Heap) (locs : List Loc) (ls : Array Slot), wP D cA ad s6 H → va_S (wA ad) s.heap H locs → lv_has ls 4 [(0, .ref (ad 52)), (1, .ref (ad c1)), (2, .int (iI y2_5))] → I41 k41 y2_5 s6 → W p l e (rmL 5) s m A below meth c H locs 0 0 QQ (F0 m 41 ls []) := by
    intro k41
    induction k41 using Nat.strongRecOn with
    | _ k41 ih41 =>
      intro y2_5 s6 H locs ls hP hS hl hw
      have hw := hI41 k41 y2_5 s6 hw
      refine lv_iload_n hx hb dX3_seekPairs_41 rfl (lv_at hl 2 rfl) ?_
      refine lv_aload_n hx hb dX3_seekPairs_42 rfl (lv_at hl 1 rfl) ?_
      refine wk_getR 1 C0 fl_X3_38 hP (isN_lt hc1) (isN_sh hc1).2.1 rfl dX3_seekPairs_43 ?_
      refine wk_getI C0 fl_X3_86 hP (by decide) sh_1 rfl dX3_seekPairs_46 ?_
      have q7 := hw.1
      have hw := hw.2
      have q8 := hw.1
      have hw := hw.2
      refine wk_icmp_ge hx hb q7 q8 (tgt := 114) dX3_seekPairs_49 (by decide) (fun hh => ?_) (fun hh => ?_)
      · have hw := hw.1 hh
        exact hret _ _ _ _ _ hw hP hS dX3_seekPairs_114
      · have hw := hw.2 hh
        refine lv_iload_n hx hb dX3_seekPairs_52 rfl (lv_at hl 2 rfl) ?_
        refine lv_iconst (v := iI 1) hx hb dX3_seekPairs_53 rfl ?_
        refine wk_iadd hx hb dX3_seekPairs_54 ?_
        refine wk_top (fun x3_9 ex3_9 => ?_)
        have hw := hw x3_9 ex3_9
        refine lv_istore_n (lv' := [(3, .int (iI x3_9)), (0, .ref (ad 52)), (1, .ref (ad c1)), (2, .int (iI y2_5))]) hx hb dX3_seekPairs_55 rfl hl (by decide) rfl (fun ls hl => ?_)
        obtain ⟨I56, hI56, hw⟩ := hw
        have kI56 : ∀ (k56 : Nat) (y3_10 : Int) (s11 : Mem) (H : Heap) (locs : List Loc) (ls : Array Slot), wP D cA ad s11 H → va_S (wA ad) s.heap H locs → lv_has ls 4 [(0, .ref (ad 52)), (1, .ref (ad c1)), (2, .int (iI y2_5)), (3, .int (iI y3_10))] → I56 k56 y3_10 s11 → W p l e (rmL 5) s m A below meth c H locs 0 0 QQ (F0 m 56 ls []) := by
          intro k56
          induction k56 using Nat.strongRecOn with
          | _ k56 ih56 =>
            intro y3_10 s11 H locs ls hP hS hl hw
            have hw := hI56 k56 y3_10 s11 hw
            refine lv_iload_n hx hb dX3_seekPairs_56 rfl (lv_at hl 3 rfl) ?_
            refine lv_aload_n hx hb dX3_seekPairs_57 rfl (lv_at hl 1 rfl) ?_
            refine wk_getR 1 C0 fl_X3_38 hP (isN_lt hc1) (isN_sh hc1).2.1 rfl dX3_seekPairs_58 ?_
            refine wk_getI C0 fl_X3_86 hP (by decide) sh_1 rfl dX3_seekPairs_61 ?_
            have q12 := hw.1
            have hw := hw.2
            have q13 := hw.1
            have hw := hw.2
            refine wk_icmp_ge hx hb q12 q13 (tgt := 108) dX3_seekPairs_64 (by decide) (fun hh => ?_) (fun hh => ?_)
            · have hw := hw.1 hh
              refine wk_iinc (lv' := fun x2_14 => [(2, .int (iI x2_14)), (0, .ref (ad 52)), (1, .ref (ad c1)), (3, .int (iI y3_10))]) hx hb dX3_seekPairs_108 hl (k := 2) rfl (by decide) (fun _ => rfl) (fun x2_14 ls ex2_14 hl => ?_)
              have hw := hw x2_14 ex2_14
              refine lv_goto (tgt := 41) hx hb dX3_seekPairs_111 (by decide) ?_
              obtain ⟨k15, hk15, hw⟩ := hw
              exact ih41 k15 hk15 x2_14 s11 _ _ _ hP hS (lv_sub hl [1, 2, 0] rfl) hw
            · have hw := hw.2 hh
              refine lv_aload_n hx hb dX3_seekPairs_67 rfl (lv_at hl 0 rfl) ?_
              refine lv_aload_n hx hb dX3_seekPairs_68 rfl (lv_at hl 1 rfl) ?_
              refine lv_iload_n hx hb dX3_seekPairs_69 rfl (lv_at hl 2 rfl) ?_
              refine lv_iload_n hx hb dX3_seekPairs_70 rfl (lv_at hl 3 rfl) ?_
              refine wk_ri (wk_callV (rest := []) C0 cl_X3_89 (ok_X3_bothWarmer hI hc1 hw) hP (by decide) sh_52 rfl rfl rfl (Nat.le_of_ble_eq_true rfl) (wk_room (by decide) (by decide)) hl.1 dX3_seekPairs_71 ⟨Nat.le_refl _, Nat.le_refl _⟩) hS (fun r16 s17 H locs hw hP hS => ?_)
              have q18 := hw.1
              have hw := hw.2
              obtain ⟨X102, hX102, hw⟩ := hw
              have kX102 : ∀ (s19 : Mem) (H : Heap) (locs : List Loc) (ls : Array Slot), wP D cA ad s19 H → va_S (wA ad) s.heap H locs → lv_has ls 4 [(0, .ref (ad 52)), (1, .ref (ad c1)), (2, .int (iI y2_5)), (3, .int (iI y3_10))] → X102 s19 → W p l e (rmL 5) s m A below meth c H locs 0 0 QQ (F0 m 102 ls []) := by
                intro s19 H locs ls hP hS hl hw
                have hw := hX102 s19 hw
                refine wk_iinc (lv' := fun x3_20 => [(3, .int (iI x3_20)), (0, .ref (ad 52)), (1, .ref (ad c1)), (2, .int (iI y2_5))]) hx hb dX3_seekPairs_102 hl (k := 3) rfl (by decide) (fun _ => rfl) (fun x3_20 ls ex3_20 hl => ?_)
                have hw := hw x3_20 ex3_20
                refine lv_goto (tgt := 56) hx hb dX3_seekPairs_105 (by decide) ?_
                obtain ⟨k21, hk21, hw⟩ := hw
                exact ih56 k21 hk21 x3_20 s19 _ _ _ hP hS (lv_sub hl [1, 2, 3, 0] rfl) hw
              refine wk_if_eq hx hb q18 (tgt := 102) dX3_seekPairs_74 (by decide) (fun hh => ?_) (fun hh => ?_)
              · have hw := hw.1 hh
                exact kX102 s17 _ _ _ hP hS (lv_sub hl [0, 1, 2, 3] rfl) hw
              · have hw := hw.2 hh
                refine lv_aload_n hx hb dX3_seekPairs_77 rfl (lv_at hl 0 rfl) ?_
                refine wk_getR 57 C0 fl_X3_24 hP (by decide) sh_52 rfl dX3_seekPairs_78 ?_
                refine lv_aload_n hx hb dX3_seekPairs_81 rfl (lv_at hl 0 rfl) ?_
                refine wk_getI C0 fl_X3_83 hP (by decide) sh_52 rfl dX3_seekPairs_82 ?_
                refine lv_bipush (v := iI 10) hx hb dX3_seekPairs_85 (by decide +kernel) ?_
                refine lv_iload_n hx hb dX3_seekPairs_87 rfl (lv_at hl 2 rfl) ?_
                refine wk_imul hx hb dX3_seekPairs_88 ?_
                refine lv_iload_n hx hb dX3_seekPairs_89 rfl (lv_at hl 3 rfl) ?_
                refine wk_iadd hx hb dX3_seekPairs_90 ?_
                have q22 := hw.1
                have hw := hw.2
                refine wk_iast C0 hP hS (by decide) sh_57 q22.1 q22.2 (by decide) dX3_seekPairs_91 (fun s23 H locs es23 hP hS => ?_)
                have hw := hw s23 es23
                refine lv_aload_n hx hb dX3_seekPairs_92 rfl (lv_at hl 0 rfl) ?_
                refine lv_dup hx hb dX3_seekPairs_93 rfl ?_
                refine wk_getI C0 fl_X3_83 hP (by decide) sh_52 rfl dX3_seekPairs_94 ?_
                refine lv_iconst (v := iI 1) hx hb dX3_seekPairs_97 rfl ?_
                refine wk_iadd hx hb dX3_seekPairs_98 ?_
                refine wk_putI C0 fl_X3_83 rfl rfl hP hS (by decide) sh_52 rfl dX3_seekPairs_99 (fun s24 H locs es24 hP hS => ?_)
                have hw := hw s24 es24
                exact kX102 s24 _ _ _ hP hS (lv_sub hl [0, 1, 2, 3] rfl) hw
        obtain ⟨k25, hw⟩ := hw
        exact kI56 k25 x3_9 s6 _ _ _ hP hS (lv_sub hl [1, 2, 3, 0] rfl) hw
  obtain ⟨k26, hw⟩ := hw
  exact kI41 k26 0 s4 _ _ _ hP hS (lv_sub hl [1, 2, 0] rfl) hw

set_option maxRecDepth 100000 in
set_option maxHeartbeats 4000000 in
theorem ok_X4_layAll {l : Launch} {D : va_G} {cA : Nat → ClassId} {ad : Nat → Nat} (hI : wI ad) {c0 : Nat} (hc0 : isN c0) {sg : Mem} {Q : Mem → Prop} (hw : wp_X4_layAll c0 sg Q) : wMv l D cA ad yX4_layAll cX4_layAll 3 none 1 [.ref (ad c0)] sg Q := by
  refine wk_ofV (by decide) hI (Nat.le_of_ble_eq_true rfl) ?_
  intro p e s m below meth c A QQ ls C0 hret hl hP
  have hx := C0.1
  have hb := C0.2.1
  have hown := C0.2.2.2.1
  have htb := C0.2.2.2.2.1
  have hl : lv_has ls 3 [(0, .ref (ad c0))] := hl
  refine (fun (key : ∀ (H : Heap) (locs : List Loc), wP D cA ad sg H → va_S (wA ad) s.heap H locs → W p l e (rmL 1) s m A below meth c H locs 0 0 QQ (F0 m 0 ls [])) => key _ _ hP va_S.rf) ?_
  intro H locs hP hS
  unfold wp_X4_layAll at hw
  refine lv_iconst (v := iI 0) hx hb dX4_layAll_0 rfl ?_
  refine lv_istore_n (lv' := [(1, .int (iI 0)), (0, .ref (ad c0))]) hx hb dX4_layAll_1 rfl hl (by decide) rfl (fun ls hl => ?_)
  obtain ⟨I2, hI2, hw⟩ := hw
  have kI2 : ∀ (k2 : Nat) (y1_1 : Int) (s2 : Mem) (H : Heap) (locs : List Loc) (ls : Array Slot), wP D cA ad s2 H → va_S (wA ad) s.heap H locs → lv_has ls 3 [(0, .ref (ad c0)), (1, .int (iI y1_1))] → I2 k2 y1_1 s2 → W p l e (rmL 1) s m A below meth c H locs 0 0 QQ (F0 m 2 ls []) := by
    intro k2
    induction k2 using Nat.strongRecOn with
    | _ k2 ih2 =>
      intro y1_1 s2 H locs ls hP hS hl hw
      have hw := hI2 k2 y1_1 s2 hw
      refine lv_iload_n hx hb dX4_layAll_2 rfl (lv_at hl 1 rfl) ?_
      refine lv_bipush (v := iI 6) hx hb dX4_layAll_3 (by decide +kernel) ?_
      have q3 := hw.1
      have hw := hw.2
      refine wk_icmp_ge hx hb q3 ⟨by decide, by decide⟩ (tgt := 69) dX4_layAll_5 (by decide) (fun hh => ?_) (fun hh => ?_)
      · have hw := hw.1 hh
        refine lv_aload_n hx hb dX4_layAll_69 rfl (lv_at hl 0 rfl) ?_
        refine lv_iconst (v := iI 0) hx hb dX4_layAll_70 rfl ?_
        refine wk_putI C0 fl_X4_31 rfl rfl hP hS (isN_lt hc0) (isN_sh hc0).2.1 rfl dX4_layAll_71 (fun s4 H locs es4 hP hS => ?_)
        have hw := hw s4 es4
        exact hret _ _ _ _ _ hw hP hS dX4_layAll_74
      · have hw := hw.2 hh
        refine lv_iload_n hx hb dX4_layAll_8 rfl (lv_at hl 1 rfl) ?_
        refine lv_aload_n hx hb dX4_layAll_9 rfl (lv_at hl 0 rfl) ?_
        refine wk_getR 1 C0 fl_X4_18 hP (isN_lt hc0) (isN_sh hc0).2.1 rfl dX4_layAll_10 ?_
        refine wk_getI C0 fl_X4_22 hP (by decide) sh_1 rfl dX4_layAll_13 ?_
        have q5 := hw.1
        have hw := hw.2
        have kX24 : ∀ v6 : Int, v6 = (if s2 1 2 ≤ y1_1 then 0 else 1) → ∀ (ls : Array Slot), lv_has ls 3 [(0, .ref (ad c0)), (1, .int (iI y1_1))] → W p l e (rmL 1) s m A below meth c H locs 0 0 QQ (F0 m 24 ls [.int (iI v6)]) := by
          intro v6 ev6 ls hl
          have hw := hw v6 ev6
          refine lv_istore_n (lv' := [(2, .int (iI v6)), (0, .ref (ad c0)), (1, .int (iI y1_1))]) hx hb dX4_layAll_24 rfl hl (by decide) rfl (fun ls hl => ?_)
          refine lv_aload_n hx hb dX4_layAll_25 rfl (lv_at hl 1 rfl) ?_
          refine wk_getR (c0 + 1) C0 fl_X4_9 hP (isN_lt hc0) (isN_sh hc0).2.1 rfl dX4_layAll_26 ?_
          refine lv_iload_n hx hb dX4_layAll_29 rfl (lv_at hl 2 rfl) ?_
          refine lv_iload_n hx hb dX4_layAll_30 rfl (lv_at hl 0 rfl) ?_
          have q7 := hw.1
          have hw := hw.2
          have kX39 : ∀ v8 : Int, v8 = (if v6 = 0 then (-1) else y1_1) → ∀ (ls : Array Slot), lv_has ls 3 [(0, .ref (ad c0)), (1, .int (iI y1_1)), (2, .int (iI v6))] → W p l e (rmL 1) s m A below meth c H locs 0 0 QQ (F0 m 39 ls [.int (iI v8), .int (iI y1_1), .ref (ad (c0 + 1))]) := by
            intro v8 ev8 ls hl
            have hw := hw v8 ev8
            have q9 := hw.1
            have hw := hw.2
            refine wk_iast C0 hP hS (isN_lt1 hc0) (isN_sh hc0).2.2.1 q9.1 q9.2 (by decide) dX4_layAll_39 (fun s10 H locs es10 hP hS => ?_)
            have hw := hw s10 es10
            refine lv_aload_n hx hb dX4_layAll_40 rfl (lv_at hl 0 rfl) ?_
            refine wk_getR (c0 + 2) C0 fl_X4_15 hP (isN_lt hc0) (isN_sh hc0).2.1 rfl dX4_layAll_41 ?_
            refine lv_iload_n hx hb dX4_layAll_44 rfl (lv_at hl 1 rfl) ?_
            refine lv_iload_n hx hb dX4_layAll_45 rfl (lv_at hl 2 rfl) ?_
            have kX62 : ∀ v11 : Int, v11 = (if v6 = 0 then 0 else s10 3 y1_1.toNat) → ∀ (ls : Array Slot), lv_has ls 3 [(0, .ref (ad c0)), (1, .int (iI y1_1))] → W p l e (rmL 1) s m A below meth c H locs 0 0 QQ (F0 m 62 ls [.int (iI v11), .int (iI y1_1), .ref (ad (c0 + 2))]) := by
              intro v11 ev11 ls hl
              have hw := hw v11 ev11
              refine wk_iast C0 hP hS (isN_lt2 hc0) (isN_sh hc0).2.2.2 q9.1 q9.2 (by decide) dX4_layAll_62 (fun s12 H locs es12 hP hS => ?_)
              have hw := hw s12 es12
              refine wk_iinc (lv' := fun x1_13 => [(1, .int (iI x1_13)), (0, .ref (ad c0))]) hx hb dX4_layAll_63 hl (k := 1) rfl (by decide) (fun _ => rfl) (fun x1_13 ls ex1_13 hl => ?_)
              have hw := hw x1_13 ex1_13
              refine lv_goto (tgt := 2) hx hb dX4_layAll_66 (by decide) ?_
              obtain ⟨k14, hk14, hw⟩ := hw
              exact ih2 k14 hk14 x1_13 s12 _ _ _ hP hS (lv_sub hl [1, 0] rfl) hw
            refine wk_if_eq hx hb q7 (tgt := 61) dX4_layAll_46 (by decide) (fun hh15 => ?_) (fun hh15 => ?_)
            · refine lv_iconst (v := iI 0) hx hb dX4_layAll_61 rfl ?_
              exact kX62 0 (by rw [if_pos hh15]) ls (lv_sub hl [0, 1] rfl)
            · refine lv_aload_n hx hb dX4_layAll_49 rfl (lv_at hl 0 rfl) ?_
              refine wk_getR 1 C0 fl_X4_18 hP (isN_lt hc0) (isN_sh hc0).2.1 rfl dX4_layAll_50 ?_
              refine wk_getR 3 C0 fl_X4_28 hP (by decide) sh_1 rfl dX4_layAll_53 ?_
              refine lv_iload_n hx hb dX4_layAll_56 rfl (lv_at hl 1 rfl) ?_
              refine wk_iald C0 hP (by decide) sh_3 q9.1 q9.2 (by decide) dX4_layAll_57 ?_
              refine lv_goto (tgt := 62) hx hb dX4_layAll_58 (by decide) ?_
              exact kX62 (s10 3 y1_1.toNat) (by rw [if_neg hh15]) ls (lv_sub hl [0, 1] rfl)
          refine wk_if_eq hx hb q7 (tgt := 38) dX4_layAll_31 (by decide) (fun hh16 => ?_) (fun hh16 => ?_)
          · refine lv_iconst (v := iI (-1)) hx hb dX4_layAll_38 rfl ?_
            exact kX39 (-1) (by rw [if_pos hh16]) ls (lv_sub hl [1, 2, 0] rfl)
          · refine lv_iload_n hx hb dX4_layAll_34 rfl (lv_at hl 2 rfl) ?_
            refine lv_goto (tgt := 39) hx hb dX4_layAll_35 (by decide) ?_
            exact kX39 y1_1 (by rw [if_neg hh16]) ls (lv_sub hl [1, 2, 0] rfl)
        refine wk_icmp_ge hx hb q3 q5 (tgt := 23) dX4_layAll_16 (by decide) (fun hh17 => ?_) (fun hh17 => ?_)
        · refine lv_iconst (v := iI 0) hx hb dX4_layAll_23 rfl ?_
          exact kX24 0 (by rw [if_pos hh17]) ls (lv_sub hl [0, 1] rfl)
        · refine lv_iconst (v := iI 1) hx hb dX4_layAll_19 rfl ?_
          refine lv_goto (tgt := 24) hx hb dX4_layAll_20 (by decide) ?_
          exact kX24 1 (by rw [if_neg hh17]) ls (lv_sub hl [0, 1] rfl)
  obtain ⟨k18, hw⟩ := hw
  exact kI2 k18 0 sg _ _ _ hP hS (lv_sub hl [1, 0] rfl) hw

set_option maxRecDepth 100000 in
set_option maxHeartbeats 4000000 in
theorem ok_X4_setCode {l : Launch} {D : va_G} {cA : Nat → ClassId} {ad : Nat → Nat} (hI : wI ad) {c0 : Nat} (hc0 : isN c0) {a1 : Int} {a2 : Int} {sg : Mem} {Q : Mem → Prop} (hw : wp_X4_setCode c0 a1 a2 sg Q) : wMv l D cA ad yX4_setCode cX4_setCode 7 none 1 [.ref (ad c0), .long (iL a1), .int (iI a2)] sg Q := by
  refine wk_ofV (by decide) hI (Nat.le_of_ble_eq_true rfl) ?_
  intro p e s m below meth c A QQ ls C0 hret hl hP
  have hx := C0.1
  have hb := C0.2.1
  have hown := C0.2.2.2.1
  have htb := C0.2.2.2.2.1
  have hl : lv_has ls 7 [(0, .ref (ad c0)), (1, .long (iL a1)), (3, .int (iI a2))] := hl
  refine (fun (key : ∀ (H : Heap) (locs : List Loc), wP D cA ad sg H → va_S (wA ad) s.heap H locs → W p l e (rmL 1) s m A below meth c H locs 0 0 QQ (F0 m 0 ls [])) => key _ _ hP va_S.rf) ?_
  intro H locs hP hS
  unfold wp_X4_setCode at hw
  refine lv_lload_n hx hb dX4_setCode_0 rfl (lv_at hl 1 rfl) ?_
  refine lv_lstore (lv' := [(4, .long (iL a1)), (0, .ref (ad c0)), (1, .long (iL a1)), (3, .int (iI a2))]) hx hb dX4_setCode_1 hl (by decide) rfl (fun ls hl => ?_)
  refine lv_iconst (v := iI 5) hx hb dX4_setCode_3 rfl ?_
  refine lv_istore (lv' := [(6, .int (iI 5)), (4, .long (iL a1)), (0, .ref (ad c0)), (1, .long (iL a1)), (3, .int (iI a2))]) hx hb dX4_setCode_4 hl (by decide) rfl (fun ls hl => ?_)
  obtain ⟨I6, hI6, hw⟩ := hw
  have kI6 : ∀ (k6 : Nat) (y4_1 : Int) (y6_2 : Int) (s3 : Mem) (H : Heap) (locs : List Loc) (ls : Array Slot), wP D cA ad s3 H → va_S (wA ad) s.heap H locs → lv_has ls 7 [(0, .ref (ad c0)), (3, .int (iI a2)), (4, .long (iL y4_1)), (6, .int (iI y6_2))] → I6 k6 y4_1 y6_2 s3 → W p l e (rmL 1) s m A below meth c H locs 0 0 QQ (F0 m 6 ls []) := by
    intro k6
    induction k6 using Nat.strongRecOn with
    | _ k6 ih6 =>
      intro y4_1 y6_2 s3 H locs ls hP hS hl hw
      have hw := hI6 k6 y4_1 y6_2 s3 hw
      refine lv_iload hx hb dX4_setCode_6 (lv_at hl 3 rfl) ?_
      have q4 := hw.1
      have hw := hw.2
      refine wk_if_lt hx hb q4 (tgt := 56) dX4_setCode_8 (by decide) (fun hh => ?_) (fun hh => ?_)
      · have hw := hw.1 hh
        refine lv_aload_n hx hb dX4_setCode_56 rfl (lv_at hl 0 rfl) ?_
        refine lv_iload_n hx hb dX4_setCode_57 rfl (lv_at hl 1 rfl) ?_
        refine wk_putI C0 fl_X4_31 rfl rfl hP hS (isN_lt hc0) (isN_sh hc0).2.1 rfl dX4_setCode_58 (fun s5 H locs es5 hP hS => ?_)
        have hw := hw s5 es5
        exact hret _ _ _ _ _ hw hP hS dX4_setCode_61
      · have hw := hw.2 hh
        refine lv_aload_n hx hb dX4_setCode_11 rfl (lv_at hl 0 rfl) ?_
        refine wk_getR (c0 + 1) C0 fl_X4_9 hP (isN_lt hc0) (isN_sh hc0).2.1 rfl dX4_setCode_12 ?_
        refine lv_iload hx hb dX4_setCode_15 (lv_at hl 3 rfl) ?_
        refine lv_lload hx hb dX4_setCode_17 (lv_at hl 2 rfl) ?_
        refine lv_ldc2 (own := RX4) (v := iL 7) hx hb hown (htb _ kl_X4_40) dX4_setCode_19 ?_
        refine wk_land hx hb dX4_setCode_22 ?_
        refine wk_l2i hx hb dX4_setCode_23 ?_
        refine lv_iconst (v := iI 1) hx hb dX4_setCode_24 rfl ?_
        refine wk_isub hx hb dX4_setCode_25 ?_
        have q6 := hw.1
        have hw := hw.2
        refine wk_iast C0 hP hS (isN_lt1 hc0) (isN_sh hc0).2.2.1 q6.1 q6.2 (by decide) dX4_setCode_26 (fun s7 H locs es7 hP hS => ?_)
        have hw := hw s7 es7
        refine lv_aload_n hx hb dX4_setCode_27 rfl (lv_at hl 0 rfl) ?_
        refine wk_getR (c0 + 2) C0 fl_X4_15 hP (isN_lt hc0) (isN_sh hc0).2.1 rfl dX4_setCode_28 ?_
        refine lv_iload hx hb dX4_setCode_31 (lv_at hl 3 rfl) ?_
        refine lv_lload hx hb dX4_setCode_33 (lv_at hl 2 rfl) ?_
        refine lv_iconst (v := iI 3) hx hb dX4_setCode_35 rfl ?_
        refine wk_lshr hx hb dX4_setCode_36 ?_
        refine lv_ldc2 (own := RX4) (v := iL 127) hx hb hown (htb _ kl_X4_42) dX4_setCode_37 ?_
        refine wk_land hx hb dX4_setCode_40 ?_
        refine wk_l2i hx hb dX4_setCode_41 ?_
        refine wk_iast C0 hP hS (isN_lt2 hc0) (isN_sh hc0).2.2.2 q6.1 q6.2 (by decide) dX4_setCode_42 (fun s8 H locs es8 hP hS => ?_)
        have hw := hw s8 es8
        refine lv_lload hx hb dX4_setCode_43 (lv_at hl 2 rfl) ?_
        refine lv_bipush (v := iI 10) hx hb dX4_setCode_45 (by decide +kernel) ?_
        refine wk_lshr hx hb dX4_setCode_47 ?_
        refine wk_topl (fun x4_9 ex4_9 => ?_)
        have hw := hw x4_9 ex4_9
        refine lv_lstore (lv' := [(4, .long (iL x4_9)), (0, .ref (ad c0)), (3, .int (iI a2)), (6, .int (iI y6_2))]) hx hb dX4_setCode_48 hl (by decide) rfl (fun ls hl => ?_)
        refine wk_iinc (lv' := fun x6_10 => [(6, .int (iI x6_10)), (4, .long (iL x4_9)), (0, .ref (ad c0)), (3, .int (iI a2))]) hx hb dX4_setCode_50 hl (k := 3) rfl (by decide) (fun _ => rfl) (fun x6_10 ls ex6_10 hl => ?_)
        have hw := hw x6_10 ex6_10
        refine lv_goto (tgt := 6) hx hb dX4_setCode_53 (by decide) ?_
        obtain ⟨k11, hk11, hw⟩ := hw
        exact ih6 k11 hk11 x4_9 x6_10 s8 _ _ _ hP hS (lv_sub hl [2, 3, 1, 0] rfl) hw
  obtain ⟨k12, hw⟩ := hw
  exact kI6 k12 a1 5 sg _ _ _ hP hS (lv_sub hl [2, 4, 1, 0] rfl) hw

set_option maxRecDepth 100000 in
set_option maxHeartbeats 4000000 in
theorem ok_X4_up {l : Launch} {D : va_G} {cA : Nat → ClassId} {ad : Nat → Nat} (hI : wI ad) {c0 : Nat} (hc0 : isN c0) {sg : Mem} {Q : Int → Prop} (hw : wp_X4_up c0 sg Q) : wMi l D cA ad yX4_up cX4_up 1 (some .int) 2 [.ref (ad c0)] sg (fun z u => u = sg ∧ Q z) := by
  refine wk_ofI (by decide) hI (Nat.le_of_ble_eq_true rfl) ?_
  intro p e s m below meth c A QQ ls C0 hret hl hP
  have hx := C0.1
  have hb := C0.2.1
  have hown := C0.2.2.2.1
  have htb := C0.2.2.2.2.1
  have hl : lv_has ls 1 [(0, .ref (ad c0))] := hl
  refine (fun (key : ∀ (H : Heap) (locs : List Loc), wP D cA ad sg H → va_S (wA ad) s.heap H locs → W p l e (rmL 2) s m A below meth c H locs 0 0 QQ (F0 m 0 ls [])) => key _ _ hP va_S.rf) ?_
  intro H locs hP hS
  unfold wp_X4_up at hw
  refine lv_iconst (v := iI 1) hx hb dX4_up_0 rfl ?_
  refine lv_aload_n hx hb dX4_up_1 rfl (lv_at hl 0 rfl) ?_
  refine wk_getR 1 C0 fl_X4_18 hP (isN_lt hc0) (isN_sh hc0).2.1 rfl dX4_up_2 ?_
  refine wk_getI C0 fl_X4_22 hP (by decide) sh_1 rfl dX4_up_5 ?_
  refine wk_ishl hx hb dX4_up_8 ?_
  refine lv_iconst (v := iI 1) hx hb dX4_up_9 rfl ?_
  refine wk_isub hx hb dX4_up_10 ?_
  refine lv_aload_n hx hb dX4_up_11 rfl (lv_at hl 0 rfl) ?_
  refine wk_rip (wk_callV (rest := [.int (iI ((zshl 1 (sg 1 2)) - 1))]) C0 cl_X4_47 (ok_X4_inBed hI hc0 hw) hP (isN_lt hc0) (isN_sh hc0).2.1 rfl rfl rfl (Nat.le_of_ble_eq_true rfl) (wk_room (by decide) (by decide)) hl.1 dX4_up_12 ⟨Nat.le_refl _, Nat.le_refl _⟩) hS (fun r1 H locs hw hP hS => ?_)
  refine lv_iconst (v := iI (-1)) hx hb dX4_up_15 rfl ?_
  refine wk_ixor hx hb dX4_up_16 ?_
  refine wk_iand hx hb dX4_up_17 ?_
  exact hret _ _ _ _ _ _ ⟨rfl, hw⟩ hP hS dX4_up_18

set_option maxRecDepth 100000 in
set_option maxHeartbeats 4000000 in
theorem ok_X4_lastEmpty {l : Launch} {D : va_G} {cA : Nat → ClassId} {ad : Nat → Nat} (hI : wI ad) {c0 : Nat} (hc0 : isN c0) {sg : Mem} {Q : Int → Prop} (hw : wp_X4_lastEmpty c0 sg Q) : wMi l D cA ad yX4_lastEmpty cX4_lastEmpty 2 (some .int) 1 [.ref (ad c0)] sg (fun z u => u = sg ∧ Q z) := by
  refine wk_ofI (by decide) hI (Nat.le_of_ble_eq_true rfl) ?_
  intro p e s m below meth c A QQ ls C0 hret hl hP
  have hx := C0.1
  have hb := C0.2.1
  have hown := C0.2.2.2.1
  have htb := C0.2.2.2.2.1
  have hl : lv_has ls 2 [(0, .ref (ad c0))] := hl
  refine (fun (key : ∀ (H : Heap) (locs : List Loc), wP D cA ad sg H → va_S (wA ad) s.heap H locs → W p l e (rmL 1) s m A below meth c H locs 0 0 QQ (F0 m 0 ls [])) => key _ _ hP va_S.rf) ?_
  intro H locs hP hS
  unfold wp_X4_lastEmpty at hw
  refine lv_aload_n hx hb dX4_lastEmpty_0 rfl (lv_at hl 0 rfl) ?_
  refine wk_getR 1 C0 fl_X4_18 hP (isN_lt hc0) (isN_sh hc0).2.1 rfl dX4_lastEmpty_1 ?_
  refine wk_getI C0 fl_X4_44 hP (by decide) sh_1 rfl dX4_lastEmpty_4 ?_
  refine lv_iconst (v := iI 1) hx hb dX4_lastEmpty_7 rfl ?_
  refine wk_isub hx hb dX4_lastEmpty_8 ?_
  refine wk_top (fun x1_1 ex1_1 => ?_)
  have hw := hw x1_1 ex1_1
  refine lv_istore_n (lv' := [(1, .int (iI x1_1)), (0, .ref (ad c0))]) hx hb dX4_lastEmpty_9 rfl hl (by decide) rfl (fun ls hl => ?_)
  obtain ⟨I10, hI10, hw⟩ := hw
  have kI10 : ∀ (k10 : Nat) (y1_2 : Int) (H : Heap) (locs : List Loc) (ls : Array Slot), wP D cA ad sg H → va_S (wA ad) s.heap H locs → lv_has ls 2 [(0, .ref (ad c0)), (1, .int (iI y1_2))] → I10 k10 y1_2 → W p l e (rmL 1) s m A below meth c H locs 0 0 QQ (F0 m 10 ls []) := by
    intro k10
    induction k10 using Nat.strongRecOn with
    | _ k10 ih10 =>
      intro y1_2 H locs ls hP hS hl hw
      have hw := hI10 k10 y1_2 hw
      refine lv_iload_n hx hb dX4_lastEmpty_10 rfl (lv_at hl 1 rfl) ?_
      have q3 := hw.1
      have hw := hw.2
      refine wk_if_lt hx hb q3 (tgt := 32) dX4_lastEmpty_11 (by decide) (fun hh => ?_) (fun hh => ?_)
      · have hw := hw.1 hh
        refine lv_iconst (v := iI (-1)) hx hb dX4_lastEmpty_32 rfl ?_
        exact hret _ _ _ _ _ _ ⟨rfl, hw⟩ hP hS dX4_lastEmpty_33
      · have hw := hw.2 hh
        refine lv_aload_n hx hb dX4_lastEmpty_14 rfl (lv_at hl 0 rfl) ?_
        refine wk_getR (c0 + 1) C0 fl_X4_9 hP (isN_lt hc0) (isN_sh hc0).2.1 rfl dX4_lastEmpty_15 ?_
        refine lv_iload_n hx hb dX4_lastEmpty_18 rfl (lv_at hl 1 rfl) ?_
        have q4 := hw.1
        have hw := hw.2
        refine wk_iald C0 hP (isN_lt1 hc0) (isN_sh hc0).2.2.1 q4.1 q4.2 (by decide) dX4_lastEmpty_19 ?_
        refine lv_iconst (v := iI (-1)) hx hb dX4_lastEmpty_20 rfl ?_
        have q5 := hw.1
        have hw := hw.2
        refine wk_icmp_ne hx hb q5 ⟨by decide, by decide⟩ (tgt := 26) dX4_lastEmpty_21 (by decide) (fun hh => ?_) (fun hh => ?_)
        · have hw := hw.2 hh
          refine wk_iinc (lv' := fun x1_6 => [(1, .int (iI x1_6)), (0, .ref (ad c0))]) hx hb dX4_lastEmpty_26 hl (k := 1) rfl (by decide) (fun _ => rfl) (fun x1_6 ls ex1_6 hl => ?_)
          have hw := hw x1_6 ex1_6
          refine lv_goto (tgt := 10) hx hb dX4_lastEmpty_29 (by decide) ?_
          obtain ⟨k7, hk7, hw⟩ := hw
          exact ih10 k7 hk7 x1_6 _ _ _ hP hS (lv_sub hl [1, 0] rfl) hw
        · have hw := hw.1 hh
          refine lv_iload_n hx hb dX4_lastEmpty_24 rfl (lv_at hl 1 rfl) ?_
          exact hret _ _ _ _ _ _ ⟨rfl, hw⟩ hP hS dX4_lastEmpty_25
  obtain ⟨k8, hw⟩ := hw
  exact kI10 k8 x1_1 _ _ _ hP hS (lv_sub hl [1, 0] rfl) hw

set_option maxRecDepth 100000 in
set_option maxHeartbeats 4000000 in
theorem ok_X4_leave {l : Launch} {D : va_G} {cA : Nat → ClassId} {ad : Nat → Nat} (hI : wI ad) {c0 : Nat} (hc0 : isN c0) {a1 : Int} {sg : Mem} {Q : Mem → Prop} (hw : wp_X4_leave c0 a1 sg Q) : wMv l D cA ad yX4_leave cX4_leave 4 none 2 [.ref (ad c0), .int (iI a1)] sg Q := by
  refine wk_ofV (by decide) hI (Nat.le_of_ble_eq_true rfl) ?_
  intro p e s m below meth c A QQ ls C0 hret hl hP
  have hx := C0.1
  have hb := C0.2.1
  have hown := C0.2.2.2.1
  have htb := C0.2.2.2.2.1
  have hl : lv_has ls 4 [(0, .ref (ad c0)), (1, .int (iI a1))] := hl
  refine (fun (key : ∀ (H : Heap) (locs : List Loc), wP D cA ad sg H → va_S (wA ad) s.heap H locs → W p l e (rmL 2) s m A below meth c H locs 0 0 QQ (F0 m 0 ls [])) => key _ _ hP va_S.rf) ?_
  intro H locs hP hS
  unfold wp_X4_leave at hw
  refine lv_aload_n hx hb dX4_leave_0 rfl (lv_at hl 0 rfl) ?_
  refine wk_getR 1 C0 fl_X4_18 hP (isN_lt hc0) (isN_sh hc0).2.1 rfl dX4_leave_1 ?_
  refine lv_iload_n hx hb dX4_leave_4 rfl (lv_at hl 1 rfl) ?_
  refine wk_rip (wk_callV (rest := []) C0 cl_X4_54 (ok_X0_hasPlace hI hw) hP (by decide) sh_1 rfl rfl rfl (Nat.le_of_ble_eq_true rfl) (wk_room (by decide) (by decide)) hl.1 dX4_leave_5 ⟨Nat.le_refl _, Nat.le_refl _⟩) hS (fun r1 H locs hw hP hS => ?_)
  have q2 := hw.1
  have hw := hw.2
  refine wk_if_ne hx hb q2 (tgt := 12) dX4_leave_8 (by decide) (fun hh => ?_) (fun hh => ?_)
  · have hw := hw.2 hh
    refine lv_aload_n hx hb dX4_leave_12 rfl (lv_at hl 0 rfl) ?_
    refine wk_getR 1 C0 fl_X4_18 hP (isN_lt hc0) (isN_sh hc0).2.1 rfl dX4_leave_13 ?_
    refine wk_getI C0 fl_X4_44 hP (by decide) sh_1 rfl dX4_leave_16 ?_
    refine lv_iconst (v := iI 1) hx hb dX4_leave_19 rfl ?_
    refine wk_isub hx hb dX4_leave_20 ?_
    refine wk_top (fun x2_3 ex2_3 => ?_)
    have hw := hw x2_3 ex2_3
    refine lv_istore_n (lv' := [(2, .int (iI x2_3)), (0, .ref (ad c0)), (1, .int (iI a1))]) hx hb dX4_leave_21 rfl hl (by decide) rfl (fun ls hl => ?_)
    refine lv_iload_n hx hb dX4_leave_22 rfl (lv_at hl 2 rfl) ?_
    refine lv_istore_n (lv' := [(3, .int (iI a1)), (2, .int (iI x2_3)), (0, .ref (ad c0)), (1, .int (iI a1))]) hx hb dX4_leave_23 rfl hl (by decide) rfl (fun ls hl => ?_)
    obtain ⟨I24, hI24, hw⟩ := hw
    have kI24 : ∀ (k24 : Nat) (y3_4 : Int) (s5 : Mem) (H : Heap) (locs : List Loc) (ls : Array Slot), wP D cA ad s5 H → va_S (wA ad) s.heap H locs → lv_has ls 4 [(0, .ref (ad c0)), (2, .int (iI x2_3)), (3, .int (iI y3_4))] → I24 k24 y3_4 s5 → W p l e (rmL 2) s m A below meth c H locs 0 0 QQ (F0 m 24 ls []) := by
      intro k24
      induction k24 using Nat.strongRecOn with
      | _ k24 ih24 =>
        intro y3_4 s5 H locs ls hP hS hl hw
        have hw := hI24 k24 y3_4 s5 hw
        refine lv_iload_n hx hb dX4_leave_24 rfl (lv_at hl 2 rfl) ?_
        refine lv_iload_n hx hb dX4_leave_25 rfl (lv_at hl 1 rfl) ?_
        have q6 := hw.1
        have hw := hw.2
        have q7 := hw.1
        have hw := hw.2
        refine wk_icmp_ge hx hb q6 q7 (tgt := 49) dX4_leave_26 (by decide) (fun hh => ?_) (fun hh => ?_)
        · have hw := hw.1 hh
          refine lv_aload_n hx hb dX4_leave_49 rfl (lv_at hl 0 rfl) ?_
          refine wk_getR (c0 + 1) C0 fl_X4_9 hP (isN_lt hc0) (isN_sh hc0).2.1 rfl dX4_leave_50 ?_
          refine lv_iload_n hx hb dX4_leave_53 rfl (lv_at hl 1 rfl) ?_
          refine lv_iconst (v := iI (-1)) hx hb dX4_leave_54 rfl ?_
          have q8 := hw.1
          have hw := hw.2
          refine wk_iast C0 hP hS (isN_lt1 hc0) (isN_sh hc0).2.2.1 q8.1 q8.2 (by decide) dX4_leave_55 (fun s9 H locs es9 hP hS => ?_)
          have hw := hw s9 es9
          exact hret _ _ _ _ _ hw hP hS dX4_leave_56
        · have hw := hw.2 hh
          refine lv_aload_n hx hb dX4_leave_29 rfl (lv_at hl 0 rfl) ?_
          refine wk_getR (c0 + 1) C0 fl_X4_9 hP (isN_lt hc0) (isN_sh hc0).2.1 rfl dX4_leave_30 ?_
          refine lv_iload_n hx hb dX4_leave_33 rfl (lv_at hl 2 rfl) ?_
          refine lv_aload_n hx hb dX4_leave_34 rfl (lv_at hl 0 rfl) ?_
          refine wk_getR (c0 + 1) C0 fl_X4_9 hP (isN_lt hc0) (isN_sh hc0).2.1 rfl dX4_leave_35 ?_
          refine lv_iload_n hx hb dX4_leave_38 rfl (lv_at hl 2 rfl) ?_
          refine lv_iconst (v := iI 1) hx hb dX4_leave_39 rfl ?_
          refine wk_iadd hx hb dX4_leave_40 ?_
          have q10 := hw.1
          have hw := hw.2
          refine wk_iald C0 hP (isN_lt1 hc0) (isN_sh hc0).2.2.1 q10.1 q10.2 (by decide) dX4_leave_41 ?_
          have q11 := hw.1
          have hw := hw.2
          refine wk_iast C0 hP hS (isN_lt1 hc0) (isN_sh hc0).2.2.1 q11.1 q11.2 (by decide) dX4_leave_42 (fun s12 H locs es12 hP hS => ?_)
          have hw := hw s12 es12
          refine wk_iinc (lv' := fun x3_13 => [(3, .int (iI x3_13)), (0, .ref (ad c0)), (2, .int (iI x2_3))]) hx hb dX4_leave_43 hl (k := 2) rfl (by decide) (fun _ => rfl) (fun x3_13 ls ex3_13 hl => ?_)
          have hw := hw x3_13 ex3_13
          refine lv_goto (tgt := 24) hx hb dX4_leave_46 (by decide) ?_
          obtain ⟨k14, hk14, hw⟩ := hw
          exact ih24 k14 hk14 x3_13 s12 _ _ _ hP hS (lv_sub hl [1, 2, 0] rfl) hw
    obtain ⟨k15, hw⟩ := hw
    exact kI24 k15 a1 sg _ _ _ hP hS (lv_sub hl [2, 1, 0] rfl) hw
  · have hw := hw.1 hh
    exact hret _ _ _ _ _ hw hP hS dX4_leave_11

set_option maxRecDepth 100000 in
set_option maxHeartbeats 4000000 in
theorem ok_X4_passByLaw {l : Launch} {D : va_G} {cA : Nat → ClassId} {ad : Nat → Nat} (hI : wI ad) {c0 : Nat} (hc0 : isN c0) {sg : Mem} {Q : Mem → Prop} (hw : wp_X4_passByLaw c0 sg Q) : wMv l D cA ad yX4_passByLaw cX4_passByLaw 1 none 5 [.ref (ad c0)] sg Q := by
  refine wk_ofV (by decide) hI (Nat.le_of_ble_eq_true rfl) ?_
  intro p e s m below meth c A QQ ls C0 hret hl hP
  have hx := C0.1
  have hb := C0.2.1
  have hown := C0.2.2.2.1
  have htb := C0.2.2.2.2.1
  have hl : lv_has ls 1 [(0, .ref (ad c0))] := hl
  refine (fun (key : ∀ (H : Heap) (locs : List Loc), wP D cA ad sg H → va_S (wA ad) s.heap H locs → W p l e (rmL 5) s m A below meth c H locs 0 0 QQ (F0 m 0 ls [])) => key _ _ hP va_S.rf) ?_
  intro H locs hP hS
  unfold wp_X4_passByLaw at hw
  refine lv_aload_n hx hb dX4_passByLaw_0 rfl (lv_at hl 0 rfl) ?_
  refine lv_aload_n hx hb dX4_passByLaw_1 rfl (lv_at hl 0 rfl) ?_
  refine wk_getR 1 C0 fl_X4_18 hP (isN_lt hc0) (isN_sh hc0).2.1 rfl dX4_passByLaw_2 ?_
  refine lv_aload_n hx hb dX4_passByLaw_5 rfl (lv_at hl 0 rfl) ?_
  refine wk_getI C0 fl_X4_31 hP (isN_lt hc0) (isN_sh hc0).2.1 rfl dX4_passByLaw_6 ?_
  refine wk_rip (wk_callV (rest := [.ref (ad c0)]) C0 cl_X4_65 (ok_X0_lawAt hI hw) hP (by decide) sh_1 rfl rfl rfl (Nat.le_of_ble_eq_true rfl) (wk_room (by decide) (by decide)) hl.1 dX4_passByLaw_9 ⟨Nat.le_refl _, Nat.le_refl _⟩) hS (fun r1 H locs hw hP hS => ?_)
  refine wk_rv (wk_callV (rest := []) C0 cl_X4_69 (ok_X4_passHour hI hc0 hw) hP (isN_lt hc0) (isN_sh hc0).2.1 rfl rfl rfl (Nat.le_of_ble_eq_true rfl) (wk_room (by decide) (by decide)) hl.1 dX4_passByLaw_12 ⟨Nat.le_refl _, Nat.le_refl _⟩) hS (fun s2 H locs hw hP hS => ?_)
  exact hret _ _ _ _ _ hw hP hS dX4_passByLaw_15

set_option maxRecDepth 100000 in
set_option maxHeartbeats 4000000 in
theorem ok_X5_forget {l : Launch} {D : va_G} {cA : Nat → ClassId} {ad : Nat → Nat} (hI : wI ad) {sg : Mem} {Q : Mem → Prop} (hw : wp_X5_forget sg Q) : wMv l D cA ad yX5_forget cX5_forget 1 none 1 [.ref (ad 23)] sg Q := by
  refine wk_ofV (by decide) hI (Nat.le_of_ble_eq_true rfl) ?_
  intro p e s m below meth c A QQ ls C0 hret hl hP
  have hx := C0.1
  have hb := C0.2.1
  have hown := C0.2.2.2.1
  have htb := C0.2.2.2.2.1
  have hl : lv_has ls 1 [(0, .ref (ad 23))] := hl
  refine (fun (key : ∀ (H : Heap) (locs : List Loc), wP D cA ad sg H → va_S (wA ad) s.heap H locs → W p l e (rmL 1) s m A below meth c H locs 0 0 QQ (F0 m 0 ls [])) => key _ _ hP va_S.rf) ?_
  intro H locs hP hS
  unfold wp_X5_forget at hw
  refine lv_aload_n hx hb dX5_forget_0 rfl (lv_at hl 0 rfl) ?_
  refine lv_iconst (v := iI 0) hx hb dX5_forget_1 rfl ?_
  refine wk_putI C0 fl_X5_19 rfl rfl hP hS (by decide) sh_23 rfl dX5_forget_2 (fun s1 H locs es1 hP hS => ?_)
  have hw := hw s1 es1
  exact hret _ _ _ _ _ hw hP hS dX5_forget_5

set_option maxRecDepth 100000 in
set_option maxHeartbeats 4000000 in
theorem ok_X5_remember {l : Launch} {D : va_G} {cA : Nat → ClassId} {ad : Nat → Nat} (hI : wI ad) {c1 : Nat} (hc1 : isN c1) {sg : Mem} {Q : Mem → Prop} (hw : wp_X5_remember c1 sg Q) : wMv l D cA ad yX5_remember cX5_remember 2 none 2 [.ref (ad 23), .ref (ad c1)] sg Q := by
  refine wk_ofV (by decide) hI (Nat.le_of_ble_eq_true rfl) ?_
  intro p e s m below meth c A QQ ls C0 hret hl hP
  have hx := C0.1
  have hb := C0.2.1
  have hown := C0.2.2.2.1
  have htb := C0.2.2.2.2.1
  have hl : lv_has ls 2 [(0, .ref (ad 23)), (1, .ref (ad c1))] := hl
  refine (fun (key : ∀ (H : Heap) (locs : List Loc), wP D cA ad sg H → va_S (wA ad) s.heap H locs → W p l e (rmL 2) s m A below meth c H locs 0 0 QQ (F0 m 0 ls [])) => key _ _ hP va_S.rf) ?_
  intro H locs hP hS
  unfold wp_X5_remember at hw
  refine lv_aload_n hx hb dX5_remember_0 rfl (lv_at hl 0 rfl) ?_
  refine wk_getR 24 C0 fl_X5_9 hP (by decide) sh_23 rfl dX5_remember_1 ?_
  refine lv_aload_n hx hb dX5_remember_4 rfl (lv_at hl 0 rfl) ?_
  refine wk_getI C0 fl_X5_23 hP (by decide) sh_23 rfl dX5_remember_5 ?_
  refine lv_aload_n hx hb dX5_remember_8 rfl (lv_at hl 1 rfl) ?_
  refine wk_rlp (wk_callV (rest := [.int (iI (sg 23 3)), .ref (ad 24)]) C0 cl_X5_26 (ok_X4_code hI hc1 hw) hP (isN_lt hc1) (isN_sh hc1).2.1 rfl rfl rfl (Nat.le_of_ble_eq_true rfl) (wk_room (by decide) (by decide)) hl.1 dX5_remember_9 ⟨Nat.le_refl _, Nat.le_refl _⟩) hS (fun r1 H locs hw hP hS => ?_)
  have q2 := hw.1
  have hw := hw.2
  refine wk_last C0 hP hS (by decide) sh_24 q2.1 q2.2 (by decide) dX5_remember_12 (fun s3 H locs es3 hP hS => ?_)
  have hw := hw s3 es3
  refine lv_aload_n hx hb dX5_remember_13 rfl (lv_at hl 0 rfl) ?_
  refine wk_getR 25 C0 fl_X5_15 hP (by decide) sh_23 rfl dX5_remember_14 ?_
  refine lv_aload_n hx hb dX5_remember_17 rfl (lv_at hl 0 rfl) ?_
  refine wk_getI C0 fl_X5_23 hP (by decide) sh_23 rfl dX5_remember_18 ?_
  refine lv_aload_n hx hb dX5_remember_21 rfl (lv_at hl 1 rfl) ?_
  refine wk_getI C0 fl_X5_32 hP (isN_lt hc1) (isN_sh hc1).2.1 rfl dX5_remember_22 ?_
  have q4 := hw.1
  have hw := hw.2
  refine wk_iast C0 hP hS (by decide) sh_25 q4.1 q4.2 (by decide) dX5_remember_25 (fun s5 H locs es5 hP hS => ?_)
  have hw := hw s5 es5
  refine lv_aload_n hx hb dX5_remember_26 rfl (lv_at hl 0 rfl) ?_
  refine lv_aload_n hx hb dX5_remember_27 rfl (lv_at hl 0 rfl) ?_
  refine wk_getI C0 fl_X5_23 hP (by decide) sh_23 rfl dX5_remember_28 ?_
  refine lv_iconst (v := iI 1) hx hb dX5_remember_31 rfl ?_
  refine wk_iadd hx hb dX5_remember_32 ?_
  refine lv_bipush (v := iI 30) hx hb dX5_remember_33 (by decide +kernel) ?_
  have q6 := hw.1
  have hw := hw.2
  have kX48 : ∀ v7 : Int, v7 = (if 30 ≤ (s5 23 3) + 1 then 0 else (s5 23 3) + 1) → ∀ (ls : Array Slot), lv_has ls 2 [(0, .ref (ad 23))] → W p l e (rmL 2) s m A below meth c H locs 0 0 QQ (F0 m 48 ls [.int (iI v7), .ref (ad 23)]) := by
    intro v7 ev7 ls hl
    have hw := hw v7 ev7
    refine wk_putI C0 fl_X5_23 rfl rfl hP hS (by decide) sh_23 rfl dX5_remember_48 (fun s8 H locs es8 hP hS => ?_)
    have hw := hw s8 es8
    refine lv_aload_n hx hb dX5_remember_51 rfl (lv_at hl 0 rfl) ?_
    refine lv_aload_n hx hb dX5_remember_52 rfl (lv_at hl 0 rfl) ?_
    refine wk_getI C0 fl_X5_19 hP (by decide) sh_23 rfl dX5_remember_53 ?_
    refine lv_iconst (v := iI 1) hx hb dX5_remember_56 rfl ?_
    refine wk_iadd hx hb dX5_remember_57 ?_
    refine lv_bipush (v := iI 30) hx hb dX5_remember_58 (by decide +kernel) ?_
    have q9 := hw.1
    have hw := hw.2
    refine wk_min C0 hl.1 (cl_X5_34) q9 ⟨by decide, by decide⟩ (Nat.le_of_ble_eq_true rfl) (Nat.le_of_ble_eq_true rfl) dX5_remember_60 ?_
    refine wk_putI C0 fl_X5_19 rfl rfl hP hS (by decide) sh_23 rfl dX5_remember_63 (fun s10 H locs es10 hP hS => ?_)
    have hw := hw s10 es10
    exact hret _ _ _ _ _ hw hP hS dX5_remember_66
  refine wk_icmp_ge hx hb q6 ⟨by decide, by decide⟩ (tgt := 47) dX5_remember_35 (by decide) (fun hh11 => ?_) (fun hh11 => ?_)
  · refine lv_iconst (v := iI 0) hx hb dX5_remember_47 rfl ?_
    exact kX48 0 (by rw [if_pos hh11]) ls (lv_sub hl [0] rfl)
  · refine lv_aload_n hx hb dX5_remember_38 rfl (lv_at hl 0 rfl) ?_
    refine wk_getI C0 fl_X5_23 hP (by decide) sh_23 rfl dX5_remember_39 ?_
    refine lv_iconst (v := iI 1) hx hb dX5_remember_42 rfl ?_
    refine wk_iadd hx hb dX5_remember_43 ?_
    refine lv_goto (tgt := 48) hx hb dX5_remember_44 (by decide) ?_
    exact kX48 ((s5 23 3) + 1) (by rw [if_neg hh11]) ls (lv_sub hl [0] rfl)

set_option maxRecDepth 100000 in
set_option maxHeartbeats 4000000 in
theorem ok_X5_bringBack {l : Launch} {D : va_G} {cA : Nat → ClassId} {ad : Nat → Nat} (hI : wI ad) {c2 : Nat} (hc2 : isN c2) {a1 : Int} {sg : Mem} {Q : Mem → Prop} (hw : wp_X5_bringBack c2 a1 sg Q) : wMv l D cA ad yX5_bringBack cX5_bringBack 3 none 2 [.ref (ad 23), .int (iI a1), .ref (ad c2)] sg Q := by
  refine wk_ofV (by decide) hI (Nat.le_of_ble_eq_true rfl) ?_
  intro p e s m below meth c A QQ ls C0 hret hl hP
  have hx := C0.1
  have hb := C0.2.1
  have hown := C0.2.2.2.1
  have htb := C0.2.2.2.2.1
  have hl : lv_has ls 3 [(0, .ref (ad 23)), (1, .int (iI a1)), (2, .ref (ad c2))] := hl
  refine (fun (key : ∀ (H : Heap) (locs : List Loc), wP D cA ad sg H → va_S (wA ad) s.heap H locs → W p l e (rmL 2) s m A below meth c H locs 0 0 QQ (F0 m 0 ls [])) => key _ _ hP va_S.rf) ?_
  intro H locs hP hS
  unfold wp_X5_bringBack at hw
  refine lv_iload_n hx hb dX5_bringBack_0 rfl (lv_at hl 1 rfl) ?_
  refine lv_iconst (v := iI 1) hx hb dX5_bringBack_1 rfl ?_
  have q1 := hw.1
  have hw := hw.2
  refine wk_icmp_lt hx hb q1 ⟨by decide, by decide⟩ (tgt := 13) dX5_bringBack_2 (by decide) (fun hh => ?_) (fun hh => ?_)
  · have hw := hw.1 hh
    exact hret _ _ _ _ _ hw hP hS dX5_bringBack_13
  · have hw := hw.2 hh
    refine lv_iload_n hx hb dX5_bringBack_5 rfl (lv_at hl 1 rfl) ?_
    refine lv_aload_n hx hb dX5_bringBack_6 rfl (lv_at hl 0 rfl) ?_
    refine wk_getI C0 fl_X5_19 hP (by decide) sh_23 rfl dX5_bringBack_7 ?_
    have q2 := hw.1
    have hw := hw.2
    refine wk_icmp_le hx hb q1 q2 (tgt := 14) dX5_bringBack_10 (by decide) (fun hh => ?_) (fun hh => ?_)
    · have hw := hw.1 hh
      refine lv_aload_n hx hb dX5_bringBack_14 rfl (lv_at hl 0 rfl) ?_
      refine lv_aload_n hx hb dX5_bringBack_15 rfl (lv_at hl 0 rfl) ?_
      refine wk_getI C0 fl_X5_23 hP (by decide) sh_23 rfl dX5_bringBack_16 ?_
      refine lv_iload_n hx hb dX5_bringBack_19 rfl (lv_at hl 1 rfl) ?_
      have q3 := hw.1
      have hw := hw.2
      have kX41 : ∀ v4 : Int, v4 = (if sg 23 3 < a1 then ((sg 23 3) - a1) + 30 else (sg 23 3) - a1) → ∀ (ls : Array Slot), lv_has ls 3 [(0, .ref (ad 23)), (1, .int (iI a1)), (2, .ref (ad c2))] → W p l e (rmL 2) s m A below meth c H locs 0 0 QQ (F0 m 41 ls [.int (iI v4), .ref (ad 23)]) := by
        intro v4 ev4 ls hl
        have hw := hw v4 ev4
        refine wk_putI C0 fl_X5_23 rfl rfl hP hS (by decide) sh_23 rfl dX5_bringBack_41 (fun s5 H locs es5 hP hS => ?_)
        have hw := hw s5 es5
        refine lv_aload_n hx hb dX5_bringBack_44 rfl (lv_at hl 0 rfl) ?_
        refine lv_dup hx hb dX5_bringBack_45 rfl ?_
        refine wk_getI C0 fl_X5_19 hP (by decide) sh_23 rfl dX5_bringBack_46 ?_
        refine lv_iload_n hx hb dX5_bringBack_49 rfl (lv_at hl 1 rfl) ?_
        refine wk_isub hx hb dX5_bringBack_50 ?_
        refine wk_putI C0 fl_X5_19 rfl rfl hP hS (by decide) sh_23 rfl dX5_bringBack_51 (fun s6 H locs es6 hP hS => ?_)
        have hw := hw s6 es6
        refine lv_aload_n hx hb dX5_bringBack_54 rfl (lv_at hl 2 rfl) ?_
        refine lv_aload_n hx hb dX5_bringBack_55 rfl (lv_at hl 0 rfl) ?_
        refine wk_getR 24 C0 fl_X5_9 hP (by decide) sh_23 rfl dX5_bringBack_56 ?_
        refine lv_aload_n hx hb dX5_bringBack_59 rfl (lv_at hl 0 rfl) ?_
        refine wk_getI C0 fl_X5_23 hP (by decide) sh_23 rfl dX5_bringBack_60 ?_
        have q7 := hw.1
        have hw := hw.2
        refine wk_lald C0 hP (by decide) sh_24 q7.1 q7.2 (by decide) dX5_bringBack_63 ?_
        refine lv_aload_n hx hb dX5_bringBack_64 rfl (lv_at hl 0 rfl) ?_
        refine wk_getR 25 C0 fl_X5_15 hP (by decide) sh_23 rfl dX5_bringBack_65 ?_
        refine lv_aload_n hx hb dX5_bringBack_68 rfl (lv_at hl 0 rfl) ?_
        refine wk_getI C0 fl_X5_23 hP (by decide) sh_23 rfl dX5_bringBack_69 ?_
        refine wk_iald C0 hP (by decide) sh_25 q7.1 q7.2 (by decide) dX5_bringBack_72 ?_
        refine wk_rv (wk_callV (rest := []) C0 cl_X5_40 (ok_X4_setCode hI hc2 hw) hP (isN_lt hc2) (isN_sh hc2).2.1 rfl rfl rfl (Nat.le_of_ble_eq_true rfl) (wk_room (by decide) (by decide)) hl.1 dX5_bringBack_73 ⟨Nat.le_refl _, Nat.le_refl _⟩) hS (fun s8 H locs hw hP hS => ?_)
        exact hret _ _ _ _ _ hw hP hS dX5_bringBack_76
      refine wk_icmp_lt hx hb q3 q1 (tgt := 32) dX5_bringBack_20 (by decide) (fun hh9 => ?_) (fun hh9 => ?_)
      · refine lv_aload_n hx hb dX5_bringBack_32 rfl (lv_at hl 0 rfl) ?_
        refine wk_getI C0 fl_X5_23 hP (by decide) sh_23 rfl dX5_bringBack_33 ?_
        refine lv_iload_n hx hb dX5_bringBack_36 rfl (lv_at hl 1 rfl) ?_
        refine wk_isub hx hb dX5_bringBack_37 ?_
        refine lv_bipush (v := iI 30) hx hb dX5_bringBack_38 (by decide +kernel) ?_
        refine wk_iadd hx hb dX5_bringBack_40 ?_
        exact kX41 (((sg 23 3) - a1) + 30) (by rw [if_pos hh9]) ls (lv_sub hl [0, 1, 2] rfl)
      · refine lv_aload_n hx hb dX5_bringBack_23 rfl (lv_at hl 0 rfl) ?_
        refine wk_getI C0 fl_X5_23 hP (by decide) sh_23 rfl dX5_bringBack_24 ?_
        refine lv_iload_n hx hb dX5_bringBack_27 rfl (lv_at hl 1 rfl) ?_
        refine wk_isub hx hb dX5_bringBack_28 ?_
        refine lv_goto (tgt := 41) hx hb dX5_bringBack_29 (by decide) ?_
        exact kX41 ((sg 23 3) - a1) (by rw [if_neg hh9]) ls (lv_sub hl [0, 1, 2] rfl)
    · have hw := hw.2 hh
      exact hret _ _ _ _ _ hw hP hS dX5_bringBack_13

set_option maxRecDepth 100000 in
set_option maxHeartbeats 4000000 in
theorem ok_X6_add {l : Launch} {D : va_G} {cA : Nat → ClassId} {ad : Nat → Nat} (hI : wI ad) {a1 : Int} {sg : Mem} {Q : Int → Mem → Prop} (hw : wp_X6_add a1 sg Q) : wMi l D cA ad yX6_add cX6_add 2 (some .boolean) 1 [.ref (ad 8), .int (iI a1)] sg Q := by
  refine wk_ofZ (by decide) hI (Nat.le_of_ble_eq_true rfl) ?_
  intro p e s m below meth c A QQ ls C0 hret hl hP
  have hx := C0.1
  have hb := C0.2.1
  have hown := C0.2.2.2.1
  have htb := C0.2.2.2.2.1
  have hl : lv_has ls 2 [(0, .ref (ad 8)), (1, .int (iI a1))] := hl
  refine (fun (key : ∀ (H : Heap) (locs : List Loc), wP D cA ad sg H → va_S (wA ad) s.heap H locs → W p l e (rmL 1) s m A below meth c H locs 0 0 QQ (F0 m 0 ls [])) => key _ _ hP va_S.rf) ?_
  intro H locs hP hS
  unfold wp_X6_add at hw
  refine lv_aload_n hx hb dX6_add_0 rfl (lv_at hl 0 rfl) ?_
  refine wk_getI C0 fl_X6_26 hP (by decide) sh_8 rfl dX6_add_1 ?_
  refine lv_sipush (v := iI 200) hx hb dX6_add_4 (by decide +kernel) ?_
  have q1 := hw.1
  have hw := hw.2
  refine wk_icmp_lt hx hb q1 ⟨by decide, by decide⟩ (tgt := 12) dX6_add_7 (by decide) (fun hh => ?_) (fun hh => ?_)
  · have hw := hw.1 hh
    refine lv_aload_n hx hb dX6_add_12 rfl (lv_at hl 0 rfl) ?_
    refine wk_getR 9 C0 fl_X6_9 hP (by decide) sh_8 rfl dX6_add_13 ?_
    refine lv_aload_n hx hb dX6_add_16 rfl (lv_at hl 0 rfl) ?_
    refine wk_getI C0 fl_X6_26 hP (by decide) sh_8 rfl dX6_add_17 ?_
    refine lv_iload_n hx hb dX6_add_20 rfl (lv_at hl 1 rfl) ?_
    have q2 := hw.1
    have hw := hw.2
    refine wk_iast C0 hP hS (by decide) sh_9 q2.1 q2.2 (by decide) dX6_add_21 (fun s3 H locs es3 hP hS => ?_)
    have hw := hw s3 es3
    refine lv_aload_n hx hb dX6_add_22 rfl (lv_at hl 0 rfl) ?_
    refine lv_dup hx hb dX6_add_23 rfl ?_
    refine wk_getI C0 fl_X6_26 hP (by decide) sh_8 rfl dX6_add_24 ?_
    refine lv_iconst (v := iI 1) hx hb dX6_add_27 rfl ?_
    refine wk_iadd hx hb dX6_add_28 ?_
    refine wk_putI C0 fl_X6_26 rfl rfl hP hS (by decide) sh_8 rfl dX6_add_29 (fun s4 H locs es4 hP hS => ?_)
    have hw := hw s4 es4
    refine lv_iconst (v := iI 1) hx hb dX6_add_32 rfl ?_
    exact hret _ _ _ _ _ _ (by decide) hw hP hS dX6_add_33
  · have hw := hw.2 hh
    refine lv_iconst (v := iI 0) hx hb dX6_add_10 rfl ?_
    exact hret _ _ _ _ _ _ (by decide) hw hP hS dX6_add_11

set_option maxRecDepth 100000 in
set_option maxHeartbeats 4000000 in
theorem ok_X6_skipBlanks {l : Launch} {D : va_G} {cA : Nat → ClassId} {ad : Nat → Nat} (hI : wI ad) {sg : Mem} {Q : Mem → Prop} (hw : wp_X6_skipBlanks sg Q) : wMv l D cA ad yX6_skipBlanks cX6_skipBlanks 1 none 1 [.ref (ad 8)] sg Q := by
  refine wk_ofV (by decide) hI (Nat.le_of_ble_eq_true rfl) ?_
  intro p e s m below meth c A QQ ls C0 hret hl hP
  have hx := C0.1
  have hb := C0.2.1
  have hown := C0.2.2.2.1
  have htb := C0.2.2.2.2.1
  have hl : lv_has ls 1 [(0, .ref (ad 8))] := hl
  refine (fun (key : ∀ (H : Heap) (locs : List Loc), wP D cA ad sg H → va_S (wA ad) s.heap H locs → W p l e (rmL 1) s m A below meth c H locs 0 0 QQ (F0 m 0 ls [])) => key _ _ hP va_S.rf) ?_
  intro H locs hP hS
  unfold wp_X6_skipBlanks at hw
  obtain ⟨I0, hI0, hw⟩ := hw
  have kI0 : ∀ (k0 : Nat) (s1 : Mem) (H : Heap) (locs : List Loc) (ls : Array Slot), wP D cA ad s1 H → va_S (wA ad) s.heap H locs → lv_has ls 1 [(0, .ref (ad 8))] → I0 k0 s1 → W p l e (rmL 1) s m A below meth c H locs 0 0 QQ (F0 m 0 ls []) := by
    intro k0
    induction k0 using Nat.strongRecOn with
    | _ k0 ih0 =>
      intro s1 H locs ls hP hS hl hw
      have hw := hI0 k0 s1 hw
      refine lv_aload_n hx hb dX6_skipBlanks_0 rfl (lv_at hl 0 rfl) ?_
      refine wk_getI C0 fl_X6_32 hP (by decide) sh_8 rfl dX6_skipBlanks_1 ?_
      refine lv_aload_n hx hb dX6_skipBlanks_4 rfl (lv_at hl 0 rfl) ?_
      refine wk_getI C0 fl_X6_26 hP (by decide) sh_8 rfl dX6_skipBlanks_5 ?_
      have q2 := hw.1
      have hw := hw.2
      have q3 := hw.1
      have hw := hw.2
      refine wk_icmp_ge hx hb q2 q3 (tgt := 38) dX6_skipBlanks_8 (by decide) (fun hh => ?_) (fun hh => ?_)
      · have hw := hw.1 hh
        exact hret _ _ _ _ _ hw hP hS dX6_skipBlanks_38
      · have hw := hw.2 hh
        refine lv_aload_n hx hb dX6_skipBlanks_11 rfl (lv_at hl 0 rfl) ?_
        refine wk_getR 9 C0 fl_X6_9 hP (by decide) sh_8 rfl dX6_skipBlanks_12 ?_
        refine lv_aload_n hx hb dX6_skipBlanks_15 rfl (lv_at hl 0 rfl) ?_
        refine wk_getI C0 fl_X6_32 hP (by decide) sh_8 rfl dX6_skipBlanks_16 ?_
        have q4 := hw.1
        have hw := hw.2
        refine wk_iald C0 hP (by decide) sh_9 q4.1 q4.2 (by decide) dX6_skipBlanks_19 ?_
        refine lv_bipush (v := iI 32) hx hb dX6_skipBlanks_20 (by decide +kernel) ?_
        have q5 := hw.1
        have hw := hw.2
        refine wk_icmp_ne hx hb q5 ⟨by decide, by decide⟩ (tgt := 38) dX6_skipBlanks_22 (by decide) (fun hh => ?_) (fun hh => ?_)
        · have hw := hw.2 hh
          exact hret _ _ _ _ _ hw hP hS dX6_skipBlanks_38
        · have hw := hw.1 hh
          refine lv_aload_n hx hb dX6_skipBlanks_25 rfl (lv_at hl 0 rfl) ?_
          refine lv_dup hx hb dX6_skipBlanks_26 rfl ?_
          refine wk_getI C0 fl_X6_32 hP (by decide) sh_8 rfl dX6_skipBlanks_27 ?_
          refine lv_iconst (v := iI 1) hx hb dX6_skipBlanks_30 rfl ?_
          refine wk_iadd hx hb dX6_skipBlanks_31 ?_
          refine wk_putI C0 fl_X6_32 rfl rfl hP hS (by decide) sh_8 rfl dX6_skipBlanks_32 (fun s6 H locs es6 hP hS => ?_)
          have hw := hw s6 es6
          refine lv_goto (tgt := 0) hx hb dX6_skipBlanks_35 (by decide) ?_
          obtain ⟨k7, hk7, hw⟩ := hw
          exact ih0 k7 hk7 s6 _ _ _ hP hS (lv_sub hl [0] rfl) hw
  obtain ⟨k8, hw⟩ := hw
  exact kI0 k8 sg _ _ _ hP hS (lv_sub hl [0] rfl) hw

set_option maxRecDepth 100000 in
set_option maxHeartbeats 4000000 in
theorem ok_X6_blame {l : Launch} {D : va_G} {cA : Nat → ClassId} {ad : Nat → Nat} (hI : wI ad) {a1 : Int} {a2 : Int} {sg : Mem} {Q : Mem → Prop} (hw : wp_X6_blame a1 a2 sg Q) : wMv l D cA ad yX6_blame cX6_blame 3 none 1 [.ref (ad 8), .int (iI a1), .int (iI a2)] sg Q := by
  refine wk_ofV (by decide) hI (Nat.le_of_ble_eq_true rfl) ?_
  intro p e s m below meth c A QQ ls C0 hret hl hP
  have hx := C0.1
  have hb := C0.2.1
  have hown := C0.2.2.2.1
  have htb := C0.2.2.2.2.1
  have hl : lv_has ls 3 [(0, .ref (ad 8)), (1, .int (iI a1)), (2, .int (iI a2))] := hl
  refine (fun (key : ∀ (H : Heap) (locs : List Loc), wP D cA ad sg H → va_S (wA ad) s.heap H locs → W p l e (rmL 1) s m A below meth c H locs 0 0 QQ (F0 m 0 ls [])) => key _ _ hP va_S.rf) ?_
  intro H locs hP hS
  unfold wp_X6_blame at hw
  refine lv_aload_n hx hb dX6_blame_0 rfl (lv_at hl 0 rfl) ?_
  refine wk_getI C0 fl_X6_35 hP (by decide) sh_8 rfl dX6_blame_1 ?_
  have q1 := hw.1
  have hw := hw.2
  refine wk_if_ne hx hb q1 (tgt := 17) dX6_blame_4 (by decide) (fun hh => ?_) (fun hh => ?_)
  · have hw := hw.2 hh
    exact hret _ _ _ _ _ hw hP hS dX6_blame_17
  · have hw := hw.1 hh
    refine lv_aload_n hx hb dX6_blame_7 rfl (lv_at hl 0 rfl) ?_
    refine lv_iload_n hx hb dX6_blame_8 rfl (lv_at hl 1 rfl) ?_
    refine wk_putI C0 fl_X6_35 rfl rfl hP hS (by decide) sh_8 rfl dX6_blame_9 (fun s2 H locs es2 hP hS => ?_)
    have hw := hw s2 es2
    refine lv_aload_n hx hb dX6_blame_12 rfl (lv_at hl 0 rfl) ?_
    refine lv_iload_n hx hb dX6_blame_13 rfl (lv_at hl 2 rfl) ?_
    refine wk_putI C0 fl_X6_22 rfl rfl hP hS (by decide) sh_8 rfl dX6_blame_14 (fun s3 H locs es3 hP hS => ?_)
    have hw := hw s3 es3
    exact hret _ _ _ _ _ hw hP hS dX6_blame_17

set_option maxRecDepth 100000 in
set_option maxHeartbeats 4000000 in
theorem ok_X6_readNumber {l : Launch} {D : va_G} {cA : Nat → ClassId} {ad : Nat → Nat} (hI : wI ad) {a1 : Int} {a2 : Int} {sg : Mem} {Q : Int → Mem → Prop} (hw : wp_X6_readNumber a1 a2 sg Q) : wMi l D cA ad yX6_readNumber cX6_readNumber 4 (some .int) 2 [.ref (ad 8), .int (iI a1), .int (iI a2)] sg Q := by
  refine wk_ofI (by decide) hI (Nat.le_of_ble_eq_true rfl) ?_
  intro p e s m below meth c A QQ ls C0 hret hl hP
  have hx := C0.1
  have hb := C0.2.1
  have hown := C0.2.2.2.1
  have htb := C0.2.2.2.2.1
  have hl : lv_has ls 4 [(0, .ref (ad 8)), (1, .int (iI a1)), (2, .int (iI a2))] := hl
  refine (fun (key : ∀ (H : Heap) (locs : List Loc), wP D cA ad sg H → va_S (wA ad) s.heap H locs → W p l e (rmL 2) s m A below meth c H locs 0 0 QQ (F0 m 0 ls [])) => key _ _ hP va_S.rf) ?_
  intro H locs hP hS
  unfold wp_X6_readNumber at hw
  refine lv_aload_n hx hb dX6_readNumber_0 rfl (lv_at hl 0 rfl) ?_
  refine wk_getI C0 fl_X6_35 hP (by decide) sh_8 rfl dX6_readNumber_1 ?_
  have q1 := hw.1
  have hw := hw.2
  refine wk_if_eq hx hb q1 (tgt := 9) dX6_readNumber_4 (by decide) (fun hh => ?_) (fun hh => ?_)
  · have hw := hw.1 hh
    refine lv_aload_n hx hb dX6_readNumber_9 rfl (lv_at hl 0 rfl) ?_
    refine wk_rv (wk_callV (rest := []) C0 cl_X6_45 (ok_X6_skipBlanks hI hw) hP (by decide) sh_8 rfl rfl rfl (Nat.le_of_ble_eq_true rfl) (wk_room (by decide) (by decide)) hl.1 dX6_readNumber_10 ⟨Nat.le_refl _, Nat.le_refl _⟩) hS (fun s2 H locs hw hP hS => ?_)
    refine lv_aload_n hx hb dX6_readNumber_13 rfl (lv_at hl 0 rfl) ?_
    refine lv_aload_n hx hb dX6_readNumber_14 rfl (lv_at hl 0 rfl) ?_
    refine wk_getI C0 fl_X6_32 hP (by decide) sh_8 rfl dX6_readNumber_15 ?_
    refine wk_putI C0 fl_X6_80 rfl rfl hP hS (by decide) sh_8 rfl dX6_readNumber_18 (fun s3 H locs es3 hP hS => ?_)
    have hw := hw s3 es3
    refine lv_iconst (v := iI 0) hx hb dX6_readNumber_21 rfl ?_
    refine lv_istore_n (lv' := [(3, .int (iI 0)), (0, .ref (ad 8)), (1, .int (iI a1)), (2, .int (iI a2))]) hx hb dX6_readNumber_22 rfl hl (by decide) rfl (fun ls hl => ?_)
    obtain ⟨I23, hI23, hw⟩ := hw
    have kI23 : ∀ (k23 : Nat) (y3_4 : Int) (s5 : Mem) (H : Heap) (locs : List Loc) (ls : Array Slot), wP D cA ad s5 H → va_S (wA ad) s.heap H locs → lv_has ls 4 [(0, .ref (ad 8)), (1, .int (iI a1)), (2, .int (iI a2)), (3, .int (iI y3_4))] → I23 k23 y3_4 s5 → W p l e (rmL 2) s m A below meth c H locs 0 0 QQ (F0 m 23 ls []) := by
      intro k23
      induction k23 using Nat.strongRecOn with
      | _ k23 ih23 =>
        intro y3_4 s5 H locs ls hP hS hl hw
        have hw := hI23 k23 y3_4 s5 hw
        refine lv_aload_n hx hb dX6_readNumber_23 rfl (lv_at hl 0 rfl) ?_
        refine wk_getI C0 fl_X6_32 hP (by decide) sh_8 rfl dX6_readNumber_24 ?_
        refine lv_aload_n hx hb dX6_readNumber_27 rfl (lv_at hl 0 rfl) ?_
        refine wk_getI C0 fl_X6_26 hP (by decide) sh_8 rfl dX6_readNumber_28 ?_
        have q6 := hw.1
        have hw := hw.2
        have q7 := hw.1
        have hw := hw.2
        obtain ⟨X106, hX106, hw⟩ := hw
        have kX106 : ∀ (H : Heap) (locs : List Loc) (ls : Array Slot), wP D cA ad s5 H → va_S (wA ad) s.heap H locs → lv_has ls 4 [(0, .ref (ad 8)), (1, .int (iI a1)), (2, .int (iI a2)), (3, .int (iI y3_4))] → X106 → W p l e (rmL 2) s m A below meth c H locs 0 0 QQ (F0 m 106 ls []) := by
          intro H locs ls hP hS hl hw
          have hw := hX106 hw
          refine lv_aload_n hx hb dX6_readNumber_106 rfl (lv_at hl 0 rfl) ?_
          refine wk_getI C0 fl_X6_32 hP (by decide) sh_8 rfl dX6_readNumber_107 ?_
          refine lv_aload_n hx hb dX6_readNumber_110 rfl (lv_at hl 0 rfl) ?_
          refine wk_getI C0 fl_X6_80 hP (by decide) sh_8 rfl dX6_readNumber_111 ?_
          have q8 := hw.1
          have hw := hw.2
          refine wk_icmp_ne hx hb q6 q8 (tgt := 129) dX6_readNumber_114 (by decide) (fun hh => ?_) (fun hh => ?_)
          · have hw := hw.2 hh
            refine lv_aload_n hx hb dX6_readNumber_129 rfl (lv_at hl 0 rfl) ?_
            refine wk_getI C0 fl_X6_32 hP (by decide) sh_8 rfl dX6_readNumber_130 ?_
            refine lv_aload_n hx hb dX6_readNumber_133 rfl (lv_at hl 0 rfl) ?_
            refine wk_getI C0 fl_X6_80 hP (by decide) sh_8 rfl dX6_readNumber_134 ?_
            refine wk_isub hx hb dX6_readNumber_137 ?_
            refine lv_iconst (v := iI 3) hx hb dX6_readNumber_138 rfl ?_
            have q10 := hw.1
            have hw := hw.2
            obtain ⟨X152, hX152, hw⟩ := hw
            have kX152 : ∀ (H : Heap) (locs : List Loc) (ls : Array Slot), wP D cA ad s5 H → va_S (wA ad) s.heap H locs → lv_has ls 4 [(0, .ref (ad 8)), (3, .int (iI y3_4))] → X152 → W p l e (rmL 2) s m A below meth c H locs 0 0 QQ (F0 m 152 ls []) := by
              intro H locs ls hP hS hl hw
              have hw := hX152 hw
              refine lv_aload_n hx hb dX6_readNumber_152 rfl (lv_at hl 0 rfl) ?_
              refine lv_iconst (v := iI 2) hx hb dX6_readNumber_153 rfl ?_
              refine lv_aload_n hx hb dX6_readNumber_154 rfl (lv_at hl 0 rfl) ?_
              refine wk_getI C0 fl_X6_80 hP (by decide) sh_8 rfl dX6_readNumber_155 ?_
              refine wk_rv (wk_callV (rest := []) C0 cl_X6_57 (ok_X6_blame hI hw) hP (by decide) sh_8 rfl rfl rfl (Nat.le_of_ble_eq_true rfl) (wk_room (by decide) (by decide)) hl.1 dX6_readNumber_158 ⟨Nat.le_refl _, Nat.le_refl _⟩) hS (fun s11 H locs hw hP hS => ?_)
              refine lv_iload_n hx hb dX6_readNumber_161 rfl (lv_at hl 1 rfl) ?_
              exact hret _ _ _ _ _ _ hw hP hS dX6_readNumber_162
            refine wk_icmp_gt hx hb q10 ⟨by decide, by decide⟩ (tgt := 152) dX6_readNumber_139 (by decide) (fun hh => ?_) (fun hh => ?_)
            · have hw := hw.1 hh
              exact kX152  _ _ _ hP hS (lv_sub hl [0, 3] rfl) hw
            · have hw := hw.2 hh
              refine lv_iload_n hx hb dX6_readNumber_142 rfl (lv_at hl 3 rfl) ?_
              refine lv_iload_n hx hb dX6_readNumber_143 rfl (lv_at hl 1 rfl) ?_
              have q12 := hw.1
              have hw := hw.2
              have q13 := hw.1
              have hw := hw.2
              refine wk_icmp_lt hx hb q12 q13 (tgt := 152) dX6_readNumber_144 (by decide) (fun hh => ?_) (fun hh => ?_)
              · have hw := hw.1 hh
                exact kX152  _ _ _ hP hS (lv_sub hl [0, 3] rfl) hw
              · have hw := hw.2 hh
                refine lv_iload_n hx hb dX6_readNumber_147 rfl (lv_at hl 3 rfl) ?_
                refine lv_iload_n hx hb dX6_readNumber_148 rfl (lv_at hl 2 rfl) ?_
                have q14 := hw.1
                have hw := hw.2
                refine wk_icmp_le hx hb q12 q14 (tgt := 161) dX6_readNumber_149 (by decide) (fun hh => ?_) (fun hh => ?_)
                · have hw := hw.1 hh
                  refine lv_iload_n hx hb dX6_readNumber_161 rfl (lv_at hl 3 rfl) ?_
                  exact hret _ _ _ _ _ _ hw hP hS dX6_readNumber_162
                · have hw := hw.2 hh
                  exact kX152  _ _ _ hP hS (lv_sub hl [0, 3] rfl) hw
          · have hw := hw.1 hh
            refine lv_aload_n hx hb dX6_readNumber_117 rfl (lv_at hl 0 rfl) ?_
            refine lv_iconst (v := iI 1) hx hb dX6_readNumber_118 rfl ?_
            refine lv_aload_n hx hb dX6_readNumber_119 rfl (lv_at hl 0 rfl) ?_
            refine wk_getI C0 fl_X6_32 hP (by decide) sh_8 rfl dX6_readNumber_120 ?_
            refine wk_rv (wk_callV (rest := []) C0 cl_X6_57 (ok_X6_blame hI hw) hP (by decide) sh_8 rfl rfl rfl (Nat.le_of_ble_eq_true rfl) (wk_room (by decide) (by decide)) hl.1 dX6_readNumber_123 ⟨Nat.le_refl _, Nat.le_refl _⟩) hS (fun s9 H locs hw hP hS => ?_)
            refine lv_goto (tgt := 161) hx hb dX6_readNumber_126 (by decide) ?_
            refine lv_iload_n hx hb dX6_readNumber_161 rfl (lv_at hl 3 rfl) ?_
            exact hret _ _ _ _ _ _ hw hP hS dX6_readNumber_162
        refine wk_icmp_ge hx hb q6 q7 (tgt := 106) dX6_readNumber_31 (by decide) (fun hh => ?_) (fun hh => ?_)
        · have hw := hw.1 hh
          exact kX106  _ _ _ hP hS (lv_sub hl [0, 1, 2, 3] rfl) hw
        · have hw := hw.2 hh
          refine lv_aload_n hx hb dX6_readNumber_34 rfl (lv_at hl 0 rfl) ?_
          refine wk_getR 9 C0 fl_X6_9 hP (by decide) sh_8 rfl dX6_readNumber_35 ?_
          refine lv_aload_n hx hb dX6_readNumber_38 rfl (lv_at hl 0 rfl) ?_
          refine wk_getI C0 fl_X6_32 hP (by decide) sh_8 rfl dX6_readNumber_39 ?_
          have q15 := hw.1
          have hw := hw.2
          refine wk_iald C0 hP (by decide) sh_9 q15.1 q15.2 (by decide) dX6_readNumber_42 ?_
          refine lv_bipush (v := iI 48) hx hb dX6_readNumber_43 (by decide +kernel) ?_
          have q16 := hw.1
          have hw := hw.2
          refine wk_icmp_lt hx hb q16 ⟨by decide, by decide⟩ (tgt := 106) dX6_readNumber_45 (by decide) (fun hh => ?_) (fun hh => ?_)
          · have hw := hw.1 hh
            exact kX106  _ _ _ hP hS (lv_sub hl [0, 1, 2, 3] rfl) hw
          · have hw := hw.2 hh
            refine lv_aload_n hx hb dX6_readNumber_48 rfl (lv_at hl 0 rfl) ?_
            refine wk_getR 9 C0 fl_X6_9 hP (by decide) sh_8 rfl dX6_readNumber_49 ?_
            refine lv_aload_n hx hb dX6_readNumber_52 rfl (lv_at hl 0 rfl) ?_
            refine wk_getI C0 fl_X6_32 hP (by decide) sh_8 rfl dX6_readNumber_53 ?_
            refine wk_iald C0 hP (by decide) sh_9 q15.1 q15.2 (by decide) dX6_readNumber_56 ?_
            refine lv_bipush (v := iI 57) hx hb dX6_readNumber_57 (by decide +kernel) ?_
            refine wk_icmp_gt hx hb q16 ⟨by decide, by decide⟩ (tgt := 106) dX6_readNumber_59 (by decide) (fun hh => ?_) (fun hh => ?_)
            · have hw := hw.1 hh
              exact kX106  _ _ _ hP hS (lv_sub hl [0, 1, 2, 3] rfl) hw
            · have hw := hw.2 hh
              refine lv_aload_n hx hb dX6_readNumber_62 rfl (lv_at hl 0 rfl) ?_
              refine wk_getI C0 fl_X6_32 hP (by decide) sh_8 rfl dX6_readNumber_63 ?_
              refine lv_aload_n hx hb dX6_readNumber_66 rfl (lv_at hl 0 rfl) ?_
              refine wk_getI C0 fl_X6_80 hP (by decide) sh_8 rfl dX6_readNumber_67 ?_
              refine wk_isub hx hb dX6_readNumber_70 ?_
              refine lv_iconst (v := iI 3) hx hb dX6_readNumber_71 rfl ?_
              have q17 := hw.1
              have hw := hw.2
              have kX93 : ∀ y3_18 : Int, y3_18 = (if 3 ≤ (s5 8 4) - (s5 8 6) then y3_4 else ((y3_4 * 10) + (s5 9 (s5 8 4).toNat)) - 48) → ∀ (ls : Array Slot), lv_has ls 4 [(0, .ref (ad 8)), (1, .int (iI a1)), (2, .int (iI a2)), (3, .int (iI y3_18))] → W p l e (rmL 2) s m A below meth c H locs 0 0 QQ (F0 m 93 ls []) := by
                intro y3_18 ey3_18 ls hl
                have hw := hw y3_18 ey3_18
                refine lv_aload_n hx hb dX6_readNumber_93 rfl (lv_at hl 0 rfl) ?_
                refine lv_dup hx hb dX6_readNumber_94 rfl ?_
                refine wk_getI C0 fl_X6_32 hP (by decide) sh_8 rfl dX6_readNumber_95 ?_
                refine lv_iconst (v := iI 1) hx hb dX6_readNumber_98 rfl ?_
                refine wk_iadd hx hb dX6_readNumber_99 ?_
                refine wk_putI C0 fl_X6_32 rfl rfl hP hS (by decide) sh_8 rfl dX6_readNumber_100 (fun s19 H locs es19 hP hS => ?_)
                have hw := hw s19 es19
                refine lv_goto (tgt := 23) hx hb dX6_readNumber_103 (by decide) ?_
                obtain ⟨k20, hk20, hw⟩ := hw
                exact ih23 k20 hk20 y3_18 s19 _ _ _ hP hS (lv_sub hl [0, 1, 2, 3] rfl) hw
              refine wk_icmp_ge hx hb q17 ⟨by decide, by decide⟩ (tgt := 93) dX6_readNumber_72 (by decide) (fun hh21 => ?_) (fun hh21 => ?_)
              · exact kX93 y3_4 (by rw [if_pos hh21]) ls (lv_sub hl [0, 1, 2, 3] rfl)
              · refine lv_iload_n hx hb dX6_readNumber_75 rfl (lv_at hl 3 rfl) ?_
                refine lv_bipush (v := iI 10) hx hb dX6_readNumber_76 (by decide +kernel) ?_
                refine wk_imul hx hb dX6_readNumber_78 ?_
                refine lv_aload_n hx hb dX6_readNumber_79 rfl (lv_at hl 0 rfl) ?_
                refine wk_getR 9 C0 fl_X6_9 hP (by decide) sh_8 rfl dX6_readNumber_80 ?_
                refine lv_aload_n hx hb dX6_readNumber_83 rfl (lv_at hl 0 rfl) ?_
                refine wk_getI C0 fl_X6_32 hP (by decide) sh_8 rfl dX6_readNumber_84 ?_
                refine wk_iald C0 hP (by decide) sh_9 q15.1 q15.2 (by decide) dX6_readNumber_87 ?_
                refine wk_iadd hx hb dX6_readNumber_88 ?_
                refine lv_bipush (v := iI 48) hx hb dX6_readNumber_89 (by decide +kernel) ?_
                refine wk_isub hx hb dX6_readNumber_91 ?_
                refine lv_istore_n (lv' := [(3, .int (iI (((y3_4 * 10) + (s5 9 (s5 8 4).toNat)) - 48))), (0, .ref (ad 8)), (1, .int (iI a1)), (2, .int (iI a2))]) hx hb dX6_readNumber_92 rfl hl (by decide) rfl (fun ls hl => ?_)
                exact kX93 (((y3_4 * 10) + (s5 9 (s5 8 4).toNat)) - 48) (by rw [if_neg hh21]) ls (lv_sub hl [1, 2, 3, 0] rfl)
    obtain ⟨k22, hw⟩ := hw
    exact kI23 k22 0 s3 _ _ _ hP hS (lv_sub hl [1, 2, 3, 0] rfl) hw
  · have hw := hw.2 hh
    refine lv_iconst (v := iI 0) hx hb dX6_readNumber_7 rfl ?_
    exact hret _ _ _ _ _ _ hw hP hS dX6_readNumber_8

set_option maxRecDepth 100000 in
set_option maxHeartbeats 4000000 in
theorem ok_X6_nextIs {l : Launch} {D : va_G} {cA : Nat → ClassId} {ad : Nat → Nat} (hI : wI ad) {a1 : Int} {sg : Mem} {Q : Int → Mem → Prop} (hw : wp_X6_nextIs a1 sg Q) : wMi l D cA ad yX6_nextIs cX6_nextIs 2 (some .boolean) 2 [.ref (ad 8), .int (iI a1)] sg Q := by
  refine wk_ofZ (by decide) hI (Nat.le_of_ble_eq_true rfl) ?_
  intro p e s m below meth c A QQ ls C0 hret hl hP
  have hx := C0.1
  have hb := C0.2.1
  have hown := C0.2.2.2.1
  have htb := C0.2.2.2.2.1
  have hl : lv_has ls 2 [(0, .ref (ad 8)), (1, .int (iI a1))] := hl
  refine (fun (key : ∀ (H : Heap) (locs : List Loc), wP D cA ad sg H → va_S (wA ad) s.heap H locs → W p l e (rmL 2) s m A below meth c H locs 0 0 QQ (F0 m 0 ls [])) => key _ _ hP va_S.rf) ?_
  intro H locs hP hS
  unfold wp_X6_nextIs at hw
  refine lv_aload_n hx hb dX6_nextIs_0 rfl (lv_at hl 0 rfl) ?_
  refine wk_getI C0 fl_X6_35 hP (by decide) sh_8 rfl dX6_nextIs_1 ?_
  have q1 := hw.1
  have hw := hw.2
  refine wk_if_eq hx hb q1 (tgt := 9) dX6_nextIs_4 (by decide) (fun hh => ?_) (fun hh => ?_)
  · have hw := hw.1 hh
    refine lv_aload_n hx hb dX6_nextIs_9 rfl (lv_at hl 0 rfl) ?_
    refine wk_rv (wk_callV (rest := []) C0 cl_X6_45 (ok_X6_skipBlanks hI hw) hP (by decide) sh_8 rfl rfl rfl (Nat.le_of_ble_eq_true rfl) (wk_room (by decide) (by decide)) hl.1 dX6_nextIs_10 ⟨Nat.le_refl _, Nat.le_refl _⟩) hS (fun s2 H locs hw hP hS => ?_)
    refine lv_aload_n hx hb dX6_nextIs_13 rfl (lv_at hl 0 rfl) ?_
    refine wk_getI C0 fl_X6_32 hP (by decide) sh_8 rfl dX6_nextIs_14 ?_
    refine lv_aload_n hx hb dX6_nextIs_17 rfl (lv_at hl 0 rfl) ?_
    refine wk_getI C0 fl_X6_26 hP (by decide) sh_8 rfl dX6_nextIs_18 ?_
    have q3 := hw.1
    have hw := hw.2
    have q4 := hw.1
    have hw := hw.2
    refine wk_icmp_ge hx hb q3 q4 (tgt := 41) dX6_nextIs_21 (by decide) (fun hh => ?_) (fun hh => ?_)
    · have hw := hw.1 hh
      refine lv_iconst (v := iI 0) hx hb dX6_nextIs_41 rfl ?_
      exact hret _ _ _ _ _ _ (by decide) hw hP hS dX6_nextIs_42
    · have hw := hw.2 hh
      refine lv_aload_n hx hb dX6_nextIs_24 rfl (lv_at hl 0 rfl) ?_
      refine wk_getR 9 C0 fl_X6_9 hP (by decide) sh_8 rfl dX6_nextIs_25 ?_
      refine lv_aload_n hx hb dX6_nextIs_28 rfl (lv_at hl 0 rfl) ?_
      refine wk_getI C0 fl_X6_32 hP (by decide) sh_8 rfl dX6_nextIs_29 ?_
      have q5 := hw.1
      have hw := hw.2
      refine wk_iald C0 hP (by decide) sh_9 q5.1 q5.2 (by decide) dX6_nextIs_32 ?_
      refine lv_iload_n hx hb dX6_nextIs_33 rfl (lv_at hl 1 rfl) ?_
      have q6 := hw.1
      have hw := hw.2
      have q7 := hw.1
      have hw := hw.2
      refine wk_icmp_ne hx hb q6 q7 (tgt := 41) dX6_nextIs_34 (by decide) (fun hh => ?_) (fun hh => ?_)
      · have hw := hw.2 hh
        refine lv_iconst (v := iI 0) hx hb dX6_nextIs_41 rfl ?_
        exact hret _ _ _ _ _ _ (by decide) hw hP hS dX6_nextIs_42
      · have hw := hw.1 hh
        refine lv_iconst (v := iI 1) hx hb dX6_nextIs_37 rfl ?_
        refine lv_goto (tgt := 42) hx hb dX6_nextIs_38 (by decide) ?_
        exact hret _ _ _ _ _ _ (by decide) hw hP hS dX6_nextIs_42
  · have hw := hw.2 hh
    refine lv_iconst (v := iI 0) hx hb dX6_nextIs_7 rfl ?_
    exact hret _ _ _ _ _ _ (by decide) hw hP hS dX6_nextIs_8

set_option maxRecDepth 100000 in
set_option maxHeartbeats 4000000 in
theorem ok_X6_readEnd {l : Launch} {D : va_G} {cA : Nat → ClassId} {ad : Nat → Nat} (hI : wI ad) {sg : Mem} {Q : Mem → Prop} (hw : wp_X6_readEnd sg Q) : wMv l D cA ad yX6_readEnd cX6_readEnd 1 none 3 [.ref (ad 8)] sg Q := by
  refine wk_ofV (by decide) hI (Nat.le_of_ble_eq_true rfl) ?_
  intro p e s m below meth c A QQ ls C0 hret hl hP
  have hx := C0.1
  have hb := C0.2.1
  have hown := C0.2.2.2.1
  have htb := C0.2.2.2.2.1
  have hl : lv_has ls 1 [(0, .ref (ad 8))] := hl
  refine (fun (key : ∀ (H : Heap) (locs : List Loc), wP D cA ad sg H → va_S (wA ad) s.heap H locs → W p l e (rmL 3) s m A below meth c H locs 0 0 QQ (F0 m 0 ls [])) => key _ _ hP va_S.rf) ?_
  intro H locs hP hS
  unfold wp_X6_readEnd at hw
  refine lv_aload_n hx hb dX6_readEnd_0 rfl (lv_at hl 0 rfl) ?_
  refine lv_bipush (v := iI 59) hx hb dX6_readEnd_1 (by decide +kernel) ?_
  refine wk_ri (wk_callV (rest := []) C0 cl_X6_104 (ok_X6_nextIs hI hw) hP (by decide) sh_8 rfl rfl rfl (Nat.le_of_ble_eq_true rfl) (wk_room (by decide) (by decide)) hl.1 dX6_readEnd_3 ⟨Nat.le_refl _, Nat.le_refl _⟩) hS (fun r1 s2 H locs hw hP hS => ?_)
  have q3 := hw.1
  have hw := hw.2
  refine wk_if_eq hx hb q3 (tgt := 22) dX6_readEnd_6 (by decide) (fun hh => ?_) (fun hh => ?_)
  · have hw := hw.1 hh
    refine lv_aload_n hx hb dX6_readEnd_22 rfl (lv_at hl 0 rfl) ?_
    refine lv_iconst (v := iI 1) hx hb dX6_readEnd_23 rfl ?_
    refine lv_aload_n hx hb dX6_readEnd_24 rfl (lv_at hl 0 rfl) ?_
    refine wk_getI C0 fl_X6_32 hP (by decide) sh_8 rfl dX6_readEnd_25 ?_
    refine wk_rv (wk_callV (rest := []) C0 cl_X6_57 (ok_X6_blame hI hw) hP (by decide) sh_8 rfl rfl rfl (Nat.le_of_ble_eq_true rfl) (wk_room (by decide) (by decide)) hl.1 dX6_readEnd_28 ⟨Nat.le_refl _, Nat.le_refl _⟩) hS (fun s4 H locs hw hP hS => ?_)
    exact hret _ _ _ _ _ hw hP hS dX6_readEnd_31
  · have hw := hw.2 hh
    refine lv_aload_n hx hb dX6_readEnd_9 rfl (lv_at hl 0 rfl) ?_
    refine lv_dup hx hb dX6_readEnd_10 rfl ?_
    refine wk_getI C0 fl_X6_32 hP (by decide) sh_8 rfl dX6_readEnd_11 ?_
    refine lv_iconst (v := iI 1) hx hb dX6_readEnd_14 rfl ?_
    refine wk_iadd hx hb dX6_readEnd_15 ?_
    refine wk_putI C0 fl_X6_32 rfl rfl hP hS (by decide) sh_8 rfl dX6_readEnd_16 (fun s5 H locs es5 hP hS => ?_)
    have hw := hw s5 es5
    refine lv_goto (tgt := 31) hx hb dX6_readEnd_19 (by decide) ?_
    exact hret _ _ _ _ _ hw hP hS dX6_readEnd_31

set_option maxRecDepth 100000 in
set_option maxHeartbeats 4000000 in
theorem ok_X6_readPlaces {l : Launch} {D : va_G} {cA : Nat → ClassId} {ad : Nat → Nat} (hI : wI ad) {sg : Mem} {Q : Mem → Prop} (hw : wp_X6_readPlaces sg Q) : wMv l D cA ad yX6_readPlaces cX6_readPlaces 3 none 4 [.ref (ad 8)] sg Q := by
  refine wk_ofV (by decide) hI (Nat.le_of_ble_eq_true rfl) ?_
  intro p e s m below meth c A QQ ls C0 hret hl hP
  have hx := C0.1
  have hb := C0.2.1
  have hown := C0.2.2.2.1
  have htb := C0.2.2.2.2.1
  have hl : lv_has ls 3 [(0, .ref (ad 8))] := hl
  refine (fun (key : ∀ (H : Heap) (locs : List Loc), wP D cA ad sg H → va_S (wA ad) s.heap H locs → W p l e (rmL 4) s m A below meth c H locs 0 0 QQ (F0 m 0 ls [])) => key _ _ hP va_S.rf) ?_
  intro H locs hP hS
  unfold wp_X6_readPlaces at hw
  refine lv_aload_n hx hb dX6_readPlaces_0 rfl (lv_at hl 0 rfl) ?_
  refine lv_dup hx hb dX6_readPlaces_1 rfl ?_
  refine wk_getI C0 fl_X6_32 hP (by decide) sh_8 rfl dX6_readPlaces_2 ?_
  refine lv_iconst (v := iI 1) hx hb dX6_readPlaces_5 rfl ?_
  refine wk_iadd hx hb dX6_readPlaces_6 ?_
  refine wk_putI C0 fl_X6_32 rfl rfl hP hS (by decide) sh_8 rfl dX6_readPlaces_7 (fun s1 H locs es1 hP hS => ?_)
  have hw := hw s1 es1
  refine lv_aload_n hx hb dX6_readPlaces_10 rfl (lv_at hl 0 rfl) ?_
  refine lv_iconst (v := iI 2) hx hb dX6_readPlaces_11 rfl ?_
  refine lv_bipush (v := iI 6) hx hb dX6_readPlaces_12 (by decide +kernel) ?_
  refine wk_ri (wk_callV (rest := []) C0 cl_X6_70 (ok_X6_readNumber hI hw) hP (by decide) sh_8 rfl rfl rfl (Nat.le_of_ble_eq_true rfl) (wk_room (by decide) (by decide)) hl.1 dX6_readPlaces_14 ⟨Nat.le_refl _, Nat.le_refl _⟩) hS (fun r2 s3 H locs hw hP hS => ?_)
  refine lv_istore_n (lv' := [(1, .int (iI r2)), (0, .ref (ad 8))]) hx hb dX6_readPlaces_17 rfl hl (by decide) rfl (fun ls hl => ?_)
  refine lv_aload_n hx hb dX6_readPlaces_18 rfl (lv_at hl 1 rfl) ?_
  refine lv_iconst (v := iI 0) hx hb dX6_readPlaces_19 rfl ?_
  refine lv_iconst (v := iI 1) hx hb dX6_readPlaces_20 rfl ?_
  refine wk_ri (wk_callV (rest := []) C0 cl_X6_70 (ok_X6_readNumber hI hw) hP (by decide) sh_8 rfl rfl rfl (Nat.le_of_ble_eq_true rfl) (wk_room (by decide) (by decide)) hl.1 dX6_readPlaces_21 ⟨Nat.le_refl _, Nat.le_refl _⟩) hS (fun r4 s5 H locs hw hP hS => ?_)
  refine lv_istore_n (lv' := [(2, .int (iI r4)), (1, .int (iI r2)), (0, .ref (ad 8))]) hx hb dX6_readPlaces_24 rfl hl (by decide) rfl (fun ls hl => ?_)
  refine lv_aload_n hx hb dX6_readPlaces_25 rfl (lv_at hl 2 rfl) ?_
  refine wk_rv (wk_callV (rest := []) C0 cl_X6_74 (ok_X6_readEnd hI hw) hP (by decide) sh_8 rfl rfl rfl (Nat.le_of_ble_eq_true rfl) (wk_room (by decide) (by decide)) hl.1 dX6_readPlaces_26 ⟨Nat.le_refl _, Nat.le_refl _⟩) hS (fun s6 H locs hw hP hS => ?_)
  refine lv_aload_n hx hb dX6_readPlaces_29 rfl (lv_at hl 2 rfl) ?_
  refine wk_getI C0 fl_X6_35 hP (by decide) sh_8 rfl dX6_readPlaces_30 ?_
  have q7 := hw.1
  have hw := hw.2
  refine wk_if_ne hx hb q7 (tgt := 61) dX6_readPlaces_33 (by decide) (fun hh => ?_) (fun hh => ?_)
  · have hw := hw.2 hh
    exact hret _ _ _ _ _ hw hP hS dX6_readPlaces_61
  · have hw := hw.1 hh
    refine lv_aload_n hx hb dX6_readPlaces_36 rfl (lv_at hl 2 rfl) ?_
    refine wk_getR 10 C0 fl_X6_18 hP (by decide) sh_8 rfl dX6_readPlaces_37 ?_
    refine lv_iload_n hx hb dX6_readPlaces_40 rfl (lv_at hl 1 rfl) ?_
    refine wk_putI C0 fl_X6_51 rfl rfl hP hS (by decide) sh_10 rfl dX6_readPlaces_41 (fun s8 H locs es8 hP hS => ?_)
    have hw := hw s8 es8
    refine lv_aload_n hx hb dX6_readPlaces_44 rfl (lv_at hl 2 rfl) ?_
    refine wk_getR 10 C0 fl_X6_18 hP (by decide) sh_8 rfl dX6_readPlaces_45 ?_
    refine lv_iload_n hx hb dX6_readPlaces_48 rfl (lv_at hl 0 rfl) ?_
    refine lv_iconst (v := iI 1) hx hb dX6_readPlaces_49 rfl ?_
    have q9 := hw.1
    have hw := hw.2
    have kX58 : ∀ v10 : Int, v10 = (if r4 = 1 then 1 else 0) → ∀ (ls : Array Slot), lv_has ls 3 [] → W p l e (rmL 4) s m A below meth c H locs 0 0 QQ (F0 m 58 ls [.int (iI v10), .ref (ad 10)]) := by
      intro v10 ev10 ls hl
      have hw := hw v10 ev10
      have q11 := hw.1
      have hw := hw.2
      refine wk_putZ C0 fl_X6_77 rfl rfl q11 hP hS (by decide) sh_10 rfl dX6_readPlaces_58 (fun s12 H locs es12 hP hS => ?_)
      have hw := hw s12 es12
      exact hret _ _ _ _ _ hw hP hS dX6_readPlaces_61
    refine wk_icmp_ne hx hb q9 ⟨by decide, by decide⟩ (tgt := 57) dX6_readPlaces_50 (by decide) (fun hh13 => ?_) (fun hh13 => ?_)
    · refine lv_iconst (v := iI 0) hx hb dX6_readPlaces_57 rfl ?_
      exact kX58 0 (by rw [if_neg hh13]) ls (lv_sub hl [] rfl)
    · refine lv_iconst (v := iI 1) hx hb dX6_readPlaces_53 rfl ?_
      refine lv_goto (tgt := 58) hx hb dX6_readPlaces_54 (by decide) ?_
      exact kX58 1 (by rw [if_pos hh13]) ls (lv_sub hl [] rfl)

set_option maxRecDepth 100000 in
set_option maxHeartbeats 4000000 in
theorem ok_X6_readHeat {l : Launch} {D : va_G} {cA : Nat → ClassId} {ad : Nat → Nat} (hI : wI ad) {sg : Mem} {Q : Mem → Prop} (hw : wp_X6_readHeat sg Q) : wMv l D cA ad yX6_readHeat cX6_readHeat 3 none 4 [.ref (ad 8)] sg Q := by
  refine wk_ofV (by decide) hI (Nat.le_of_ble_eq_true rfl) ?_
  intro p e s m below meth c A QQ ls C0 hret hl hP
  have hx := C0.1
  have hb := C0.2.1
  have hown := C0.2.2.2.1
  have htb := C0.2.2.2.2.1
  have hl : lv_has ls 3 [(0, .ref (ad 8))] := hl
  refine (fun (key : ∀ (H : Heap) (locs : List Loc), wP D cA ad sg H → va_S (wA ad) s.heap H locs → W p l e (rmL 4) s m A below meth c H locs 0 0 QQ (F0 m 0 ls [])) => key _ _ hP va_S.rf) ?_
  intro H locs hP hS
  unfold wp_X6_readHeat at hw
  refine lv_aload_n hx hb dX6_readHeat_0 rfl (lv_at hl 0 rfl) ?_
  refine lv_dup hx hb dX6_readHeat_1 rfl ?_
  refine wk_getI C0 fl_X6_32 hP (by decide) sh_8 rfl dX6_readHeat_2 ?_
  refine lv_iconst (v := iI 1) hx hb dX6_readHeat_5 rfl ?_
  refine wk_iadd hx hb dX6_readHeat_6 ?_
  refine wk_putI C0 fl_X6_32 rfl rfl hP hS (by decide) sh_8 rfl dX6_readHeat_7 (fun s1 H locs es1 hP hS => ?_)
  have hw := hw s1 es1
  refine lv_aload_n hx hb dX6_readHeat_10 rfl (lv_at hl 0 rfl) ?_
  refine lv_iconst (v := iI 0) hx hb dX6_readHeat_11 rfl ?_
  refine lv_aload_n hx hb dX6_readHeat_12 rfl (lv_at hl 0 rfl) ?_
  refine wk_getR 10 C0 fl_X6_18 hP (by decide) sh_8 rfl dX6_readHeat_13 ?_
  refine wk_getI C0 fl_X6_51 hP (by decide) sh_10 rfl dX6_readHeat_16 ?_
  refine lv_iconst (v := iI 1) hx hb dX6_readHeat_19 rfl ?_
  refine wk_isub hx hb dX6_readHeat_20 ?_
  refine wk_ri (wk_callV (rest := []) C0 cl_X6_70 (ok_X6_readNumber hI hw) hP (by decide) sh_8 rfl rfl rfl (Nat.le_of_ble_eq_true rfl) (wk_room (by decide) (by decide)) hl.1 dX6_readHeat_21 ⟨Nat.le_refl _, Nat.le_refl _⟩) hS (fun r2 s3 H locs hw hP hS => ?_)
  refine lv_istore_n (lv' := [(1, .int (iI r2)), (0, .ref (ad 8))]) hx hb dX6_readHeat_24 rfl hl (by decide) rfl (fun ls hl => ?_)
  refine lv_aload_n hx hb dX6_readHeat_25 rfl (lv_at hl 1 rfl) ?_
  refine wk_getI C0 fl_X6_35 hP (by decide) sh_8 rfl dX6_readHeat_26 ?_
  have q4 := hw.1
  have hw := hw.2
  obtain ⟨X53, hX53, hw⟩ := hw
  have kX53 : ∀ (s5 : Mem) (H : Heap) (locs : List Loc) (ls : Array Slot), wP D cA ad s5 H → va_S (wA ad) s.heap H locs → lv_has ls 3 [(0, .ref (ad 8)), (1, .int (iI r2))] → X53 s5 → W p l e (rmL 4) s m A below meth c H locs 0 0 QQ (F0 m 53 ls []) := by
    intro s5 H locs ls hP hS hl hw
    have hw := hX53 s5 hw
    refine lv_aload_n hx hb dX6_readHeat_53 rfl (lv_at hl 0 rfl) ?_
    refine lv_iconst (v := iI 0) hx hb dX6_readHeat_54 rfl ?_
    refine lv_bipush (v := iI 9) hx hb dX6_readHeat_55 (by decide +kernel) ?_
    refine wk_ri (wk_callV (rest := []) C0 cl_X6_70 (ok_X6_readNumber hI hw) hP (by decide) sh_8 rfl rfl rfl (Nat.le_of_ble_eq_true rfl) (wk_room (by decide) (by decide)) hl.1 dX6_readHeat_57 ⟨Nat.le_refl _, Nat.le_refl _⟩) hS (fun r6 s7 H locs hw hP hS => ?_)
    refine lv_istore_n (lv' := [(2, .int (iI r6)), (0, .ref (ad 8)), (1, .int (iI r2))]) hx hb dX6_readHeat_60 rfl hl (by decide) rfl (fun ls hl => ?_)
    refine lv_aload_n hx hb dX6_readHeat_61 rfl (lv_at hl 1 rfl) ?_
    refine wk_rv (wk_callV (rest := []) C0 cl_X6_74 (ok_X6_readEnd hI hw) hP (by decide) sh_8 rfl rfl rfl (Nat.le_of_ble_eq_true rfl) (wk_room (by decide) (by decide)) hl.1 dX6_readHeat_62 ⟨Nat.le_refl _, Nat.le_refl _⟩) hS (fun s8 H locs hw hP hS => ?_)
    refine lv_aload_n hx hb dX6_readHeat_65 rfl (lv_at hl 1 rfl) ?_
    refine wk_getI C0 fl_X6_35 hP (by decide) sh_8 rfl dX6_readHeat_66 ?_
    have q9 := hw.1
    have hw := hw.2
    refine wk_if_ne hx hb q9 (tgt := 94) dX6_readHeat_69 (by decide) (fun hh => ?_) (fun hh => ?_)
    · have hw := hw.2 hh
      exact hret _ _ _ _ _ hw hP hS dX6_readHeat_94
    · have hw := hw.1 hh
      refine lv_aload_n hx hb dX6_readHeat_72 rfl (lv_at hl 1 rfl) ?_
      refine wk_getR 10 C0 fl_X6_18 hP (by decide) sh_8 rfl dX6_readHeat_73 ?_
      refine wk_getR 11 C0 fl_X6_83 hP (by decide) sh_10 rfl dX6_readHeat_76 ?_
      refine lv_iload_n hx hb dX6_readHeat_79 rfl (lv_at hl 2 rfl) ?_
      refine lv_iload_n hx hb dX6_readHeat_80 rfl (lv_at hl 0 rfl) ?_
      have q10 := hw.1
      have hw := hw.2
      refine wk_iast C0 hP hS (by decide) sh_11 q10.1 q10.2 (by decide) dX6_readHeat_81 (fun s11 H locs es11 hP hS => ?_)
      have hw := hw s11 es11
      refine lv_aload_n hx hb dX6_readHeat_82 rfl (lv_at hl 1 rfl) ?_
      refine lv_dup hx hb dX6_readHeat_83 rfl ?_
      refine wk_getI C0 fl_X6_38 hP (by decide) sh_8 rfl dX6_readHeat_84 ?_
      refine lv_iconst (v := iI 1) hx hb dX6_readHeat_87 rfl ?_
      refine lv_iload_n hx hb dX6_readHeat_88 rfl (lv_at hl 2 rfl) ?_
      refine wk_ishl hx hb dX6_readHeat_89 ?_
      refine wk_ior hx hb dX6_readHeat_90 ?_
      refine wk_putI C0 fl_X6_38 rfl rfl hP hS (by decide) sh_8 rfl dX6_readHeat_91 (fun s12 H locs es12 hP hS => ?_)
      have hw := hw s12 es12
      exact hret _ _ _ _ _ hw hP hS dX6_readHeat_94
  refine wk_if_ne hx hb q4 (tgt := 53) dX6_readHeat_29 (by decide) (fun hh => ?_) (fun hh => ?_)
  · have hw := hw.2 hh
    exact kX53 s3 _ _ _ hP hS (lv_sub hl [1, 0] rfl) hw
  · have hw := hw.1 hh
    refine lv_aload_n hx hb dX6_readHeat_32 rfl (lv_at hl 1 rfl) ?_
    refine wk_getI C0 fl_X6_38 hP (by decide) sh_8 rfl dX6_readHeat_33 ?_
    refine lv_iload_n hx hb dX6_readHeat_36 rfl (lv_at hl 0 rfl) ?_
    refine wk_ishr hx hb dX6_readHeat_37 ?_
    refine lv_iconst (v := iI 1) hx hb dX6_readHeat_38 rfl ?_
    refine wk_iand hx hb dX6_readHeat_39 ?_
    refine lv_iconst (v := iI 1) hx hb dX6_readHeat_40 rfl ?_
    have q13 := hw.1
    have hw := hw.2
    refine wk_icmp_ne hx hb q13 ⟨by decide, by decide⟩ (tgt := 53) dX6_readHeat_41 (by decide) (fun hh => ?_) (fun hh => ?_)
    · have hw := hw.2 hh
      exact kX53 s3 _ _ _ hP hS (lv_sub hl [1, 0] rfl) hw
    · have hw := hw.1 hh
      refine lv_aload_n hx hb dX6_readHeat_44 rfl (lv_at hl 1 rfl) ?_
      refine lv_iconst (v := iI 4) hx hb dX6_readHeat_45 rfl ?_
      refine lv_aload_n hx hb dX6_readHeat_46 rfl (lv_at hl 1 rfl) ?_
      refine wk_getI C0 fl_X6_80 hP (by decide) sh_8 rfl dX6_readHeat_47 ?_
      refine wk_rv (wk_callV (rest := []) C0 cl_X6_57 (ok_X6_blame hI hw) hP (by decide) sh_8 rfl rfl rfl (Nat.le_of_ble_eq_true rfl) (wk_room (by decide) (by decide)) hl.1 dX6_readHeat_50 ⟨Nat.le_refl _, Nat.le_refl _⟩) hS (fun s14 H locs hw hP hS => ?_)
      exact kX53 s14 _ _ _ hP hS (lv_sub hl [1, 0] rfl) hw

set_option maxRecDepth 100000 in
set_option maxHeartbeats 4000000 in
theorem ok_X6_readSleeper {l : Launch} {D : va_G} {cA : Nat → ClassId} {ad : Nat → Nat} (hI : wI ad) {sg : Mem} {Q : Mem → Prop} (hw : wp_X6_readSleeper sg Q) : wMv l D cA ad yX6_readSleeper cX6_readSleeper 6 none 4 [.ref (ad 8)] sg Q := by
  refine wk_ofV (by decide) hI (Nat.le_of_ble_eq_true rfl) ?_
  intro p e s m below meth c A QQ ls C0 hret hl hP
  have hx := C0.1
  have hb := C0.2.1
  have hown := C0.2.2.2.1
  have htb := C0.2.2.2.2.1
  have hl : lv_has ls 6 [(0, .ref (ad 8))] := hl
  refine (fun (key : ∀ (H : Heap) (locs : List Loc), wP D cA ad sg H → va_S (wA ad) s.heap H locs → W p l e (rmL 4) s m A below meth c H locs 0 0 QQ (F0 m 0 ls [])) => key _ _ hP va_S.rf) ?_
  intro H locs hP hS
  unfold wp_X6_readSleeper at hw
  refine lv_aload_n hx hb dX6_readSleeper_0 rfl (lv_at hl 0 rfl) ?_
  refine wk_getR 10 C0 fl_X6_18 hP (by decide) sh_8 rfl dX6_readSleeper_1 ?_
  refine wk_getI C0 fl_X6_86 hP (by decide) sh_10 rfl dX6_readSleeper_4 ?_
  refine lv_aload_n hx hb dX6_readSleeper_7 rfl (lv_at hl 0 rfl) ?_
  refine wk_getR 10 C0 fl_X6_18 hP (by decide) sh_8 rfl dX6_readSleeper_8 ?_
  refine wk_getI C0 fl_X6_51 hP (by decide) sh_10 rfl dX6_readSleeper_11 ?_
  have q1 := hw.1
  have hw := hw.2
  have q2 := hw.1
  have hw := hw.2
  refine wk_icmp_lt hx hb q1 q2 (tgt := 27) dX6_readSleeper_14 (by decide) (fun hh => ?_) (fun hh => ?_)
  · have hw := hw.1 hh
    refine lv_aload_n hx hb dX6_readSleeper_27 rfl (lv_at hl 0 rfl) ?_
    refine lv_dup hx hb dX6_readSleeper_28 rfl ?_
    refine wk_getI C0 fl_X6_32 hP (by decide) sh_8 rfl dX6_readSleeper_29 ?_
    refine lv_iconst (v := iI 1) hx hb dX6_readSleeper_32 rfl ?_
    refine wk_iadd hx hb dX6_readSleeper_33 ?_
    refine wk_putI C0 fl_X6_32 rfl rfl hP hS (by decide) sh_8 rfl dX6_readSleeper_34 (fun s3 H locs es3 hP hS => ?_)
    have hw := hw s3 es3
    refine lv_aload_n hx hb dX6_readSleeper_37 rfl (lv_at hl 0 rfl) ?_
    refine lv_iconst (v := iI 1) hx hb dX6_readSleeper_38 rfl ?_
    refine lv_bipush (v := iI 99) hx hb dX6_readSleeper_39 (by decide +kernel) ?_
    refine wk_ri (wk_callV (rest := []) C0 cl_X6_70 (ok_X6_readNumber hI hw) hP (by decide) sh_8 rfl rfl rfl (Nat.le_of_ble_eq_true rfl) (wk_room (by decide) (by decide)) hl.1 dX6_readSleeper_41 ⟨Nat.le_refl _, Nat.le_refl _⟩) hS (fun r4 s5 H locs hw hP hS => ?_)
    refine lv_istore_n (lv' := [(1, .int (iI r4)), (0, .ref (ad 8))]) hx hb dX6_readSleeper_44 rfl hl (by decide) rfl (fun ls hl => ?_)
    refine lv_aload_n hx hb dX6_readSleeper_45 rfl (lv_at hl 1 rfl) ?_
    refine lv_iconst (v := iI 0) hx hb dX6_readSleeper_46 rfl ?_
    refine lv_bipush (v := iI 9) hx hb dX6_readSleeper_47 (by decide +kernel) ?_
    refine wk_ri (wk_callV (rest := []) C0 cl_X6_70 (ok_X6_readNumber hI hw) hP (by decide) sh_8 rfl rfl rfl (Nat.le_of_ble_eq_true rfl) (wk_room (by decide) (by decide)) hl.1 dX6_readSleeper_49 ⟨Nat.le_refl _, Nat.le_refl _⟩) hS (fun r6 s7 H locs hw hP hS => ?_)
    refine lv_istore_n (lv' := [(2, .int (iI r6)), (1, .int (iI r4)), (0, .ref (ad 8))]) hx hb dX6_readSleeper_52 rfl hl (by decide) rfl (fun ls hl => ?_)
    refine lv_aload_n hx hb dX6_readSleeper_53 rfl (lv_at hl 2 rfl) ?_
    refine lv_iconst (v := iI 0) hx hb dX6_readSleeper_54 rfl ?_
    refine lv_bipush (v := iI 20) hx hb dX6_readSleeper_55 (by decide +kernel) ?_
    refine wk_ri (wk_callV (rest := []) C0 cl_X6_70 (ok_X6_readNumber hI hw) hP (by decide) sh_8 rfl rfl rfl (Nat.le_of_ble_eq_true rfl) (wk_room (by decide) (by decide)) hl.1 dX6_readSleeper_57 ⟨Nat.le_refl _, Nat.le_refl _⟩) hS (fun r8 s9 H locs hw hP hS => ?_)
    refine lv_istore_n (lv' := [(3, .int (iI r8)), (2, .int (iI r6)), (1, .int (iI r4)), (0, .ref (ad 8))]) hx hb dX6_readSleeper_60 rfl hl (by decide) rfl (fun ls hl => ?_)
    refine lv_aload_n hx hb dX6_readSleeper_61 rfl (lv_at hl 3 rfl) ?_
    refine lv_iconst (v := iI 0) hx hb dX6_readSleeper_62 rfl ?_
    refine lv_bipush (v := iI 98) hx hb dX6_readSleeper_63 (by decide +kernel) ?_
    refine wk_ri (wk_callV (rest := []) C0 cl_X6_70 (ok_X6_readNumber hI hw) hP (by decide) sh_8 rfl rfl rfl (Nat.le_of_ble_eq_true rfl) (wk_room (by decide) (by decide)) hl.1 dX6_readSleeper_65 ⟨Nat.le_refl _, Nat.le_refl _⟩) hS (fun r10 s11 H locs hw hP hS => ?_)
    refine lv_istore (lv' := [(4, .int (iI r10)), (3, .int (iI r8)), (2, .int (iI r6)), (1, .int (iI r4)), (0, .ref (ad 8))]) hx hb dX6_readSleeper_68 hl (by decide) rfl (fun ls hl => ?_)
    refine lv_aload_n hx hb dX6_readSleeper_70 rfl (lv_at hl 4 rfl) ?_
    refine wk_getI C0 fl_X6_35 hP (by decide) sh_8 rfl dX6_readSleeper_71 ?_
    have q12 := hw.1
    have hw := hw.2
    obtain ⟨X92, hX92, hw⟩ := hw
    have kX92 : ∀ (s13 : Mem) (H : Heap) (locs : List Loc) (ls : Array Slot), wP D cA ad s13 H → va_S (wA ad) s.heap H locs → lv_has ls 6 [(0, .ref (ad 8)), (1, .int (iI r4)), (2, .int (iI r6)), (3, .int (iI r8)), (4, .int (iI r10))] → X92 s13 → W p l e (rmL 4) s m A below meth c H locs 0 0 QQ (F0 m 92 ls []) := by
      intro s13 H locs ls hP hS hl hw
      have hw := hX92 s13 hw
      refine lv_aload_n hx hb dX6_readSleeper_92 rfl (lv_at hl 0 rfl) ?_
      refine wk_rv (wk_callV (rest := []) C0 cl_X6_74 (ok_X6_readEnd hI hw) hP (by decide) sh_8 rfl rfl rfl (Nat.le_of_ble_eq_true rfl) (wk_room (by decide) (by decide)) hl.1 dX6_readSleeper_93 ⟨Nat.le_refl _, Nat.le_refl _⟩) hS (fun s14 H locs hw hP hS => ?_)
      refine lv_aload_n hx hb dX6_readSleeper_96 rfl (lv_at hl 0 rfl) ?_
      refine wk_getI C0 fl_X6_35 hP (by decide) sh_8 rfl dX6_readSleeper_97 ?_
      have q15 := hw.1
      have hw := hw.2
      refine wk_if_ne hx hb q15 (tgt := 168) dX6_readSleeper_100 (by decide) (fun hh => ?_) (fun hh => ?_)
      · have hw := hw.2 hh
        exact hret _ _ _ _ _ hw hP hS dX6_readSleeper_168
      · have hw := hw.1 hh
        refine lv_aload_n hx hb dX6_readSleeper_103 rfl (lv_at hl 0 rfl) ?_
        refine wk_getR 10 C0 fl_X6_18 hP (by decide) sh_8 rfl dX6_readSleeper_104 ?_
        refine wk_getI C0 fl_X6_86 hP (by decide) sh_10 rfl dX6_readSleeper_107 ?_
        refine wk_top (fun x5_16 ex5_16 => ?_)
        have hw := hw x5_16 ex5_16
        refine lv_istore (lv' := [(5, .int (iI x5_16)), (0, .ref (ad 8)), (1, .int (iI r4)), (2, .int (iI r6)), (3, .int (iI r8)), (4, .int (iI r10))]) hx hb dX6_readSleeper_110 hl (by decide) rfl (fun ls hl => ?_)
        refine lv_aload_n hx hb dX6_readSleeper_112 rfl (lv_at hl 1 rfl) ?_
        refine wk_getR 10 C0 fl_X6_18 hP (by decide) sh_8 rfl dX6_readSleeper_113 ?_
        refine wk_getR 12 C0 fl_X6_89 hP (by decide) sh_10 rfl dX6_readSleeper_116 ?_
        refine lv_iload hx hb dX6_readSleeper_119 (lv_at hl 0 rfl) ?_
        refine lv_iload_n hx hb dX6_readSleeper_121 rfl (lv_at hl 2 rfl) ?_
        have q17 := hw.1
        have hw := hw.2
        refine wk_iast C0 hP hS (by decide) sh_12 q17.1 q17.2 (by decide) dX6_readSleeper_122 (fun s18 H locs es18 hP hS => ?_)
        have hw := hw s18 es18
        refine lv_aload_n hx hb dX6_readSleeper_123 rfl (lv_at hl 1 rfl) ?_
        refine wk_getR 10 C0 fl_X6_18 hP (by decide) sh_8 rfl dX6_readSleeper_124 ?_
        refine wk_getR 13 C0 fl_X6_92 hP (by decide) sh_10 rfl dX6_readSleeper_127 ?_
        refine lv_iload hx hb dX6_readSleeper_130 (lv_at hl 0 rfl) ?_
        refine lv_iload_n hx hb dX6_readSleeper_132 rfl (lv_at hl 3 rfl) ?_
        refine wk_iast C0 hP hS (by decide) sh_13 q17.1 q17.2 (by decide) dX6_readSleeper_133 (fun s19 H locs es19 hP hS => ?_)
        have hw := hw s19 es19
        refine lv_aload_n hx hb dX6_readSleeper_134 rfl (lv_at hl 1 rfl) ?_
        refine wk_getR 10 C0 fl_X6_18 hP (by decide) sh_8 rfl dX6_readSleeper_135 ?_
        refine wk_getR 14 C0 fl_X6_95 hP (by decide) sh_10 rfl dX6_readSleeper_138 ?_
        refine lv_iload hx hb dX6_readSleeper_141 (lv_at hl 0 rfl) ?_
        refine lv_iload_n hx hb dX6_readSleeper_143 rfl (lv_at hl 4 rfl) ?_
        refine wk_iast C0 hP hS (by decide) sh_14 q17.1 q17.2 (by decide) dX6_readSleeper_144 (fun s20 H locs es20 hP hS => ?_)
        have hw := hw s20 es20
        refine lv_aload_n hx hb dX6_readSleeper_145 rfl (lv_at hl 1 rfl) ?_
        refine wk_getR 10 C0 fl_X6_18 hP (by decide) sh_8 rfl dX6_readSleeper_146 ?_
        refine wk_getR 15 C0 fl_X6_98 hP (by decide) sh_10 rfl dX6_readSleeper_149 ?_
        refine lv_iload hx hb dX6_readSleeper_152 (lv_at hl 0 rfl) ?_
        refine lv_iload hx hb dX6_readSleeper_154 (lv_at hl 5 rfl) ?_
        refine wk_iast C0 hP hS (by decide) sh_15 q17.1 q17.2 (by decide) dX6_readSleeper_156 (fun s21 H locs es21 hP hS => ?_)
        have hw := hw s21 es21
        refine lv_aload_n hx hb dX6_readSleeper_157 rfl (lv_at hl 1 rfl) ?_
        refine wk_getR 10 C0 fl_X6_18 hP (by decide) sh_8 rfl dX6_readSleeper_158 ?_
        refine lv_iload hx hb dX6_readSleeper_161 (lv_at hl 0 rfl) ?_
        refine lv_iconst (v := iI 1) hx hb dX6_readSleeper_163 rfl ?_
        refine wk_iadd hx hb dX6_readSleeper_164 ?_
        refine wk_putI C0 fl_X6_86 rfl rfl hP hS (by decide) sh_10 rfl dX6_readSleeper_165 (fun s22 H locs es22 hP hS => ?_)
        have hw := hw s22 es22
        exact hret _ _ _ _ _ hw hP hS dX6_readSleeper_168
    refine wk_if_ne hx hb q12 (tgt := 92) dX6_readSleeper_74 (by decide) (fun hh => ?_) (fun hh => ?_)
    · have hw := hw.2 hh
      exact kX92 s11 _ _ _ hP hS (lv_sub hl [4, 3, 2, 1, 0] rfl) hw
    · have hw := hw.1 hh
      refine lv_iload hx hb dX6_readSleeper_77 (lv_at hl 0 rfl) ?_
      refine lv_iload_n hx hb dX6_readSleeper_79 rfl (lv_at hl 3 rfl) ?_
      have q23 := hw.1
      have hw := hw.2
      have q24 := hw.1
      have hw := hw.2
      refine wk_icmp_lt hx hb q23 q24 (tgt := 92) dX6_readSleeper_80 (by decide) (fun hh => ?_) (fun hh => ?_)
      · have hw := hw.1 hh
        exact kX92 s11 _ _ _ hP hS (lv_sub hl [4, 3, 2, 1, 0] rfl) hw
      · have hw := hw.2 hh
        refine lv_aload_n hx hb dX6_readSleeper_83 rfl (lv_at hl 4 rfl) ?_
        refine lv_iconst (v := iI 4) hx hb dX6_readSleeper_84 rfl ?_
        refine lv_aload_n hx hb dX6_readSleeper_85 rfl (lv_at hl 4 rfl) ?_
        refine wk_getI C0 fl_X6_80 hP (by decide) sh_8 rfl dX6_readSleeper_86 ?_
        refine wk_rv (wk_callV (rest := []) C0 cl_X6_57 (ok_X6_blame hI hw) hP (by decide) sh_8 rfl rfl rfl (Nat.le_of_ble_eq_true rfl) (wk_room (by decide) (by decide)) hl.1 dX6_readSleeper_89 ⟨Nat.le_refl _, Nat.le_refl _⟩) hS (fun s25 H locs hw hP hS => ?_)
        exact kX92 s25 _ _ _ hP hS (lv_sub hl [4, 3, 2, 1, 0] rfl) hw
  · have hw := hw.2 hh
    refine lv_aload_n hx hb dX6_readSleeper_17 rfl (lv_at hl 0 rfl) ?_
    refine lv_iconst (v := iI 3) hx hb dX6_readSleeper_18 rfl ?_
    refine lv_aload_n hx hb dX6_readSleeper_19 rfl (lv_at hl 0 rfl) ?_
    refine wk_getI C0 fl_X6_32 hP (by decide) sh_8 rfl dX6_readSleeper_20 ?_
    refine wk_rv (wk_callV (rest := []) C0 cl_X6_57 (ok_X6_blame hI hw) hP (by decide) sh_8 rfl rfl rfl (Nat.le_of_ble_eq_true rfl) (wk_room (by decide) (by decide)) hl.1 dX6_readSleeper_23 ⟨Nat.le_refl _, Nat.le_refl _⟩) hS (fun s26 H locs hw hP hS => ?_)
    exact hret _ _ _ _ _ hw hP hS dX6_readSleeper_26

set_option maxRecDepth 100000 in
set_option maxHeartbeats 4000000 in
theorem ok_X6_readLaw {l : Launch} {D : va_G} {cA : Nat → ClassId} {ad : Nat → Nat} (hI : wI ad) {sg : Mem} {Q : Mem → Prop} (hw : wp_X6_readLaw sg Q) : wMv l D cA ad yX6_readLaw cX6_readLaw 3 none 4 [.ref (ad 8)] sg Q := by
  refine wk_ofV (by decide) hI (Nat.le_of_ble_eq_true rfl) ?_
  intro p e s m below meth c A QQ ls C0 hret hl hP
  have hx := C0.1
  have hb := C0.2.1
  have hown := C0.2.2.2.1
  have htb := C0.2.2.2.2.1
  have hl : lv_has ls 3 [(0, .ref (ad 8))] := hl
  refine (fun (key : ∀ (H : Heap) (locs : List Loc), wP D cA ad sg H → va_S (wA ad) s.heap H locs → W p l e (rmL 4) s m A below meth c H locs 0 0 QQ (F0 m 0 ls [])) => key _ _ hP va_S.rf) ?_
  intro H locs hP hS
  unfold wp_X6_readLaw at hw
  refine lv_aload_n hx hb dX6_readLaw_0 rfl (lv_at hl 0 rfl) ?_
  refine wk_getI C0 fl_X6_41 hP (by decide) sh_8 rfl dX6_readLaw_1 ?_
  have q1 := hw.1
  have hw := hw.2
  refine wk_if_eq hx hb q1 (tgt := 17) dX6_readLaw_4 (by decide) (fun hh => ?_) (fun hh => ?_)
  · have hw := hw.1 hh
    refine lv_aload_n hx hb dX6_readLaw_17 rfl (lv_at hl 0 rfl) ?_
    refine lv_dup hx hb dX6_readLaw_18 rfl ?_
    refine wk_getI C0 fl_X6_32 hP (by decide) sh_8 rfl dX6_readLaw_19 ?_
    refine lv_iconst (v := iI 1) hx hb dX6_readLaw_22 rfl ?_
    refine wk_iadd hx hb dX6_readLaw_23 ?_
    refine wk_putI C0 fl_X6_32 rfl rfl hP hS (by decide) sh_8 rfl dX6_readLaw_24 (fun s2 H locs es2 hP hS => ?_)
    have hw := hw s2 es2
    refine lv_aload_n hx hb dX6_readLaw_27 rfl (lv_at hl 0 rfl) ?_
    refine lv_iconst (v := iI 1) hx hb dX6_readLaw_28 rfl ?_
    refine wk_putZ C0 fl_X6_41 rfl rfl (by decide) hP hS (by decide) sh_8 rfl dX6_readLaw_29 (fun s3 H locs es3 hP hS => ?_)
    have hw := hw s3 es3
    refine lv_aload_n hx hb dX6_readLaw_32 rfl (lv_at hl 0 rfl) ?_
    refine wk_getR 10 C0 fl_X6_18 hP (by decide) sh_8 rfl dX6_readLaw_33 ?_
    refine wk_getR 16 C0 fl_X6_101 hP (by decide) sh_10 rfl dX6_readLaw_36 ?_
    refine lv_iconst (v := iI 0) hx hb dX6_readLaw_39 rfl ?_
    refine lv_aload_n hx hb dX6_readLaw_40 rfl (lv_at hl 0 rfl) ?_
    refine lv_iconst (v := iI 0) hx hb dX6_readLaw_41 rfl ?_
    refine lv_iconst (v := iI 3) hx hb dX6_readLaw_42 rfl ?_
    refine wk_ri (wk_callV (rest := [.int (iI 0), .ref (ad 16)]) C0 cl_X6_70 (ok_X6_readNumber hI hw) hP (by decide) sh_8 rfl rfl rfl (Nat.le_of_ble_eq_true rfl) (wk_room (by decide) (by decide)) hl.1 dX6_readLaw_43 ⟨Nat.le_refl _, Nat.le_refl _⟩) hS (fun r4 s5 H locs hw hP hS => ?_)
    refine wk_iast C0 hP hS (by decide) sh_16 (by decide) (by decide) (by decide) dX6_readLaw_46 (fun s6 H locs es6 hP hS => ?_)
    have hw := hw s6 es6
    refine lv_iconst (v := iI 1) hx hb dX6_readLaw_47 rfl ?_
    refine lv_istore_n (lv' := [(1, .int (iI 1)), (0, .ref (ad 8))]) hx hb dX6_readLaw_48 rfl hl (by decide) rfl (fun ls hl => ?_)
    refine lv_iconst (v := iI 1) hx hb dX6_readLaw_49 rfl ?_
    refine lv_istore_n (lv' := [(2, .int (iI 1)), (1, .int (iI 1)), (0, .ref (ad 8))]) hx hb dX6_readLaw_50 rfl hl (by decide) rfl (fun ls hl => ?_)
    obtain ⟨I51, hI51, hw⟩ := hw
    have kI51 : ∀ (k51 : Nat) (y1_7 : Int) (y2_8 : Int) (s9 : Mem) (H : Heap) (locs : List Loc) (ls : Array Slot), wP D cA ad s9 H → va_S (wA ad) s.heap H locs → lv_has ls 3 [(0, .ref (ad 8)), (1, .int (iI y1_7)), (2, .int (iI y2_8))] → I51 k51 y1_7 y2_8 s9 → W p l e (rmL 4) s m A below meth c H locs 0 0 QQ (F0 m 51 ls []) := by
      intro k51
      induction k51 using Nat.strongRecOn with
      | _ k51 ih51 =>
        intro y1_7 y2_8 s9 H locs ls hP hS hl hw
        have hw := hI51 k51 y1_7 y2_8 s9 hw
        refine lv_iload_n hx hb dX6_readLaw_51 rfl (lv_at hl 2 rfl) ?_
        refine lv_bipush (v := iI 8) hx hb dX6_readLaw_52 (by decide +kernel) ?_
        have q10 := hw.1
        have hw := hw.2
        obtain ⟨X100, hX100, hw⟩ := hw
        have kX100 : ∀ (s11 : Mem) (H : Heap) (locs : List Loc) (ls : Array Slot), wP D cA ad s11 H → va_S (wA ad) s.heap H locs → lv_has ls 3 [(0, .ref (ad 8)), (1, .int (iI y1_7))] → X100 s11 → W p l e (rmL 4) s m A below meth c H locs 0 0 QQ (F0 m 100 ls []) := by
          intro s11 H locs ls hP hS hl hw
          have hw := hX100 s11 hw
          refine lv_aload_n hx hb dX6_readLaw_100 rfl (lv_at hl 0 rfl) ?_
          refine wk_getR 10 C0 fl_X6_18 hP (by decide) sh_8 rfl dX6_readLaw_101 ?_
          refine lv_iload_n hx hb dX6_readLaw_104 rfl (lv_at hl 1 rfl) ?_
          refine wk_putI C0 fl_X6_108 rfl rfl hP hS (by decide) sh_10 rfl dX6_readLaw_105 (fun s12 H locs es12 hP hS => ?_)
          have hw := hw s12 es12
          refine lv_aload_n hx hb dX6_readLaw_108 rfl (lv_at hl 0 rfl) ?_
          refine wk_rv (wk_callV (rest := []) C0 cl_X6_74 (ok_X6_readEnd hI hw) hP (by decide) sh_8 rfl rfl rfl (Nat.le_of_ble_eq_true rfl) (wk_room (by decide) (by decide)) hl.1 dX6_readLaw_109 ⟨Nat.le_refl _, Nat.le_refl _⟩) hS (fun s13 H locs hw hP hS => ?_)
          exact hret _ _ _ _ _ hw hP hS dX6_readLaw_112
        refine wk_icmp_ge hx hb q10 ⟨by decide, by decide⟩ (tgt := 100) dX6_readLaw_54 (by decide) (fun hh => ?_) (fun hh => ?_)
        · have hw := hw.1 hh
          exact kX100 s9 _ _ _ hP hS (lv_sub hl [0, 1] rfl) hw
        · have hw := hw.2 hh
          refine lv_aload_n hx hb dX6_readLaw_57 rfl (lv_at hl 0 rfl) ?_
          refine lv_bipush (v := iI 44) hx hb dX6_readLaw_58 (by decide +kernel) ?_
          refine wk_ri (wk_callV (rest := []) C0 cl_X6_104 (ok_X6_nextIs hI hw) hP (by decide) sh_8 rfl rfl rfl (Nat.le_of_ble_eq_true rfl) (wk_room (by decide) (by decide)) hl.1 dX6_readLaw_60 ⟨Nat.le_refl _, Nat.le_refl _⟩) hS (fun r14 s15 H locs hw hP hS => ?_)
          have q16 := hw.1
          have hw := hw.2
          refine wk_if_eq hx hb q16 (tgt := 100) dX6_readLaw_63 (by decide) (fun hh => ?_) (fun hh => ?_)
          · have hw := hw.1 hh
            exact kX100 s15 _ _ _ hP hS (lv_sub hl [0, 1] rfl) hw
          · have hw := hw.2 hh
            refine lv_aload_n hx hb dX6_readLaw_66 rfl (lv_at hl 0 rfl) ?_
            refine lv_dup hx hb dX6_readLaw_67 rfl ?_
            refine wk_getI C0 fl_X6_32 hP (by decide) sh_8 rfl dX6_readLaw_68 ?_
            refine lv_iconst (v := iI 1) hx hb dX6_readLaw_71 rfl ?_
            refine wk_iadd hx hb dX6_readLaw_72 ?_
            refine wk_putI C0 fl_X6_32 rfl rfl hP hS (by decide) sh_8 rfl dX6_readLaw_73 (fun s17 H locs es17 hP hS => ?_)
            have hw := hw s17 es17
            refine lv_aload_n hx hb dX6_readLaw_76 rfl (lv_at hl 0 rfl) ?_
            refine wk_getR 10 C0 fl_X6_18 hP (by decide) sh_8 rfl dX6_readLaw_77 ?_
            refine wk_getR 16 C0 fl_X6_101 hP (by decide) sh_10 rfl dX6_readLaw_80 ?_
            refine lv_iload_n hx hb dX6_readLaw_83 rfl (lv_at hl 2 rfl) ?_
            refine lv_aload_n hx hb dX6_readLaw_84 rfl (lv_at hl 0 rfl) ?_
            refine lv_iconst (v := iI 0) hx hb dX6_readLaw_85 rfl ?_
            refine lv_iconst (v := iI 3) hx hb dX6_readLaw_86 rfl ?_
            refine wk_ri (wk_callV (rest := [.int (iI y2_8), .ref (ad 16)]) C0 cl_X6_70 (ok_X6_readNumber hI hw) hP (by decide) sh_8 rfl rfl rfl (Nat.le_of_ble_eq_true rfl) (wk_room (by decide) (by decide)) hl.1 dX6_readLaw_87 ⟨Nat.le_refl _, Nat.le_refl _⟩) hS (fun r18 s19 H locs hw hP hS => ?_)
            have q20 := hw.1
            have hw := hw.2
            refine wk_iast C0 hP hS (by decide) sh_16 q20.1 q20.2 (by decide) dX6_readLaw_90 (fun s21 H locs es21 hP hS => ?_)
            have hw := hw s21 es21
            refine wk_iinc (lv' := fun x1_22 => [(1, .int (iI x1_22)), (0, .ref (ad 8)), (2, .int (iI y2_8))]) hx hb dX6_readLaw_91 hl (k := 1) rfl (by decide) (fun _ => rfl) (fun x1_22 ls ex1_22 hl => ?_)
            have hw := hw x1_22 ex1_22
            refine wk_iinc (lv' := fun x2_23 => [(2, .int (iI x2_23)), (1, .int (iI x1_22)), (0, .ref (ad 8))]) hx hb dX6_readLaw_94 hl (k := 2) rfl (by decide) (fun _ => rfl) (fun x2_23 ls ex2_23 hl => ?_)
            have hw := hw x2_23 ex2_23
            refine lv_goto (tgt := 51) hx hb dX6_readLaw_97 (by decide) ?_
            obtain ⟨k24, hk24, hw⟩ := hw
            exact ih51 k24 hk24 x1_22 x2_23 s21 _ _ _ hP hS (lv_sub hl [2, 1, 0] rfl) hw
    obtain ⟨k25, hw⟩ := hw
    exact kI51 k25 1 1 s6 _ _ _ hP hS (lv_sub hl [2, 1, 0] rfl) hw
  · have hw := hw.2 hh
    refine lv_aload_n hx hb dX6_readLaw_7 rfl (lv_at hl 0 rfl) ?_
    refine lv_iconst (v := iI 3) hx hb dX6_readLaw_8 rfl ?_
    refine lv_aload_n hx hb dX6_readLaw_9 rfl (lv_at hl 0 rfl) ?_
    refine wk_getI C0 fl_X6_32 hP (by decide) sh_8 rfl dX6_readLaw_10 ?_
    refine wk_rv (wk_callV (rest := []) C0 cl_X6_57 (ok_X6_blame hI hw) hP (by decide) sh_8 rfl rfl rfl (Nat.le_of_ble_eq_true rfl) (wk_room (by decide) (by decide)) hl.1 dX6_readLaw_13 ⟨Nat.le_refl _, Nat.le_refl _⟩) hS (fun s26 H locs hw hP hS => ?_)
    exact hret _ _ _ _ _ hw hP hS dX6_readLaw_16

set_option maxRecDepth 100000 in
set_option maxHeartbeats 4000000 in
theorem ok_X6_readClause {l : Launch} {D : va_G} {cA : Nat → ClassId} {ad : Nat → Nat} (hI : wI ad) {sg : Mem} {Q : Mem → Prop} (hw : wp_X6_readClause sg Q) : wMv l D cA ad yX6_readClause cX6_readClause 2 none 5 [.ref (ad 8)] sg Q := by
  refine wk_ofV (by decide) hI (Nat.le_of_ble_eq_true rfl) ?_
  intro p e s m below meth c A QQ ls C0 hret hl hP
  have hx := C0.1
  have hb := C0.2.1
  have hown := C0.2.2.2.1
  have htb := C0.2.2.2.2.1
  have hl : lv_has ls 2 [(0, .ref (ad 8))] := hl
  refine (fun (key : ∀ (H : Heap) (locs : List Loc), wP D cA ad sg H → va_S (wA ad) s.heap H locs → W p l e (rmL 5) s m A below meth c H locs 0 0 QQ (F0 m 0 ls [])) => key _ _ hP va_S.rf) ?_
  intro H locs hP hS
  unfold wp_X6_readClause at hw
  refine lv_aload_n hx hb dX6_readClause_0 rfl (lv_at hl 0 rfl) ?_
  refine wk_getR 9 C0 fl_X6_9 hP (by decide) sh_8 rfl dX6_readClause_1 ?_
  refine lv_aload_n hx hb dX6_readClause_4 rfl (lv_at hl 0 rfl) ?_
  refine wk_getI C0 fl_X6_32 hP (by decide) sh_8 rfl dX6_readClause_5 ?_
  have q1 := hw.1
  have hw := hw.2
  refine wk_iald C0 hP (by decide) sh_9 q1.1 q1.2 (by decide) dX6_readClause_8 ?_
  refine wk_top (fun x1_2 ex1_2 => ?_)
  have hw := hw x1_2 ex1_2
  refine lv_istore_n (lv' := [(1, .int (iI x1_2)), (0, .ref (ad 8))]) hx hb dX6_readClause_9 rfl hl (by decide) rfl (fun ls hl => ?_)
  refine lv_aload_n hx hb dX6_readClause_10 rfl (lv_at hl 1 rfl) ?_
  refine wk_getR 10 C0 fl_X6_18 hP (by decide) sh_8 rfl dX6_readClause_11 ?_
  refine wk_getI C0 fl_X6_51 hP (by decide) sh_10 rfl dX6_readClause_14 ?_
  have q3 := hw.1
  have hw := hw.2
  refine wk_if_ne hx hb q3 (tgt := 43) dX6_readClause_17 (by decide) (fun hh => ?_) (fun hh => ?_)
  · have hw := hw.2 hh
    refine lv_iload_n hx hb dX6_readClause_43 rfl (lv_at hl 0 rfl) ?_
    have q7 := hw.1
    have hw := hw.2
    by_cases hh0 : x1_2 = 98
    · have hw := hw.1 hh0
      refine lv_lookup (off := 44) (tgt := 88) hx hb dX6_readClause_44 (by decide +kernel) (by rw [hh0]; first | done | decide +kernel) (by decide) ?_
      refine lv_aload_n hx hb dX6_readClause_88 rfl (lv_at hl 1 rfl) ?_
      refine lv_iconst (v := iI 3) hx hb dX6_readClause_89 rfl ?_
      refine lv_aload_n hx hb dX6_readClause_90 rfl (lv_at hl 1 rfl) ?_
      refine wk_getI C0 fl_X6_32 hP (by decide) sh_8 rfl dX6_readClause_91 ?_
      refine wk_rv (wk_callV (rest := []) C0 cl_X6_57 (ok_X6_blame hI hw) hP (by decide) sh_8 rfl rfl rfl (Nat.le_of_ble_eq_true rfl) (wk_room (by decide) (by decide)) hl.1 dX6_readClause_94 ⟨Nat.le_refl _, Nat.le_refl _⟩) hS (fun s8 H locs hw hP hS => ?_)
      refine lv_goto (tgt := 130) hx hb dX6_readClause_97 (by decide) ?_
      exact hret _ _ _ _ _ hw hP hS dX6_readClause_130
    by_cases hh1 : x1_2 = 104
    · have hw := hw.2.1 hh1
      refine lv_lookup (off := 56) (tgt := 100) hx hb dX6_readClause_44 (by decide +kernel) (by rw [hh1]; first | done | decide +kernel) (by decide) ?_
      refine lv_aload_n hx hb dX6_readClause_100 rfl (lv_at hl 1 rfl) ?_
      refine wk_rv (wk_callV (rest := []) C0 cl_X6_61 (ok_X6_readHeat hI hw) hP (by decide) sh_8 rfl rfl rfl (Nat.le_of_ble_eq_true rfl) (wk_room (by decide) (by decide)) hl.1 dX6_readClause_101 ⟨Nat.le_refl _, Nat.le_refl _⟩) hS (fun s9 H locs hw hP hS => ?_)
      refine lv_goto (tgt := 130) hx hb dX6_readClause_104 (by decide) ?_
      exact hret _ _ _ _ _ hw hP hS dX6_readClause_130
    by_cases hh2 : x1_2 = 114
    · have hw := hw.2.2.1 hh2
      refine lv_lookup (off := 70) (tgt := 114) hx hb dX6_readClause_44 (by decide +kernel) (by rw [hh2]; first | done | decide +kernel) (by decide) ?_
      refine lv_aload_n hx hb dX6_readClause_114 rfl (lv_at hl 1 rfl) ?_
      refine wk_rv (wk_callV (rest := []) C0 cl_X6_67 (ok_X6_readLaw hI hw) hP (by decide) sh_8 rfl rfl rfl (Nat.le_of_ble_eq_true rfl) (wk_room (by decide) (by decide)) hl.1 dX6_readClause_115 ⟨Nat.le_refl _, Nat.le_refl _⟩) hS (fun s10 H locs hw hP hS => ?_)
      refine lv_goto (tgt := 130) hx hb dX6_readClause_118 (by decide) ?_
      exact hret _ _ _ _ _ hw hP hS dX6_readClause_130
    by_cases hh3 : x1_2 = 115
    · have hw := hw.2.2.2.1 hh3
      refine lv_lookup (off := 63) (tgt := 107) hx hb dX6_readClause_44 (by decide +kernel) (by rw [hh3]; first | done | decide +kernel) (by decide) ?_
      refine lv_aload_n hx hb dX6_readClause_107 rfl (lv_at hl 1 rfl) ?_
      refine wk_rv (wk_callV (rest := []) C0 cl_X6_64 (ok_X6_readSleeper hI hw) hP (by decide) sh_8 rfl rfl rfl (Nat.le_of_ble_eq_true rfl) (wk_room (by decide) (by decide)) hl.1 dX6_readClause_108 ⟨Nat.le_refl _, Nat.le_refl _⟩) hS (fun s11 H locs hw hP hS => ?_)
      refine lv_goto (tgt := 130) hx hb dX6_readClause_111 (by decide) ?_
      exact hret _ _ _ _ _ hw hP hS dX6_readClause_130
    have hw := hw.2.2.2.2 ⟨hh0, hh1, hh2, hh3⟩
    refine lv_lookup (off := 77) (tgt := 121) hx hb dX6_readClause_44 (by decide +kernel) (by rw [iI_toInt q7]; simp only [Op.lookupswitch.offset_cons, List.toList_toArray]; rw [if_neg (by omega)]; rw [if_neg (by omega)]; rw [if_neg (by omega)]; rw [if_neg (by omega)]; rfl) (by decide) ?_
    refine lv_aload_n hx hb dX6_readClause_121 rfl (lv_at hl 1 rfl) ?_
    refine lv_iconst (v := iI 1) hx hb dX6_readClause_122 rfl ?_
    refine lv_aload_n hx hb dX6_readClause_123 rfl (lv_at hl 1 rfl) ?_
    refine wk_getI C0 fl_X6_32 hP (by decide) sh_8 rfl dX6_readClause_124 ?_
    refine wk_rv (wk_callV (rest := []) C0 cl_X6_57 (ok_X6_blame hI hw) hP (by decide) sh_8 rfl rfl rfl (Nat.le_of_ble_eq_true rfl) (wk_room (by decide) (by decide)) hl.1 dX6_readClause_127 ⟨Nat.le_refl _, Nat.le_refl _⟩) hS (fun s12 H locs hw hP hS => ?_)
    exact hret _ _ _ _ _ hw hP hS dX6_readClause_130
  · have hw := hw.1 hh
    refine lv_iload_n hx hb dX6_readClause_20 rfl (lv_at hl 0 rfl) ?_
    refine lv_bipush (v := iI 98) hx hb dX6_readClause_21 (by decide +kernel) ?_
    have q4 := hw.1
    have hw := hw.2
    refine wk_icmp_ne hx hb q4 ⟨by decide, by decide⟩ (tgt := 33) dX6_readClause_23 (by decide) (fun hh => ?_) (fun hh => ?_)
    · have hw := hw.2 hh
      refine lv_aload_n hx hb dX6_readClause_33 rfl (lv_at hl 1 rfl) ?_
      refine lv_iconst (v := iI 1) hx hb dX6_readClause_34 rfl ?_
      refine lv_aload_n hx hb dX6_readClause_35 rfl (lv_at hl 1 rfl) ?_
      refine wk_getI C0 fl_X6_32 hP (by decide) sh_8 rfl dX6_readClause_36 ?_
      refine wk_rv (wk_callV (rest := []) C0 cl_X6_57 (ok_X6_blame hI hw) hP (by decide) sh_8 rfl rfl rfl (Nat.le_of_ble_eq_true rfl) (wk_room (by decide) (by decide)) hl.1 dX6_readClause_39 ⟨Nat.le_refl _, Nat.le_refl _⟩) hS (fun s6 H locs hw hP hS => ?_)
      exact hret _ _ _ _ _ hw hP hS dX6_readClause_42
    · have hw := hw.1 hh
      refine lv_aload_n hx hb dX6_readClause_26 rfl (lv_at hl 1 rfl) ?_
      refine wk_rv (wk_callV (rest := []) C0 cl_X6_54 (ok_X6_readPlaces hI hw) hP (by decide) sh_8 rfl rfl rfl (Nat.le_of_ble_eq_true rfl) (wk_room (by decide) (by decide)) hl.1 dX6_readClause_27 ⟨Nat.le_refl _, Nat.le_refl _⟩) hS (fun s5 H locs hw hP hS => ?_)
      refine lv_goto (tgt := 42) hx hb dX6_readClause_30 (by decide) ?_
      exact hret _ _ _ _ _ hw hP hS dX6_readClause_42

set_option maxRecDepth 100000 in
set_option maxHeartbeats 4000000 in
theorem ok_X6_readAll {l : Launch} {D : va_G} {cA : Nat → ClassId} {ad : Nat → Nat} (hI : wI ad) {sg : Mem} {Q : Int → Mem → Prop} (hw : wp_X6_readAll sg Q) : wMi l D cA ad yX6_readAll cX6_readAll 2 (some .int) 6 [.ref (ad 8)] sg Q := by
  refine wk_ofI (by decide) hI (Nat.le_of_ble_eq_true rfl) ?_
  intro p e s m below meth c A QQ ls C0 hret hl hP
  have hx := C0.1
  have hb := C0.2.1
  have hown := C0.2.2.2.1
  have htb := C0.2.2.2.2.1
  have hl : lv_has ls 2 [(0, .ref (ad 8))] := hl
  refine (fun (key : ∀ (H : Heap) (locs : List Loc), wP D cA ad sg H → va_S (wA ad) s.heap H locs → W p l e (rmL 6) s m A below meth c H locs 0 0 QQ (F0 m 0 ls [])) => key _ _ hP va_S.rf) ?_
  intro H locs hP hS
  unfold wp_X6_readAll at hw
  refine lv_aload_n hx hb dX6_readAll_0 rfl (lv_at hl 0 rfl) ?_
  refine wk_getR 10 C0 fl_X6_18 hP (by decide) sh_8 rfl dX6_readAll_1 ?_
  refine wk_rv (wk_callV (rest := []) C0 cl_X6_29 (ok_X0_empty hI hw) hP (by decide) sh_10 rfl rfl rfl (Nat.le_of_ble_eq_true rfl) (wk_room (by decide) (by decide)) hl.1 dX6_readAll_4 ⟨Nat.le_refl _, Nat.le_refl _⟩) hS (fun s1 H locs hw hP hS => ?_)
  refine lv_aload_n hx hb dX6_readAll_7 rfl (lv_at hl 0 rfl) ?_
  refine lv_iconst (v := iI 0) hx hb dX6_readAll_8 rfl ?_
  refine wk_putI C0 fl_X6_32 rfl rfl hP hS (by decide) sh_8 rfl dX6_readAll_9 (fun s2 H locs es2 hP hS => ?_)
  have hw := hw s2 es2
  refine lv_aload_n hx hb dX6_readAll_12 rfl (lv_at hl 0 rfl) ?_
  refine lv_iconst (v := iI 0) hx hb dX6_readAll_13 rfl ?_
  refine wk_putI C0 fl_X6_35 rfl rfl hP hS (by decide) sh_8 rfl dX6_readAll_14 (fun s3 H locs es3 hP hS => ?_)
  have hw := hw s3 es3
  refine lv_aload_n hx hb dX6_readAll_17 rfl (lv_at hl 0 rfl) ?_
  refine lv_iconst (v := iI (-1)) hx hb dX6_readAll_18 rfl ?_
  refine wk_putI C0 fl_X6_22 rfl rfl hP hS (by decide) sh_8 rfl dX6_readAll_19 (fun s4 H locs es4 hP hS => ?_)
  have hw := hw s4 es4
  refine lv_aload_n hx hb dX6_readAll_22 rfl (lv_at hl 0 rfl) ?_
  refine lv_iconst (v := iI 0) hx hb dX6_readAll_23 rfl ?_
  refine wk_putI C0 fl_X6_38 rfl rfl hP hS (by decide) sh_8 rfl dX6_readAll_24 (fun s5 H locs es5 hP hS => ?_)
  have hw := hw s5 es5
  refine lv_aload_n hx hb dX6_readAll_27 rfl (lv_at hl 0 rfl) ?_
  refine lv_iconst (v := iI 0) hx hb dX6_readAll_28 rfl ?_
  refine wk_putZ C0 fl_X6_41 rfl rfl (by decide) hP hS (by decide) sh_8 rfl dX6_readAll_29 (fun s6 H locs es6 hP hS => ?_)
  have hw := hw s6 es6
  refine lv_aload_n hx hb dX6_readAll_32 rfl (lv_at hl 0 rfl) ?_
  refine wk_rv (wk_callV (rest := []) C0 cl_X6_45 (ok_X6_skipBlanks hI hw) hP (by decide) sh_8 rfl rfl rfl (Nat.le_of_ble_eq_true rfl) (wk_room (by decide) (by decide)) hl.1 dX6_readAll_33 ⟨Nat.le_refl _, Nat.le_refl _⟩) hS (fun s7 H locs hw hP hS => ?_)
  refine lv_iconst (v := iI 0) hx hb dX6_readAll_36 rfl ?_
  refine lv_istore_n (lv' := [(1, .int (iI 0)), (0, .ref (ad 8))]) hx hb dX6_readAll_37 rfl hl (by decide) rfl (fun ls hl => ?_)
  obtain ⟨I38, hI38, hw⟩ := hw
  have kI38 : ∀ (k38 : Nat) (y1_8 : Int) (s9 : Mem) (H : Heap) (locs : List Loc) (ls : Array Slot), wP D cA ad s9 H → va_S (wA ad) s.heap H locs → lv_has ls 2 [(0, .ref (ad 8)), (1, .int (iI y1_8))] → I38 k38 y1_8 s9 → W p l e (rmL 6) s m A below meth c H locs 0 0 QQ (F0 m 38 ls []) := by
    intro k38
    induction k38 using Nat.strongRecOn with
    | _ k38 ih38 =>
      intro y1_8 s9 H locs ls hP hS hl hw
      have hw := hI38 k38 y1_8 s9 hw
      refine lv_iload_n hx hb dX6_readAll_38 rfl (lv_at hl 1 rfl) ?_
      refine lv_sipush (v := iI 200) hx hb dX6_readAll_39 (by decide +kernel) ?_
      have q10 := hw.1
      have hw := hw.2
      obtain ⟨X77, hX77, hw⟩ := hw
      have kX77 : ∀ (H : Heap) (locs : List Loc) (ls : Array Slot), wP D cA ad s9 H → va_S (wA ad) s.heap H locs → lv_has ls 2 [(0, .ref (ad 8))] → X77 → W p l e (rmL 6) s m A below meth c H locs 0 0 QQ (F0 m 77 ls []) := by
        intro H locs ls hP hS hl hw
        have hw := hX77 hw
        refine lv_aload_n hx hb dX6_readAll_77 rfl (lv_at hl 0 rfl) ?_
        refine lv_iconst (v := iI 0) hx hb dX6_readAll_78 rfl ?_
        refine wk_putI C0 fl_X6_26 rfl rfl hP hS (by decide) sh_8 rfl dX6_readAll_79 (fun s11 H locs es11 hP hS => ?_)
        have hw := hw s11 es11
        refine lv_aload_n hx hb dX6_readAll_82 rfl (lv_at hl 0 rfl) ?_
        refine wk_getI C0 fl_X6_35 hP (by decide) sh_8 rfl dX6_readAll_83 ?_
        exact hret _ _ _ _ _ _ hw hP hS dX6_readAll_86
      refine wk_icmp_ge hx hb q10 ⟨by decide, by decide⟩ (tgt := 77) dX6_readAll_42 (by decide) (fun hh => ?_) (fun hh => ?_)
      · have hw := hw.1 hh
        exact kX77  _ _ _ hP hS (lv_sub hl [0] rfl) hw
      · have hw := hw.2 hh
        refine lv_aload_n hx hb dX6_readAll_45 rfl (lv_at hl 0 rfl) ?_
        refine wk_getI C0 fl_X6_35 hP (by decide) sh_8 rfl dX6_readAll_46 ?_
        have q12 := hw.1
        have hw := hw.2
        refine wk_if_ne hx hb q12 (tgt := 77) dX6_readAll_49 (by decide) (fun hh => ?_) (fun hh => ?_)
        · have hw := hw.2 hh
          exact kX77  _ _ _ hP hS (lv_sub hl [0] rfl) hw
        · have hw := hw.1 hh
          refine lv_aload_n hx hb dX6_readAll_52 rfl (lv_at hl 0 rfl) ?_
          refine wk_getI C0 fl_X6_32 hP (by decide) sh_8 rfl dX6_readAll_53 ?_
          refine lv_aload_n hx hb dX6_readAll_56 rfl (lv_at hl 0 rfl) ?_
          refine wk_getI C0 fl_X6_26 hP (by decide) sh_8 rfl dX6_readAll_57 ?_
          have q13 := hw.1
          have hw := hw.2
          have q14 := hw.1
          have hw := hw.2
          refine wk_icmp_ge hx hb q13 q14 (tgt := 77) dX6_readAll_60 (by decide) (fun hh => ?_) (fun hh => ?_)
          · have hw := hw.1 hh
            exact kX77  _ _ _ hP hS (lv_sub hl [0] rfl) hw
          · have hw := hw.2 hh
            refine lv_aload_n hx hb dX6_readAll_63 rfl (lv_at hl 0 rfl) ?_
            refine wk_rv (wk_callV (rest := []) C0 cl_X6_48 (ok_X6_readClause hI hw) hP (by decide) sh_8 rfl rfl rfl (Nat.le_of_ble_eq_true rfl) (wk_room (by decide) (by decide)) hl.1 dX6_readAll_64 ⟨Nat.le_refl _, Nat.le_refl _⟩) hS (fun s15 H locs hw hP hS => ?_)
            refine lv_aload_n hx hb dX6_readAll_67 rfl (lv_at hl 0 rfl) ?_
            refine wk_rv (wk_callV (rest := []) C0 cl_X6_45 (ok_X6_skipBlanks hI hw) hP (by decide) sh_8 rfl rfl rfl (Nat.le_of_ble_eq_true rfl) (wk_room (by decide) (by decide)) hl.1 dX6_readAll_68 ⟨Nat.le_refl _, Nat.le_refl _⟩) hS (fun s16 H locs hw hP hS => ?_)
            refine wk_iinc (lv' := fun x1_17 => [(1, .int (iI x1_17)), (0, .ref (ad 8))]) hx hb dX6_readAll_71 hl (k := 1) rfl (by decide) (fun _ => rfl) (fun x1_17 ls ex1_17 hl => ?_)
            have hw := hw x1_17 ex1_17
            refine lv_goto (tgt := 38) hx hb dX6_readAll_74 (by decide) ?_
            obtain ⟨k18, hk18, hw⟩ := hw
            exact ih38 k18 hk18 x1_17 s16 _ _ _ hP hS (lv_sub hl [1, 0] rfl) hw
  obtain ⟨k19, hw⟩ := hw
  exact kI38 k19 0 s7 _ _ _ hP hS (lv_sub hl [1, 0] rfl) hw

set_option maxRecDepth 100000 in
set_option maxHeartbeats 4000000 in
theorem ok_X11_wordOf {l : Launch} {D : va_G} {cA : Nat → ClassId} {ad : Nat → Nat} (hI : wI ad) {a1 : Int} {a2 : Int} {a3 : Int} {sg : Mem} {Q : Int → Prop} (hw : wp_X11_wordOf a1 a2 a3 sg Q) : wMi l D cA ad yX11_wordOf cX11_wordOf 3 (some .int) 1 [.int (iI a1), .int (iI a2), .int (iI a3)] sg (fun z u => u = sg ∧ Q z) := by
  refine wk_ofI (by decide) hI (Nat.le_of_ble_eq_true rfl) ?_
  intro p e s m below meth c A QQ ls C0 hret hl hP
  have hx := C0.1
  have hb := C0.2.1
  have hown := C0.2.2.2.1
  have htb := C0.2.2.2.2.1
  have hl : lv_has ls 3 [(0, .int (iI a1)), (1, .int (iI a2)), (2, .int (iI a3))] := hl
  refine (fun (key : ∀ (H : Heap) (locs : List Loc), wP D cA ad sg H → va_S (wA ad) s.heap H locs → W p l e (rmL 1) s m A below meth c H locs 0 0 QQ (F0 m 0 ls [])) => key _ _ hP va_S.rf) ?_
  intro H locs hP hS
  unfold wp_X11_wordOf at hw
  refine lv_iload_n hx hb dX11_wordOf_0 rfl (lv_at hl 0 rfl) ?_
  refine lv_iconst (v := iI 2) hx hb dX11_wordOf_1 rfl ?_
  refine lv_iload_n hx hb dX11_wordOf_2 rfl (lv_at hl 1 rfl) ?_
  refine lv_iconst (v := iI 1) hx hb dX11_wordOf_3 rfl ?_
  refine wk_isub hx hb dX11_wordOf_4 ?_
  refine lv_iload_n hx hb dX11_wordOf_5 rfl (lv_at hl 2 rfl) ?_
  refine wk_isub hx hb dX11_wordOf_6 ?_
  refine wk_imul hx hb dX11_wordOf_7 ?_
  refine wk_ishr hx hb dX11_wordOf_8 ?_
  refine lv_iconst (v := iI 3) hx hb dX11_wordOf_9 rfl ?_
  refine wk_iand hx hb dX11_wordOf_10 ?_
  exact hret _ _ _ _ _ _ ⟨rfl, hw⟩ hP hS dX11_wordOf_11

set_option maxRecDepth 100000 in
set_option maxHeartbeats 4000000 in
theorem ok_X7_nobodyWakes {l : Launch} {D : va_G} {cA : Nat → ClassId} {ad : Nat → Nat} (hI : wI ad) {c1 : Nat} (hc1 : isN c1) {a2 : Int} {a3 : Int} {a4 : Int} {sg : Mem} {Q : Int → Mem → Prop} (hw : wp_X7_nobodyWakes c1 a2 a3 a4 sg Q) : wMi l D cA ad yX7_nobodyWakes cX7_nobodyWakes 7 (some .boolean) 5 [.ref (ad 51), .ref (ad c1), .int (iI a2), .int (iI a3), .int (iI a4)] sg Q := by
  refine wk_ofZ (by decide) hI (Nat.le_of_ble_eq_true rfl) ?_
  intro p e s m below meth c A QQ ls C0 hret hl hP
  have hx := C0.1
  have hb := C0.2.1
  have hown := C0.2.2.2.1
  have htb := C0.2.2.2.2.1
  have hl : lv_has ls 7 [(0, .ref (ad 51)), (1, .ref (ad c1)), (2, .int (iI a2)), (3, .int (iI a3)), (4, .int (iI a4))] := hl
  refine (fun (key : ∀ (H : Heap) (locs : List Loc), wP D cA ad sg H → va_S (wA ad) s.heap H locs → W p l e (rmL 5) s m A below meth c H locs 0 0 QQ (F0 m 0 ls [])) => key _ _ hP va_S.rf) ?_
  intro H locs hP hS
  unfold wp_X7_nobodyWakes at hw
  refine lv_aload_n hx hb dX7_nobodyWakes_0 rfl (lv_at hl 0 rfl) ?_
  refine wk_getR 20 C0 fl_X7_9 hP (by decide) sh_51 rfl dX7_nobodyWakes_1 ?_
  refine lv_aload_n hx hb dX7_nobodyWakes_4 rfl (lv_at hl 1 rfl) ?_
  refine wk_rv (wk_callV (rest := []) C0 cl_X7_26 (ok_X4_become hI isN_20 hc1 hw) hP (by decide) sh_20 rfl rfl rfl (Nat.le_of_ble_eq_true rfl) (wk_room (by decide) (by decide)) hl.1 dX7_nobodyWakes_5 ⟨Nat.le_refl _, Nat.le_refl _⟩) hS (fun s1 H locs hw hP hS => ?_)
  refine lv_iconst (v := iI 0) hx hb dX7_nobodyWakes_8 rfl ?_
  refine lv_istore (lv' := [(5, .int (iI 0)), (0, .ref (ad 51)), (1, .ref (ad c1)), (2, .int (iI a2)), (3, .int (iI a3)), (4, .int (iI a4))]) hx hb dX7_nobodyWakes_9 hl (by decide) rfl (fun ls hl => ?_)
  refine lv_iconst (v := iI 0) hx hb dX7_nobodyWakes_11 rfl ?_
  refine lv_istore (lv' := [(6, .int (iI 0)), (5, .int (iI 0)), (0, .ref (ad 51)), (1, .ref (ad c1)), (2, .int (iI a2)), (3, .int (iI a3)), (4, .int (iI a4))]) hx hb dX7_nobodyWakes_12 hl (by decide) rfl (fun ls hl => ?_)
  obtain ⟨I14, hI14, hw⟩ := hw
  have kI14 : ∀ (k14 : Nat) (y5_2 : Int) (y6_3 : Int) (s4 : Mem) (H : Heap) (locs : List Loc) (ls : Array Slot), wP D cA ad s4 H → va_S (wA ad) s.heap H locs → lv_has ls 7 [(0, .ref (ad 51)), (2, .int (iI a2)), (3, .int (iI a3)), (4, .int (iI a4)), (5, .int (iI y5_2)), (6, .int (iI y6_3))] → I14 k14 y5_2 y6_3 s4 → W p l e (rmL 5) s m A below meth c H locs 0 0 QQ (F0 m 14 ls []) := by
    intro k14
    induction k14 using Nat.strongRecOn with
    | _ k14 ih14 =>
      intro y5_2 y6_3 s4 H locs ls hP hS hl hw
      have hw := hI14 k14 y5_2 y6_3 s4 hw
      refine lv_iload hx hb dX7_nobodyWakes_14 (lv_at hl 5 rfl) ?_
      refine lv_iload_n hx hb dX7_nobodyWakes_16 rfl (lv_at hl 1 rfl) ?_
      have q5 := hw.1
      have hw := hw.2
      have q6 := hw.1
      have hw := hw.2
      refine wk_icmp_ge hx hb q5 q6 (tgt := 72) dX7_nobodyWakes_17 (by decide) (fun hh => ?_) (fun hh => ?_)
      · have hw := hw.1 hh
        refine lv_iconst (v := iI 1) hx hb dX7_nobodyWakes_72 rfl ?_
        exact hret _ _ _ _ _ _ (by decide) hw hP hS dX7_nobodyWakes_73
      · have hw := hw.2 hh
        refine lv_aload_n hx hb dX7_nobodyWakes_20 rfl (lv_at hl 0 rfl) ?_
        refine wk_getR 20 C0 fl_X7_9 hP (by decide) sh_51 rfl dX7_nobodyWakes_21 ?_
        refine lv_iload_n hx hb dX7_nobodyWakes_24 rfl (lv_at hl 2 rfl) ?_
        refine lv_iload hx hb dX7_nobodyWakes_25 (lv_at hl 3 rfl) ?_
        refine lv_iload hx hb dX7_nobodyWakes_27 (lv_at hl 4 rfl) ?_
        refine wk_rip (wk_callSN (n := 3) (rest := [.ref (ad 20)]) C0 C0.2.2.2.2.2.2.2.1 cd_X11_wordOf ini_X11 st_X11_wordOf (by decide +kernel) (ok_X11_wordOf hI hw) hP rfl rfl (Nat.le_of_ble_eq_true rfl) (wk_room (by decide) (by decide)) hl.1 dX7_nobodyWakes_29 ⟨Nat.le_refl _, Nat.le_refl _⟩) hS (fun r7 H locs hw hP hS => ?_)
        refine wk_rv (wk_callV (rest := []) C0 cl_X7_36 (ok_X4_passHour hI isN_20 hw) hP (by decide) sh_20 rfl rfl rfl (Nat.le_of_ble_eq_true rfl) (wk_room (by decide) (by decide)) hl.1 dX7_nobodyWakes_32 ⟨Nat.le_refl _, Nat.le_refl _⟩) hS (fun s8 H locs hw hP hS => ?_)
        refine lv_aload_n hx hb dX7_nobodyWakes_35 rfl (lv_at hl 0 rfl) ?_
        refine wk_getR 20 C0 fl_X7_9 hP (by decide) sh_51 rfl dX7_nobodyWakes_36 ?_
        refine wk_rip (wk_callV (rest := []) C0 cl_X7_40 (ok_X4_awake hI isN_20 hw) hP (by decide) sh_20 rfl rfl rfl (Nat.le_of_ble_eq_true rfl) (wk_room (by decide) (by decide)) hl.1 dX7_nobodyWakes_39 ⟨Nat.le_refl _, Nat.le_refl _⟩) hS (fun r9 H locs hw hP hS => ?_)
        have q10 := hw.1
        have hw := hw.2
        refine wk_if_eq hx hb q10 (tgt := 47) dX7_nobodyWakes_42 (by decide) (fun hh => ?_) (fun hh => ?_)
        · have hw := hw.1 hh
          refine lv_iload hx hb dX7_nobodyWakes_47 (lv_at hl 4 rfl) ?_
          refine lv_iconst (v := iI 1) hx hb dX7_nobodyWakes_49 rfl ?_
          refine wk_iadd hx hb dX7_nobodyWakes_50 ?_
          refine lv_iload hx hb dX7_nobodyWakes_51 (lv_at hl 3 rfl) ?_
          have q11 := hw.1
          have hw := hw.2
          have q12 := hw.1
          have hw := hw.2
          have kX64 : ∀ v13 : Int, v13 = (if a4 ≤ y5_2 + 1 then 0 else y5_2 + 1) → ∀ (ls : Array Slot), lv_has ls 7 [(0, .ref (ad 51)), (2, .int (iI a2)), (3, .int (iI a3)), (4, .int (iI a4)), (6, .int (iI y6_3))] → W p l e (rmL 5) s m A below meth c H locs 0 0 QQ (F0 m 64 ls [.int (iI v13)]) := by
            intro v13 ev13 ls hl
            have hw := hw v13 ev13
            refine lv_istore (lv' := [(5, .int (iI v13)), (0, .ref (ad 51)), (2, .int (iI a2)), (3, .int (iI a3)), (4, .int (iI a4)), (6, .int (iI y6_3))]) hx hb dX7_nobodyWakes_64 hl (by decide) rfl (fun ls hl => ?_)
            refine wk_iinc (lv' := fun x6_14 => [(6, .int (iI x6_14)), (5, .int (iI v13)), (0, .ref (ad 51)), (2, .int (iI a2)), (3, .int (iI a3)), (4, .int (iI a4))]) hx hb dX7_nobodyWakes_66 hl (k := 5) rfl (by decide) (fun _ => rfl) (fun x6_14 ls ex6_14 hl => ?_)
            have hw := hw x6_14 ex6_14
            refine lv_goto (tgt := 14) hx hb dX7_nobodyWakes_69 (by decide) ?_
            obtain ⟨k15, hk15, hw⟩ := hw
            exact ih14 k15 hk15 v13 x6_14 s8 _ _ _ hP hS (lv_sub hl [2, 3, 4, 5, 1, 0] rfl) hw
          refine wk_icmp_ge hx hb q11 q12 (tgt := 63) dX7_nobodyWakes_53 (by decide) (fun hh16 => ?_) (fun hh16 => ?_)
          · refine lv_iconst (v := iI 0) hx hb dX7_nobodyWakes_63 rfl ?_
            exact kX64 0 (by rw [if_pos hh16]) ls (lv_sub hl [0, 1, 2, 3, 5] rfl)
          · refine lv_iload hx hb dX7_nobodyWakes_56 (lv_at hl 4 rfl) ?_
            refine lv_iconst (v := iI 1) hx hb dX7_nobodyWakes_58 rfl ?_
            refine wk_iadd hx hb dX7_nobodyWakes_59 ?_
            refine lv_goto (tgt := 64) hx hb dX7_nobodyWakes_60 (by decide) ?_
            exact kX64 (y5_2 + 1) (by rw [if_neg hh16]) ls (lv_sub hl [0, 1, 2, 3, 5] rfl)
        · have hw := hw.2 hh
          refine lv_iconst (v := iI 0) hx hb dX7_nobodyWakes_45 rfl ?_
          exact hret _ _ _ _ _ _ (by decide) hw hP hS dX7_nobodyWakes_46
  obtain ⟨k17, hw⟩ := hw
  exact kI14 k17 0 0 s1 _ _ _ hP hS (lv_sub hl [2, 4, 5, 6, 1, 0] rfl) hw

set_option maxRecDepth 100000 in
set_option maxHeartbeats 4000000 in
theorem ok_X7_seek {l : Launch} {D : va_G} {cA : Nat → ClassId} {ad : Nat → Nat} (hI : wI ad) {c1 : Nat} (hc1 : isN c1) {a2 : Int} {sg : Mem} {Q : Mem → Prop} (hw : wp_X7_seek c1 a2 sg Q) : wMv l D cA ad yX7_seek cX7_seek 5 none 6 [.ref (ad 51), .ref (ad c1), .int (iI a2)] sg Q := by
  refine wk_ofV (by decide) hI (Nat.le_of_ble_eq_true rfl) ?_
  intro p e s m below meth c A QQ ls C0 hret hl hP
  have hx := C0.1
  have hb := C0.2.1
  have hown := C0.2.2.2.1
  have htb := C0.2.2.2.2.1
  have hl : lv_has ls 5 [(0, .ref (ad 51)), (1, .ref (ad c1)), (2, .int (iI a2))] := hl
  refine (fun (key : ∀ (H : Heap) (locs : List Loc), wP D cA ad sg H → va_S (wA ad) s.heap H locs → W p l e (rmL 6) s m A below meth c H locs 0 0 QQ (F0 m 0 ls [])) => key _ _ hP va_S.rf) ?_
  intro H locs hP hS
  unfold wp_X7_seek at hw
  refine lv_iconst (v := iI 1) hx hb dX7_seek_0 rfl ?_
  refine lv_istore_n (lv' := [(3, .int (iI 1)), (0, .ref (ad 51)), (1, .ref (ad c1)), (2, .int (iI a2))]) hx hb dX7_seek_1 rfl hl (by decide) rfl (fun ls hl => ?_)
  obtain ⟨I2, hI2, hw⟩ := hw
  have kI2 : ∀ (k2 : Nat) (y3_1 : Int) (s2 : Mem) (H : Heap) (locs : List Loc) (ls : Array Slot), wP D cA ad s2 H → va_S (wA ad) s.heap H locs → lv_has ls 5 [(0, .ref (ad 51)), (1, .ref (ad c1)), (2, .int (iI a2)), (3, .int (iI y3_1))] → I2 k2 y3_1 s2 → W p l e (rmL 6) s m A below meth c H locs 0 0 QQ (F0 m 2 ls []) := by
    intro k2
    induction k2 using Nat.strongRecOn with
    | _ k2 ih2 =>
      intro y3_1 s2 H locs ls hP hS hl hw
      have hw := hI2 k2 y3_1 s2 hw
      refine lv_iload_n hx hb dX7_seek_2 rfl (lv_at hl 3 rfl) ?_
      refine lv_iconst (v := iI 4) hx hb dX7_seek_3 rfl ?_
      have q3 := hw.1
      have hw := hw.2
      refine wk_icmp_gt hx hb q3 ⟨by decide, by decide⟩ (tgt := 56) dX7_seek_4 (by decide) (fun hh => ?_) (fun hh => ?_)
      · have hw := hw.1 hh
        refine lv_aload_n hx hb dX7_seek_56 rfl (lv_at hl 0 rfl) ?_
        refine lv_iconst (v := iI (-1)) hx hb dX7_seek_57 rfl ?_
        refine wk_putI C0 fl_X7_19 rfl rfl hP hS (by decide) sh_51 rfl dX7_seek_58 (fun s4 H locs es4 hP hS => ?_)
        have hw := hw s4 es4
        refine lv_aload_n hx hb dX7_seek_61 rfl (lv_at hl 0 rfl) ?_
        refine lv_iconst (v := iI 0) hx hb dX7_seek_62 rfl ?_
        refine wk_putI C0 fl_X7_23 rfl rfl hP hS (by decide) sh_51 rfl dX7_seek_63 (fun s5 H locs es5 hP hS => ?_)
        have hw := hw s5 es5
        exact hret _ _ _ _ _ hw hP hS dX7_seek_66
      · have hw := hw.2 hh
        refine lv_iconst (v := iI 0) hx hb dX7_seek_7 rfl ?_
        refine lv_istore (lv' := [(4, .int (iI 0)), (0, .ref (ad 51)), (1, .ref (ad c1)), (2, .int (iI a2)), (3, .int (iI y3_1))]) hx hb dX7_seek_8 hl (by decide) rfl (fun ls hl => ?_)
        obtain ⟨I10, hI10, hw⟩ := hw
        have kI10 : ∀ (k10 : Nat) (y4_6 : Int) (s7 : Mem) (H : Heap) (locs : List Loc) (ls : Array Slot), wP D cA ad s7 H → va_S (wA ad) s.heap H locs → lv_has ls 5 [(0, .ref (ad 51)), (1, .ref (ad c1)), (2, .int (iI a2)), (3, .int (iI y3_1)), (4, .int (iI y4_6))] → I10 k10 y4_6 s7 → W p l e (rmL 6) s m A below meth c H locs 0 0 QQ (F0 m 10 ls []) := by
          intro k10
          induction k10 using Nat.strongRecOn with
          | _ k10 ih10 =>
            intro y4_6 s7 H locs ls hP hS hl hw
            have hw := hI10 k10 y4_6 s7 hw
            refine lv_iload hx hb dX7_seek_10 (lv_at hl 4 rfl) ?_
            refine lv_iconst (v := iI 1) hx hb dX7_seek_12 rfl ?_
            refine lv_iconst (v := iI 2) hx hb dX7_seek_13 rfl ?_
            refine lv_iload_n hx hb dX7_seek_14 rfl (lv_at hl 3 rfl) ?_
            refine wk_imul hx hb dX7_seek_15 ?_
            refine wk_ishl hx hb dX7_seek_16 ?_
            have q8 := hw.1
            have hw := hw.2
            have q9 := hw.1
            have hw := hw.2
            refine wk_icmp_ge hx hb q8 q9 (tgt := 50) dX7_seek_17 (by decide) (fun hh => ?_) (fun hh => ?_)
            · have hw := hw.1 hh
              refine wk_iinc (lv' := fun x3_10 => [(3, .int (iI x3_10)), (0, .ref (ad 51)), (1, .ref (ad c1)), (2, .int (iI a2)), (4, .int (iI y4_6))]) hx hb dX7_seek_50 hl (k := 3) rfl (by decide) (fun _ => rfl) (fun x3_10 ls ex3_10 hl => ?_)
              have hw := hw x3_10 ex3_10
              refine lv_goto (tgt := 2) hx hb dX7_seek_53 (by decide) ?_
              obtain ⟨k11, hk11, hw⟩ := hw
              exact ih2 k11 hk11 x3_10 s7 _ _ _ hP hS (lv_sub hl [1, 2, 3, 0] rfl) hw
            · have hw := hw.2 hh
              refine lv_aload_n hx hb dX7_seek_20 rfl (lv_at hl 0 rfl) ?_
              refine lv_aload_n hx hb dX7_seek_21 rfl (lv_at hl 1 rfl) ?_
              refine lv_iload_n hx hb dX7_seek_22 rfl (lv_at hl 2 rfl) ?_
              refine lv_iload hx hb dX7_seek_23 (lv_at hl 4 rfl) ?_
              refine lv_iload_n hx hb dX7_seek_25 rfl (lv_at hl 3 rfl) ?_
              refine wk_ri (wk_callV (rest := []) C0 cl_X7_15 (ok_X7_nobodyWakes hI hc1 hw) hP (by decide) sh_51 rfl rfl rfl (Nat.le_of_ble_eq_true rfl) (wk_room (by decide) (by decide)) hl.1 dX7_seek_26 ⟨Nat.le_refl _, Nat.le_refl _⟩) hS (fun r12 s13 H locs hw hP hS => ?_)
              have q14 := hw.1
              have hw := hw.2
              refine wk_if_eq hx hb q14 (tgt := 44) dX7_seek_29 (by decide) (fun hh => ?_) (fun hh => ?_)
              · have hw := hw.1 hh
                refine wk_iinc (lv' := fun x4_15 => [(4, .int (iI x4_15)), (0, .ref (ad 51)), (1, .ref (ad c1)), (2, .int (iI a2)), (3, .int (iI y3_1))]) hx hb dX7_seek_44 hl (k := 4) rfl (by decide) (fun _ => rfl) (fun x4_15 ls ex4_15 hl => ?_)
                have hw := hw x4_15 ex4_15
                refine lv_goto (tgt := 10) hx hb dX7_seek_47 (by decide) ?_
                obtain ⟨k16, hk16, hw⟩ := hw
                exact ih10 k16 hk16 x4_15 s13 _ _ _ hP hS (lv_sub hl [1, 2, 3, 4, 0] rfl) hw
              · have hw := hw.2 hh
                refine lv_aload_n hx hb dX7_seek_32 rfl (lv_at hl 0 rfl) ?_
                refine lv_iload_n hx hb dX7_seek_33 rfl (lv_at hl 3 rfl) ?_
                refine wk_putI C0 fl_X7_19 rfl rfl hP hS (by decide) sh_51 rfl dX7_seek_34 (fun s17 H locs es17 hP hS => ?_)
                have hw := hw s17 es17
                refine lv_aload_n hx hb dX7_seek_37 rfl (lv_at hl 0 rfl) ?_
                refine lv_iload hx hb dX7_seek_38 (lv_at hl 4 rfl) ?_
                refine wk_putI C0 fl_X7_23 rfl rfl hP hS (by decide) sh_51 rfl dX7_seek_40 (fun s18 H locs es18 hP hS => ?_)
                have hw := hw s18 es18
                exact hret _ _ _ _ _ hw hP hS dX7_seek_43
        obtain ⟨k19, hw⟩ := hw
        exact kI10 k19 0 s2 _ _ _ hP hS (lv_sub hl [1, 2, 3, 4, 0] rfl) hw
  obtain ⟨k20, hw⟩ := hw
  exact kI2 k20 1 sg _ _ _ hP hS (lv_sub hl [1, 2, 3, 0] rfl) hw

set_option maxRecDepth 100000 in
set_option maxHeartbeats 4000000 in
theorem ok_X8_likeBefore {l : Launch} {D : va_G} {cA : Nat → ClassId} {ad : Nat → Nat} (hI : wI ad) {a1 : Int} {sg : Mem} {Q : Int → Prop} (hw : wp_X8_likeBefore a1 sg Q) : wMi l D cA ad yX8_likeBefore cX8_likeBefore 3 (some .int) 1 [.ref (ad 58), .int (iI a1)] sg (fun z u => u = sg ∧ Q z) := by
  refine wk_ofI (by decide) hI (Nat.le_of_ble_eq_true rfl) ?_
  intro p e s m below meth c A QQ ls C0 hret hl hP
  have hx := C0.1
  have hb := C0.2.1
  have hown := C0.2.2.2.1
  have htb := C0.2.2.2.2.1
  have hl : lv_has ls 3 [(0, .ref (ad 58)), (1, .int (iI a1))] := hl
  refine (fun (key : ∀ (H : Heap) (locs : List Loc), wP D cA ad sg H → va_S (wA ad) s.heap H locs → W p l e (rmL 1) s m A below meth c H locs 0 0 QQ (F0 m 0 ls [])) => key _ _ hP va_S.rf) ?_
  intro H locs hP hS
  unfold wp_X8_likeBefore at hw
  refine lv_iconst (v := iI 0) hx hb dX8_likeBefore_0 rfl ?_
  refine lv_istore_n (lv' := [(2, .int (iI 0)), (0, .ref (ad 58)), (1, .int (iI a1))]) hx hb dX8_likeBefore_1 rfl hl (by decide) rfl (fun ls hl => ?_)
  obtain ⟨I2, hI2, hw⟩ := hw
  have kI2 : ∀ (k2 : Nat) (y2_1 : Int) (H : Heap) (locs : List Loc) (ls : Array Slot), wP D cA ad sg H → va_S (wA ad) s.heap H locs → lv_has ls 3 [(0, .ref (ad 58)), (1, .int (iI a1)), (2, .int (iI y2_1))] → I2 k2 y2_1 → W p l e (rmL 1) s m A below meth c H locs 0 0 QQ (F0 m 2 ls []) := by
    intro k2
    induction k2 using Nat.strongRecOn with
    | _ k2 ih2 =>
      intro y2_1 H locs ls hP hS hl hw
      have hw := hI2 k2 y2_1 hw
      refine lv_iload_n hx hb dX8_likeBefore_2 rfl (lv_at hl 2 rfl) ?_
      refine lv_iload_n hx hb dX8_likeBefore_3 rfl (lv_at hl 1 rfl) ?_
      have q2 := hw.1
      have hw := hw.2
      have q3 := hw.1
      have hw := hw.2
      refine wk_icmp_ge hx hb q2 q3 (tgt := 31) dX8_likeBefore_4 (by decide) (fun hh => ?_) (fun hh => ?_)
      · have hw := hw.1 hh
        refine lv_iconst (v := iI (-1)) hx hb dX8_likeBefore_31 rfl ?_
        exact hret _ _ _ _ _ _ ⟨rfl, hw⟩ hP hS dX8_likeBefore_32
      · have hw := hw.2 hh
        refine lv_aload_n hx hb dX8_likeBefore_7 rfl (lv_at hl 0 rfl) ?_
        refine wk_getR 59 C0 fl_X8_9 hP (by decide) sh_58 rfl dX8_likeBefore_8 ?_
        refine lv_iload_n hx hb dX8_likeBefore_11 rfl (lv_at hl 2 rfl) ?_
        have q4 := hw.1
        have hw := hw.2
        refine wk_lald C0 hP (by decide) sh_59 q4.1 q4.2 (by decide) dX8_likeBefore_12 ?_
        refine lv_aload_n hx hb dX8_likeBefore_13 rfl (lv_at hl 0 rfl) ?_
        refine wk_getR 59 C0 fl_X8_9 hP (by decide) sh_58 rfl dX8_likeBefore_14 ?_
        refine lv_iload_n hx hb dX8_likeBefore_17 rfl (lv_at hl 1 rfl) ?_
        have q5 := hw.1
        have hw := hw.2
        refine wk_lald C0 hP (by decide) sh_59 q5.1 q5.2 (by decide) dX8_likeBefore_18 ?_
        have q6 := hw.1
        have hw := hw.2
        have q7 := hw.1
        have hw := hw.2
        refine wk_lcmp_ne hx hb q6 q7 (tgt := 25) dX8_likeBefore_19 dX8_likeBefore_20 (by decide) (fun hh => ?_) (fun hh => ?_)
        · have hw := hw.2 hh
          refine wk_iinc (lv' := fun x2_8 => [(2, .int (iI x2_8)), (0, .ref (ad 58)), (1, .int (iI a1))]) hx hb dX8_likeBefore_25 hl (k := 2) rfl (by decide) (fun _ => rfl) (fun x2_8 ls ex2_8 hl => ?_)
          have hw := hw x2_8 ex2_8
          refine lv_goto (tgt := 2) hx hb dX8_likeBefore_28 (by decide) ?_
          obtain ⟨k9, hk9, hw⟩ := hw
          exact ih2 k9 hk9 x2_8 _ _ _ hP hS (lv_sub hl [1, 2, 0] rfl) hw
        · have hw := hw.1 hh
          refine lv_iload_n hx hb dX8_likeBefore_23 rfl (lv_at hl 2 rfl) ?_
          exact hret _ _ _ _ _ _ ⟨rfl, hw⟩ hP hS dX8_likeBefore_24
  obtain ⟨k10, hw⟩ := hw
  exact kI2 k10 0 _ _ _ hP hS (lv_sub hl [1, 2, 0] rfl) hw

set_option maxRecDepth 100000 in
set_option maxHeartbeats 4000000 in
theorem ok_X8_seek {l : Launch} {D : va_G} {cA : Nat → ClassId} {ad : Nat → Nat} (hI : wI ad) {c1 : Nat} (hc1 : isN c1) {sg : Mem} {Q : Mem → Prop} (hw : wp_X8_seek c1 sg Q) : wMv l D cA ad yX8_seek cX8_seek 4 none 6 [.ref (ad 58), .ref (ad c1)] sg Q := by
  refine wk_ofV (by decide) hI (Nat.le_of_ble_eq_true rfl) ?_
  intro p e s m below meth c A QQ ls C0 hret hl hP
  have hx := C0.1
  have hb := C0.2.1
  have hown := C0.2.2.2.1
  have htb := C0.2.2.2.2.1
  have hl : lv_has ls 4 [(0, .ref (ad 58)), (1, .ref (ad c1))] := hl
  refine (fun (key : ∀ (H : Heap) (locs : List Loc), wP D cA ad sg H → va_S (wA ad) s.heap H locs → W p l e (rmL 6) s m A below meth c H locs 0 0 QQ (F0 m 0 ls [])) => key _ _ hP va_S.rf) ?_
  intro H locs hP hS
  unfold wp_X8_seek at hw
  refine lv_aload_n hx hb dX8_seek_0 rfl (lv_at hl 0 rfl) ?_
  refine lv_iconst (v := iI (-1)) hx hb dX8_seek_1 rfl ?_
  refine wk_putI C0 fl_X8_19 rfl rfl hP hS (by decide) sh_58 rfl dX8_seek_2 (fun s1 H locs es1 hP hS => ?_)
  have hw := hw s1 es1
  refine lv_aload_n hx hb dX8_seek_5 rfl (lv_at hl 0 rfl) ?_
  refine lv_iconst (v := iI 0) hx hb dX8_seek_6 rfl ?_
  refine wk_putI C0 fl_X8_23 rfl rfl hP hS (by decide) sh_58 rfl dX8_seek_7 (fun s2 H locs es2 hP hS => ?_)
  have hw := hw s2 es2
  refine lv_aload_n hx hb dX8_seek_10 rfl (lv_at hl 0 rfl) ?_
  refine wk_getR 20 C0 fl_X8_15 hP (by decide) sh_58 rfl dX8_seek_11 ?_
  refine lv_aload_n hx hb dX8_seek_14 rfl (lv_at hl 1 rfl) ?_
  refine wk_rv (wk_callV (rest := []) C0 cl_X8_26 (ok_X4_become hI isN_20 hc1 hw) hP (by decide) sh_20 rfl rfl rfl (Nat.le_of_ble_eq_true rfl) (wk_room (by decide) (by decide)) hl.1 dX8_seek_15 ⟨Nat.le_refl _, Nat.le_refl _⟩) hS (fun s3 H locs hw hP hS => ?_)
  refine lv_aload_n hx hb dX8_seek_18 rfl (lv_at hl 0 rfl) ?_
  refine wk_getR 59 C0 fl_X8_9 hP (by decide) sh_58 rfl dX8_seek_19 ?_
  refine lv_iconst (v := iI 0) hx hb dX8_seek_22 rfl ?_
  refine lv_aload_n hx hb dX8_seek_23 rfl (lv_at hl 0 rfl) ?_
  refine wk_getR 20 C0 fl_X8_15 hP (by decide) sh_58 rfl dX8_seek_24 ?_
  refine wk_rlp (wk_callV (rest := [.int (iI 0), .ref (ad 59)]) C0 cl_X8_32 (ok_X4_code hI isN_20 hw) hP (by decide) sh_20 rfl rfl rfl (Nat.le_of_ble_eq_true rfl) (wk_room (by decide) (by decide)) hl.1 dX8_seek_27 ⟨Nat.le_refl _, Nat.le_refl _⟩) hS (fun r4 H locs hw hP hS => ?_)
  refine wk_last C0 hP hS (by decide) sh_59 (by decide) (by decide) (by decide) dX8_seek_30 (fun s5 H locs es5 hP hS => ?_)
  have hw := hw s5 es5
  refine lv_iconst (v := iI 1) hx hb dX8_seek_31 rfl ?_
  refine lv_istore_n (lv' := [(2, .int (iI 1)), (0, .ref (ad 58)), (1, .ref (ad c1))]) hx hb dX8_seek_32 rfl hl (by decide) rfl (fun ls hl => ?_)
  obtain ⟨I33, hI33, hw⟩ := hw
  have kI33 : ∀ (k33 : Nat) (y2_6 : Int) (s7 : Mem) (H : Heap) (locs : List Loc) (ls : Array Slot), wP D cA ad s7 H → va_S (wA ad) s.heap H locs → lv_has ls 4 [(0, .ref (ad 58)), (1, .ref (ad c1)), (2, .int (iI y2_6))] → I33 k33 y2_6 s7 → W p l e (rmL 6) s m A below meth c H locs 0 0 QQ (F0 m 33 ls []) := by
    intro k33
    induction k33 using Nat.strongRecOn with
    | _ k33 ih33 =>
      intro y2_6 s7 H locs ls hP hS hl hw
      have hw := hI33 k33 y2_6 s7 hw
      refine lv_iload_n hx hb dX8_seek_33 rfl (lv_at hl 2 rfl) ?_
      refine lv_sipush (v := iI 200) hx hb dX8_seek_34 (by decide +kernel) ?_
      have q8 := hw.1
      have hw := hw.2
      refine wk_icmp_gt hx hb q8 ⟨by decide, by decide⟩ (tgt := 109) dX8_seek_37 (by decide) (fun hh => ?_) (fun hh => ?_)
      · have hw := hw.1 hh
        exact hret _ _ _ _ _ hw hP hS dX8_seek_109
      · have hw := hw.2 hh
        refine lv_iconst (v := iI 0) hx hb dX8_seek_40 rfl ?_
        refine lv_istore_n (lv' := [(3, .int (iI 0)), (0, .ref (ad 58)), (1, .ref (ad c1)), (2, .int (iI y2_6))]) hx hb dX8_seek_41 rfl hl (by decide) rfl (fun ls hl => ?_)
        obtain ⟨I42, hI42, hw⟩ := hw
        have kI42 : ∀ (k42 : Nat) (y3_9 : Int) (s10 : Mem) (H : Heap) (locs : List Loc) (ls : Array Slot), wP D cA ad s10 H → va_S (wA ad) s.heap H locs → lv_has ls 4 [(0, .ref (ad 58)), (1, .ref (ad c1)), (2, .int (iI y2_6)), (3, .int (iI y3_9))] → I42 k42 y3_9 s10 → W p l e (rmL 6) s m A below meth c H locs 0 0 QQ (F0 m 42 ls []) := by
          intro k42
          induction k42 using Nat.strongRecOn with
          | _ k42 ih42 =>
            intro y3_9 s10 H locs ls hP hS hl hw
            have hw := hI42 k42 y3_9 s10 hw
            refine lv_iload_n hx hb dX8_seek_42 rfl (lv_at hl 3 rfl) ?_
            refine lv_aload_n hx hb dX8_seek_43 rfl (lv_at hl 1 rfl) ?_
            refine wk_getR 1 C0 fl_X8_36 hP (isN_lt hc1) (isN_sh hc1).2.1 rfl dX8_seek_44 ?_
            refine wk_getI C0 fl_X8_40 hP (by decide) sh_1 rfl dX8_seek_47 ?_
            have q11 := hw.1
            have hw := hw.2
            have q12 := hw.1
            have hw := hw.2
            refine wk_icmp_ge hx hb q11 q12 (tgt := 66) dX8_seek_50 (by decide) (fun hh => ?_) (fun hh => ?_)
            · have hw := hw.1 hh
              refine lv_aload_n hx hb dX8_seek_66 rfl (lv_at hl 0 rfl) ?_
              refine wk_getR 59 C0 fl_X8_9 hP (by decide) sh_58 rfl dX8_seek_67 ?_
              refine lv_iload_n hx hb dX8_seek_70 rfl (lv_at hl 2 rfl) ?_
              refine lv_aload_n hx hb dX8_seek_71 rfl (lv_at hl 0 rfl) ?_
              refine wk_getR 20 C0 fl_X8_15 hP (by decide) sh_58 rfl dX8_seek_72 ?_
              refine wk_rlp (wk_callV (rest := [.int (iI y2_6), .ref (ad 59)]) C0 cl_X8_32 (ok_X4_code hI isN_20 hw) hP (by decide) sh_20 rfl rfl rfl (Nat.le_of_ble_eq_true rfl) (wk_room (by decide) (by decide)) hl.1 dX8_seek_75 ⟨Nat.le_refl _, Nat.le_refl _⟩) hS (fun r13 H locs hw hP hS => ?_)
              have q14 := hw.1
              have hw := hw.2
              refine wk_last C0 hP hS (by decide) sh_59 q14.1 q14.2 (by decide) dX8_seek_78 (fun s15 H locs es15 hP hS => ?_)
              have hw := hw s15 es15
              refine lv_aload_n hx hb dX8_seek_79 rfl (lv_at hl 0 rfl) ?_
              refine lv_iload_n hx hb dX8_seek_80 rfl (lv_at hl 2 rfl) ?_
              refine wk_rip (wk_callV (rest := []) C0 cl_X8_48 (ok_X8_likeBefore hI hw) hP (by decide) sh_58 rfl rfl rfl (Nat.le_of_ble_eq_true rfl) (wk_room (by decide) (by decide)) hl.1 dX8_seek_81 ⟨Nat.le_refl _, Nat.le_refl _⟩) hS (fun r16 H locs hw hP hS => ?_)
              refine lv_istore_n (lv' := [(3, .int (iI r16)), (0, .ref (ad 58)), (1, .ref (ad c1)), (2, .int (iI y2_6))]) hx hb dX8_seek_84 rfl hl (by decide) rfl (fun ls hl => ?_)
              refine lv_iload_n hx hb dX8_seek_85 rfl (lv_at hl 0 rfl) ?_
              refine lv_iconst (v := iI (-1)) hx hb dX8_seek_86 rfl ?_
              have q17 := hw.1
              have hw := hw.2
              refine wk_icmp_eq hx hb q17 ⟨by decide, by decide⟩ (tgt := 103) dX8_seek_87 (by decide) (fun hh => ?_) (fun hh => ?_)
              · have hw := hw.1 hh
                refine wk_iinc (lv' := fun x2_18 => [(2, .int (iI x2_18)), (3, .int (iI r16)), (0, .ref (ad 58)), (1, .ref (ad c1))]) hx hb dX8_seek_103 hl (k := 3) rfl (by decide) (fun _ => rfl) (fun x2_18 ls ex2_18 hl => ?_)
                have hw := hw x2_18 ex2_18
                refine lv_goto (tgt := 33) hx hb dX8_seek_106 (by decide) ?_
                obtain ⟨k19, hk19, hw⟩ := hw
                exact ih33 k19 hk19 x2_18 s15 _ _ _ hP hS (lv_sub hl [2, 3, 0] rfl) hw
              · have hw := hw.2 hh
                refine lv_aload_n hx hb dX8_seek_90 rfl (lv_at hl 1 rfl) ?_
                refine lv_iload_n hx hb dX8_seek_91 rfl (lv_at hl 0 rfl) ?_
                refine wk_putI C0 fl_X8_23 rfl rfl hP hS (by decide) sh_58 rfl dX8_seek_92 (fun s20 H locs es20 hP hS => ?_)
                have hw := hw s20 es20
                refine lv_aload_n hx hb dX8_seek_95 rfl (lv_at hl 1 rfl) ?_
                refine lv_iload_n hx hb dX8_seek_96 rfl (lv_at hl 3 rfl) ?_
                refine lv_iload_n hx hb dX8_seek_97 rfl (lv_at hl 0 rfl) ?_
                refine wk_isub hx hb dX8_seek_98 ?_
                refine wk_putI C0 fl_X8_19 rfl rfl hP hS (by decide) sh_58 rfl dX8_seek_99 (fun s21 H locs es21 hP hS => ?_)
                have hw := hw s21 es21
                exact hret _ _ _ _ _ hw hP hS dX8_seek_102
            · have hw := hw.2 hh
              refine lv_aload_n hx hb dX8_seek_53 rfl (lv_at hl 0 rfl) ?_
              refine wk_getR 20 C0 fl_X8_15 hP (by decide) sh_58 rfl dX8_seek_54 ?_
              refine wk_rv (wk_callV (rest := []) C0 cl_X8_45 (ok_X4_passByLaw hI isN_20 hw) hP (by decide) sh_20 rfl rfl rfl (Nat.le_of_ble_eq_true rfl) (wk_room (by decide) (by decide)) hl.1 dX8_seek_57 ⟨Nat.le_refl _, Nat.le_refl _⟩) hS (fun s22 H locs hw hP hS => ?_)
              refine wk_iinc (lv' := fun x3_23 => [(3, .int (iI x3_23)), (0, .ref (ad 58)), (1, .ref (ad c1)), (2, .int (iI y2_6))]) hx hb dX8_seek_60 hl (k := 3) rfl (by decide) (fun _ => rfl) (fun x3_23 ls ex3_23 hl => ?_)
              have hw := hw x3_23 ex3_23
              refine lv_goto (tgt := 42) hx hb dX8_seek_63 (by decide) ?_
              obtain ⟨k24, hk24, hw⟩ := hw
              exact ih42 k24 hk24 x3_23 s22 _ _ _ hP hS (lv_sub hl [1, 2, 3, 0] rfl) hw
        obtain ⟨k25, hw⟩ := hw
        exact kI42 k25 0 s7 _ _ _ hP hS (lv_sub hl [1, 2, 3, 0] rfl) hw
  obtain ⟨k26, hw⟩ := hw
  exact kI33 k26 1 s5 _ _ _ hP hS (lv_sub hl [1, 2, 0] rfl) hw

set_option maxRecDepth 100000 in
set_option maxHeartbeats 4000000 in
theorem ok_X8_hoursInWarmest {l : Launch} {D : va_G} {cA : Nat → ClassId} {ad : Nat → Nat} (hI : wI ad) {c1 : Nat} (hc1 : isN c1) {a2 : Int} {sg : Mem} {Q : Int → Mem → Prop} (hw : wp_X8_hoursInWarmest c1 a2 sg Q) : wMi l D cA ad yX8_hoursInWarmest cX8_hoursInWarmest 7 (some .int) 6 [.ref (ad 58), .ref (ad c1), .int (iI a2)] sg Q := by
  refine wk_ofI (by decide) hI (Nat.le_of_ble_eq_true rfl) ?_
  intro p e s m below meth c A QQ ls C0 hret hl hP
  have hx := C0.1
  have hb := C0.2.1
  have hown := C0.2.2.2.1
  have htb := C0.2.2.2.2.1
  have hl : lv_has ls 7 [(0, .ref (ad 58)), (1, .ref (ad c1)), (2, .int (iI a2))] := hl
  refine (fun (key : ∀ (H : Heap) (locs : List Loc), wP D cA ad sg H → va_S (wA ad) s.heap H locs → W p l e (rmL 6) s m A below meth c H locs 0 0 QQ (F0 m 0 ls [])) => key _ _ hP va_S.rf) ?_
  intro H locs hP hS
  unfold wp_X8_hoursInWarmest at hw
  refine lv_aload_n hx hb dX8_hoursInWarmest_0 rfl (lv_at hl 1 rfl) ?_
  refine wk_getR 1 C0 fl_X8_36 hP (isN_lt hc1) (isN_sh hc1).2.1 rfl dX8_hoursInWarmest_1 ?_
  refine wk_rip (wk_callV (rest := []) C0 cl_X8_52 (ok_X0_warmestPlace hI hw) hP (by decide) sh_1 rfl rfl rfl (Nat.le_of_ble_eq_true rfl) (wk_room (by decide) (by decide)) hl.1 dX8_hoursInWarmest_4 ⟨Nat.le_refl _, Nat.le_refl _⟩) hS (fun r1 H locs hw hP hS => ?_)
  refine lv_istore_n (lv' := [(3, .int (iI r1)), (0, .ref (ad 58)), (1, .ref (ad c1)), (2, .int (iI a2))]) hx hb dX8_hoursInWarmest_7 rfl hl (by decide) rfl (fun ls hl => ?_)
  refine lv_aload_n hx hb dX8_hoursInWarmest_8 rfl (lv_at hl 2 rfl) ?_
  refine wk_getR 1 C0 fl_X8_36 hP (isN_lt hc1) (isN_sh hc1).2.1 rfl dX8_hoursInWarmest_9 ?_
  refine wk_getI C0 fl_X8_40 hP (by decide) sh_1 rfl dX8_hoursInWarmest_12 ?_
  refine wk_top (fun x4_2 ex4_2 => ?_)
  have hw := hw x4_2 ex4_2
  refine lv_istore (lv' := [(4, .int (iI x4_2)), (3, .int (iI r1)), (0, .ref (ad 58)), (1, .ref (ad c1)), (2, .int (iI a2))]) hx hb dX8_hoursInWarmest_15 hl (by decide) rfl (fun ls hl => ?_)
  refine lv_aload_n hx hb dX8_hoursInWarmest_17 rfl (lv_at hl 2 rfl) ?_
  refine wk_getR 20 C0 fl_X8_15 hP (by decide) sh_58 rfl dX8_hoursInWarmest_18 ?_
  refine lv_aload_n hx hb dX8_hoursInWarmest_21 rfl (lv_at hl 3 rfl) ?_
  refine wk_rv (wk_callV (rest := []) C0 cl_X8_26 (ok_X4_become hI isN_20 hc1 hw) hP (by decide) sh_20 rfl rfl rfl (Nat.le_of_ble_eq_true rfl) (wk_room (by decide) (by decide)) hl.1 dX8_hoursInWarmest_22 ⟨Nat.le_refl _, Nat.le_refl _⟩) hS (fun s3 H locs hw hP hS => ?_)
  refine lv_iconst (v := iI 0) hx hb dX8_hoursInWarmest_25 rfl ?_
  refine lv_istore (lv' := [(5, .int (iI 0)), (4, .int (iI x4_2)), (3, .int (iI r1)), (0, .ref (ad 58)), (1, .ref (ad c1)), (2, .int (iI a2))]) hx hb dX8_hoursInWarmest_26 hl (by decide) rfl (fun ls hl => ?_)
  obtain ⟨I28, hI28, hw⟩ := hw
  have kI28 : ∀ (k28 : Nat) (y5_4 : Int) (s5 : Mem) (H : Heap) (locs : List Loc) (ls : Array Slot), wP D cA ad s5 H → va_S (wA ad) s.heap H locs → lv_has ls 7 [(0, .ref (ad 58)), (2, .int (iI a2)), (3, .int (iI r1)), (4, .int (iI x4_2)), (5, .int (iI y5_4))] → I28 k28 y5_4 s5 → W p l e (rmL 6) s m A below meth c H locs 0 0 QQ (F0 m 28 ls []) := by
    intro k28
    induction k28 using Nat.strongRecOn with
    | _ k28 ih28 =>
      intro y5_4 s5 H locs ls hP hS hl hw
      have hw := hI28 k28 y5_4 s5 hw
      refine lv_iload hx hb dX8_hoursInWarmest_28 (lv_at hl 4 rfl) ?_
      refine lv_aload_n hx hb dX8_hoursInWarmest_30 rfl (lv_at hl 0 rfl) ?_
      refine wk_getI C0 fl_X8_23 hP (by decide) sh_58 rfl dX8_hoursInWarmest_31 ?_
      refine lv_iload hx hb dX8_hoursInWarmest_34 (lv_at hl 3 rfl) ?_
      refine wk_imul hx hb dX8_hoursInWarmest_36 ?_
      have q6 := hw.1
      have hw := hw.2
      have q7 := hw.1
      have hw := hw.2
      refine wk_icmp_ge hx hb q6 q7 (tgt := 53) dX8_hoursInWarmest_37 (by decide) (fun hh => ?_) (fun hh => ?_)
      · have hw := hw.1 hh
        refine lv_iconst (v := iI 0) hx hb dX8_hoursInWarmest_53 rfl ?_
        refine lv_istore (lv' := [(5, .int (iI 0)), (0, .ref (ad 58)), (2, .int (iI a2)), (3, .int (iI r1)), (4, .int (iI x4_2))]) hx hb dX8_hoursInWarmest_54 hl (by decide) rfl (fun ls hl => ?_)
        refine lv_iconst (v := iI 0) hx hb dX8_hoursInWarmest_56 rfl ?_
        refine lv_istore (lv' := [(6, .int (iI 0)), (5, .int (iI 0)), (0, .ref (ad 58)), (2, .int (iI a2)), (3, .int (iI r1)), (4, .int (iI x4_2))]) hx hb dX8_hoursInWarmest_57 hl (by decide) rfl (fun ls hl => ?_)
        obtain ⟨I59, hI59, hw⟩ := hw
        have kI59 : ∀ (k59 : Nat) (y5_8 : Int) (y6_9 : Int) (s10 : Mem) (H : Heap) (locs : List Loc) (ls : Array Slot), wP D cA ad s10 H → va_S (wA ad) s.heap H locs → lv_has ls 7 [(0, .ref (ad 58)), (2, .int (iI a2)), (3, .int (iI r1)), (4, .int (iI x4_2)), (5, .int (iI y5_8)), (6, .int (iI y6_9))] → I59 k59 y5_8 y6_9 s10 → W p l e (rmL 6) s m A below meth c H locs 0 0 QQ (F0 m 59 ls []) := by
          intro k59
          induction k59 using Nat.strongRecOn with
          | _ k59 ih59 =>
            intro y5_8 y6_9 s10 H locs ls hP hS hl hw
            have hw := hI59 k59 y5_8 y6_9 s10 hw
            refine lv_iload hx hb dX8_hoursInWarmest_59 (lv_at hl 5 rfl) ?_
            refine lv_aload_n hx hb dX8_hoursInWarmest_61 rfl (lv_at hl 0 rfl) ?_
            refine wk_getI C0 fl_X8_19 hP (by decide) sh_58 rfl dX8_hoursInWarmest_62 ?_
            refine lv_iload hx hb dX8_hoursInWarmest_65 (lv_at hl 3 rfl) ?_
            refine wk_imul hx hb dX8_hoursInWarmest_67 ?_
            have q11 := hw.1
            have hw := hw.2
            have q12 := hw.1
            have hw := hw.2
            refine wk_icmp_ge hx hb q11 q12 (tgt := 100) dX8_hoursInWarmest_68 (by decide) (fun hh => ?_) (fun hh => ?_)
            · have hw := hw.1 hh
              refine lv_iload hx hb dX8_hoursInWarmest_100 (lv_at hl 4 rfl) ?_
              exact hret _ _ _ _ _ _ hw hP hS dX8_hoursInWarmest_102
            · have hw := hw.2 hh
              refine lv_aload_n hx hb dX8_hoursInWarmest_71 rfl (lv_at hl 0 rfl) ?_
              refine wk_getR 20 C0 fl_X8_15 hP (by decide) sh_58 rfl dX8_hoursInWarmest_72 ?_
              refine wk_rv (wk_callV (rest := []) C0 cl_X8_45 (ok_X4_passByLaw hI isN_20 hw) hP (by decide) sh_20 rfl rfl rfl (Nat.le_of_ble_eq_true rfl) (wk_room (by decide) (by decide)) hl.1 dX8_hoursInWarmest_75 ⟨Nat.le_refl _, Nat.le_refl _⟩) hS (fun s13 H locs hw hP hS => ?_)
              refine lv_aload_n hx hb dX8_hoursInWarmest_78 rfl (lv_at hl 0 rfl) ?_
              refine wk_getR 20 C0 fl_X8_15 hP (by decide) sh_58 rfl dX8_hoursInWarmest_79 ?_
              refine wk_getR 21 C0 fl_X8_56 hP (by decide) sh_20 rfl dX8_hoursInWarmest_82 ?_
              refine lv_iload_n hx hb dX8_hoursInWarmest_85 rfl (lv_at hl 2 rfl) ?_
              have q14 := hw.1
              have hw := hw.2
              refine wk_iald C0 hP (by decide) sh_21 q14.1 q14.2 (by decide) dX8_hoursInWarmest_86 ?_
              refine lv_iload_n hx hb dX8_hoursInWarmest_87 rfl (lv_at hl 1 rfl) ?_
              have q15 := hw.1
              have hw := hw.2
              have q16 := hw.1
              have hw := hw.2
              obtain ⟨X94, hX94, hw⟩ := hw
              have kX94 : ∀ (y5_17 : Int) (H : Heap) (locs : List Loc) (ls : Array Slot), wP D cA ad s13 H → va_S (wA ad) s.heap H locs → lv_has ls 7 [(0, .ref (ad 58)), (2, .int (iI a2)), (3, .int (iI r1)), (4, .int (iI x4_2)), (5, .int (iI y5_17)), (6, .int (iI y6_9))] → X94 y5_17 → W p l e (rmL 6) s m A below meth c H locs 0 0 QQ (F0 m 94 ls []) := by
                intro y5_17 H locs ls hP hS hl hw
                have hw := hX94 y5_17 hw
                refine wk_iinc (lv' := fun x6_18 => [(6, .int (iI x6_18)), (0, .ref (ad 58)), (2, .int (iI a2)), (3, .int (iI r1)), (4, .int (iI x4_2)), (5, .int (iI y5_17))]) hx hb dX8_hoursInWarmest_94 hl (k := 5) rfl (by decide) (fun _ => rfl) (fun x6_18 ls ex6_18 hl => ?_)
                have hw := hw x6_18 ex6_18
                refine lv_goto (tgt := 59) hx hb dX8_hoursInWarmest_97 (by decide) ?_
                obtain ⟨k19, hk19, hw⟩ := hw
                exact ih59 k19 hk19 y5_17 x6_18 s13 _ _ _ hP hS (lv_sub hl [1, 2, 3, 4, 5, 0] rfl) hw
              refine wk_icmp_ne hx hb q15 q16 (tgt := 94) dX8_hoursInWarmest_88 (by decide) (fun hh => ?_) (fun hh => ?_)
              · have hw := hw.2 hh
                exact kX94 y5_8 _ _ _ hP hS (lv_sub hl [0, 1, 2, 3, 4, 5] rfl) hw
              · have hw := hw.1 hh
                refine wk_iinc (lv' := fun x5_20 => [(5, .int (iI x5_20)), (0, .ref (ad 58)), (2, .int (iI a2)), (3, .int (iI r1)), (4, .int (iI x4_2)), (6, .int (iI y6_9))]) hx hb dX8_hoursInWarmest_91 hl (k := 4) rfl (by decide) (fun _ => rfl) (fun x5_20 ls ex5_20 hl => ?_)
                have hw := hw x5_20 ex5_20
                exact kX94 x5_20 _ _ _ hP hS (lv_sub hl [1, 2, 3, 4, 0, 5] rfl) hw
        obtain ⟨k21, hw⟩ := hw
        exact kI59 k21 0 0 s5 _ _ _ hP hS (lv_sub hl [2, 3, 4, 5, 1, 0] rfl) hw
      · have hw := hw.2 hh
        refine lv_aload_n hx hb dX8_hoursInWarmest_40 rfl (lv_at hl 0 rfl) ?_
        refine wk_getR 20 C0 fl_X8_15 hP (by decide) sh_58 rfl dX8_hoursInWarmest_41 ?_
        refine wk_rv (wk_callV (rest := []) C0 cl_X8_45 (ok_X4_passByLaw hI isN_20 hw) hP (by decide) sh_20 rfl rfl rfl (Nat.le_of_ble_eq_true rfl) (wk_room (by decide) (by decide)) hl.1 dX8_hoursInWarmest_44 ⟨Nat.le_refl _, Nat.le_refl _⟩) hS (fun s22 H locs hw hP hS => ?_)
        refine wk_iinc (lv' := fun x5_23 => [(5, .int (iI x5_23)), (0, .ref (ad 58)), (2, .int (iI a2)), (3, .int (iI r1)), (4, .int (iI x4_2))]) hx hb dX8_hoursInWarmest_47 hl (k := 4) rfl (by decide) (fun _ => rfl) (fun x5_23 ls ex5_23 hl => ?_)
        have hw := hw x5_23 ex5_23
        refine lv_goto (tgt := 28) hx hb dX8_hoursInWarmest_50 (by decide) ?_
        obtain ⟨k24, hk24, hw⟩ := hw
        exact ih28 k24 hk24 x5_23 s22 _ _ _ hP hS (lv_sub hl [1, 2, 3, 4, 0] rfl) hw
  obtain ⟨k25, hw⟩ := hw
  exact kI28 k25 0 s3 _ _ _ hP hS (lv_sub hl [3, 5, 2, 1, 0] rfl) hw

set_option maxRecDepth 100000 in
set_option maxHeartbeats 4000000 in
theorem ok_X9_empty {l : Launch} {D : va_G} {cA : Nat → ClassId} {ad : Nat → Nat} (hI : wI ad) {sg : Mem} {Q : Mem → Prop} (hw : wp_X9_empty sg Q) : wMv l D cA ad yX9_empty cX9_empty 1 none 1 [.ref (ad 60)] sg Q := by
  refine wk_ofV (by decide) hI (Nat.le_of_ble_eq_true rfl) ?_
  intro p e s m below meth c A QQ ls C0 hret hl hP
  have hx := C0.1
  have hb := C0.2.1
  have hown := C0.2.2.2.1
  have htb := C0.2.2.2.2.1
  have hl : lv_has ls 1 [(0, .ref (ad 60))] := hl
  refine (fun (key : ∀ (H : Heap) (locs : List Loc), wP D cA ad sg H → va_S (wA ad) s.heap H locs → W p l e (rmL 1) s m A below meth c H locs 0 0 QQ (F0 m 0 ls [])) => key _ _ hP va_S.rf) ?_
  intro H locs hP hS
  unfold wp_X9_empty at hw
  refine lv_aload_n hx hb dX9_empty_0 rfl (lv_at hl 0 rfl) ?_
  refine lv_iconst (v := iI 0) hx hb dX9_empty_1 rfl ?_
  refine wk_putI C0 fl_X9_18 rfl rfl hP hS (by decide) sh_60 rfl dX9_empty_2 (fun s1 H locs es1 hP hS => ?_)
  have hw := hw s1 es1
  exact hret _ _ _ _ _ hw hP hS dX9_empty_5

set_option maxRecDepth 100000 in
set_option maxHeartbeats 4000000 in
theorem ok_X9_add {l : Launch} {D : va_G} {cA : Nat → ClassId} {ad : Nat → Nat} (hI : wI ad) {a1 : Int} {a2 : Int} {sg : Mem} {Q : Int → Mem → Prop} (hw : wp_X9_add a1 a2 sg Q) : wMi l D cA ad yX9_add cX9_add 3 (some .boolean) 1 [.ref (ad 60), .int (iI a1), .int (iI a2)] sg Q := by
  refine wk_ofZ (by decide) hI (Nat.le_of_ble_eq_true rfl) ?_
  intro p e s m below meth c A QQ ls C0 hret hl hP
  have hx := C0.1
  have hb := C0.2.1
  have hown := C0.2.2.2.1
  have htb := C0.2.2.2.2.1
  have hl : lv_has ls 3 [(0, .ref (ad 60)), (1, .int (iI a1)), (2, .int (iI a2))] := hl
  refine (fun (key : ∀ (H : Heap) (locs : List Loc), wP D cA ad sg H → va_S (wA ad) s.heap H locs → W p l e (rmL 1) s m A below meth c H locs 0 0 QQ (F0 m 0 ls [])) => key _ _ hP va_S.rf) ?_
  intro H locs hP hS
  unfold wp_X9_add at hw
  refine lv_aload_n hx hb dX9_add_0 rfl (lv_at hl 0 rfl) ?_
  refine wk_getI C0 fl_X9_18 hP (by decide) sh_60 rfl dX9_add_1 ?_
  refine lv_bipush (v := iI 6) hx hb dX9_add_4 (by decide +kernel) ?_
  have q1 := hw.1
  have hw := hw.2
  refine wk_icmp_lt hx hb q1 ⟨by decide, by decide⟩ (tgt := 11) dX9_add_6 (by decide) (fun hh => ?_) (fun hh => ?_)
  · have hw := hw.1 hh
    refine lv_aload_n hx hb dX9_add_11 rfl (lv_at hl 0 rfl) ?_
    refine wk_getR 61 C0 fl_X9_9 hP (by decide) sh_60 rfl dX9_add_12 ?_
    refine lv_aload_n hx hb dX9_add_15 rfl (lv_at hl 0 rfl) ?_
    refine wk_getI C0 fl_X9_18 hP (by decide) sh_60 rfl dX9_add_16 ?_
    refine lv_iload_n hx hb dX9_add_19 rfl (lv_at hl 1 rfl) ?_
    have q2 := hw.1
    have hw := hw.2
    refine wk_iast C0 hP hS (by decide) sh_61 q2.1 q2.2 (by decide) dX9_add_20 (fun s3 H locs es3 hP hS => ?_)
    have hw := hw s3 es3
    refine lv_aload_n hx hb dX9_add_21 rfl (lv_at hl 0 rfl) ?_
    refine wk_getR 62 C0 fl_X9_15 hP (by decide) sh_60 rfl dX9_add_22 ?_
    refine lv_aload_n hx hb dX9_add_25 rfl (lv_at hl 0 rfl) ?_
    refine wk_getI C0 fl_X9_18 hP (by decide) sh_60 rfl dX9_add_26 ?_
    refine lv_iload_n hx hb dX9_add_29 rfl (lv_at hl 2 rfl) ?_
    have q4 := hw.1
    have hw := hw.2
    refine wk_iast C0 hP hS (by decide) sh_62 q4.1 q4.2 (by decide) dX9_add_30 (fun s5 H locs es5 hP hS => ?_)
    have hw := hw s5 es5
    refine lv_aload_n hx hb dX9_add_31 rfl (lv_at hl 0 rfl) ?_
    refine lv_dup hx hb dX9_add_32 rfl ?_
    refine wk_getI C0 fl_X9_18 hP (by decide) sh_60 rfl dX9_add_33 ?_
    refine lv_iconst (v := iI 1) hx hb dX9_add_36 rfl ?_
    refine wk_iadd hx hb dX9_add_37 ?_
    refine wk_putI C0 fl_X9_18 rfl rfl hP hS (by decide) sh_60 rfl dX9_add_38 (fun s6 H locs es6 hP hS => ?_)
    have hw := hw s6 es6
    refine lv_iconst (v := iI 1) hx hb dX9_add_41 rfl ?_
    exact hret _ _ _ _ _ _ (by decide) hw hP hS dX9_add_42
  · have hw := hw.2 hh
    refine lv_iconst (v := iI 0) hx hb dX9_add_9 rfl ?_
    exact hret _ _ _ _ _ _ (by decide) hw hP hS dX9_add_10

set_option maxRecDepth 100000 in
set_option maxHeartbeats 4000000 in
theorem ok_X9_fits {l : Launch} {D : va_G} {cA : Nat → ClassId} {ad : Nat → Nat} (hI : wI ad) {c1 : Nat} (hc1 : isN c1) {a2 : Int} {a3 : Int} {sg : Mem} {Q : Int → Prop} (hw : wp_X9_fits c1 a2 a3 sg Q) : wMi l D cA ad yX9_fits cX9_fits 7 (some .boolean) 2 [.ref (ad 60), .ref (ad c1), .int (iI a2), .int (iI a3)] sg (fun z u => u = sg ∧ Q z) := by
  refine wk_ofZ (by decide) hI (Nat.le_of_ble_eq_true rfl) ?_
  intro p e s m below meth c A QQ ls C0 hret hl hP
  have hx := C0.1
  have hb := C0.2.1
  have hown := C0.2.2.2.1
  have htb := C0.2.2.2.2.1
  have hl : lv_has ls 7 [(0, .ref (ad 60)), (1, .ref (ad c1)), (2, .int (iI a2)), (3, .int (iI a3))] := hl
  refine (fun (key : ∀ (H : Heap) (locs : List Loc), wP D cA ad sg H → va_S (wA ad) s.heap H locs → W p l e (rmL 2) s m A below meth c H locs 0 0 QQ (F0 m 0 ls [])) => key _ _ hP va_S.rf) ?_
  intro H locs hP hS
  unfold wp_X9_fits at hw
  refine lv_iconst (v := iI 0) hx hb dX9_fits_0 rfl ?_
  refine lv_istore (lv' := [(4, .int (iI 0)), (0, .ref (ad 60)), (1, .ref (ad c1)), (2, .int (iI a2)), (3, .int (iI a3))]) hx hb dX9_fits_1 hl (by decide) rfl (fun ls hl => ?_)
  obtain ⟨I3, hI3, hw⟩ := hw
  have kI3 : ∀ (k3 : Nat) (y4_1 : Int) (H : Heap) (locs : List Loc) (ls : Array Slot), wP D cA ad sg H → va_S (wA ad) s.heap H locs → lv_has ls 7 [(0, .ref (ad 60)), (1, .ref (ad c1)), (2, .int (iI a2)), (3, .int (iI a3)), (4, .int (iI y4_1))] → I3 k3 y4_1 → W p l e (rmL 2) s m A below meth c H locs 0 0 QQ (F0 m 3 ls []) := by
    intro k3
    induction k3 using Nat.strongRecOn with
    | _ k3 ih3 =>
      intro y4_1 H locs ls hP hS hl hw
      have hw := hI3 k3 y4_1 hw
      refine lv_iload hx hb dX9_fits_3 (lv_at hl 4 rfl) ?_
      refine lv_aload_n hx hb dX9_fits_5 rfl (lv_at hl 0 rfl) ?_
      refine wk_getI C0 fl_X9_18 hP (by decide) sh_60 rfl dX9_fits_6 ?_
      have q2 := hw.1
      have hw := hw.2
      have q3 := hw.1
      have hw := hw.2
      refine wk_icmp_ge hx hb q2 q3 (tgt := 86) dX9_fits_9 (by decide) (fun hh => ?_) (fun hh => ?_)
      · have hw := hw.1 hh
        refine lv_iconst (v := iI 1) hx hb dX9_fits_86 rfl ?_
        exact hret _ _ _ _ _ _ (by decide) ⟨rfl, hw⟩ hP hS dX9_fits_87
      · have hw := hw.2 hh
        refine lv_aload_n hx hb dX9_fits_12 rfl (lv_at hl 1 rfl) ?_
        refine lv_aload_n hx hb dX9_fits_13 rfl (lv_at hl 0 rfl) ?_
        refine wk_getR 61 C0 fl_X9_9 hP (by decide) sh_60 rfl dX9_fits_14 ?_
        refine lv_iload hx hb dX9_fits_17 (lv_at hl 4 rfl) ?_
        have q4 := hw.1
        have hw := hw.2
        refine wk_iald C0 hP (by decide) sh_61 q4.1 q4.2 (by decide) dX9_fits_19 ?_
        refine wk_rip (wk_callV (rest := []) C0 cl_X9_39 (ok_X4_placeOf hI hc1 hw) hP (isN_lt hc1) (isN_sh hc1).2.1 rfl rfl rfl (Nat.le_of_ble_eq_true rfl) (wk_room (by decide) (by decide)) hl.1 dX9_fits_20 ⟨Nat.le_refl _, Nat.le_refl _⟩) hS (fun r5 H locs hw hP hS => ?_)
        refine lv_istore (lv' := [(5, .int (iI r5)), (0, .ref (ad 60)), (1, .ref (ad c1)), (2, .int (iI a2)), (3, .int (iI a3)), (4, .int (iI y4_1))]) hx hb dX9_fits_23 hl (by decide) rfl (fun ls hl => ?_)
        refine lv_iload hx hb dX9_fits_25 (lv_at hl 0 rfl) ?_
        refine lv_iconst (v := iI (-1)) hx hb dX9_fits_27 rfl ?_
        have q6 := hw.1
        have hw := hw.2
        refine wk_icmp_ne hx hb q6 ⟨by decide, by decide⟩ (tgt := 33) dX9_fits_28 (by decide) (fun hh => ?_) (fun hh => ?_)
        · have hw := hw.2 hh
          refine lv_iconst (v := iI 0) hx hb dX9_fits_33 rfl ?_
          refine lv_istore (lv' := [(6, .int (iI 0)), (5, .int (iI r5)), (0, .ref (ad 60)), (1, .ref (ad c1)), (2, .int (iI a2)), (3, .int (iI a3)), (4, .int (iI y4_1))]) hx hb dX9_fits_34 hl (by decide) rfl (fun ls hl => ?_)
          obtain ⟨I36, hI36, hw⟩ := hw
          have kI36 : ∀ (k36 : Nat) (y5_7 : Int) (y6_8 : Int) (H : Heap) (locs : List Loc) (ls : Array Slot), wP D cA ad sg H → va_S (wA ad) s.heap H locs → lv_has ls 7 [(0, .ref (ad 60)), (1, .ref (ad c1)), (2, .int (iI a2)), (3, .int (iI a3)), (4, .int (iI y4_1)), (5, .int (iI y5_7)), (6, .int (iI y6_8))] → I36 k36 y5_7 y6_8 → W p l e (rmL 2) s m A below meth c H locs 0 0 QQ (F0 m 36 ls []) := by
            intro k36
            induction k36 using Nat.strongRecOn with
            | _ k36 ih36 =>
              intro y5_7 y6_8 H locs ls hP hS hl hw
              have hw := hI36 k36 y5_7 y6_8 hw
              refine lv_iload hx hb dX9_fits_36 (lv_at hl 6 rfl) ?_
              refine lv_iload_n hx hb dX9_fits_38 rfl (lv_at hl 3 rfl) ?_
              have q9 := hw.1
              have hw := hw.2
              have q10 := hw.1
              have hw := hw.2
              refine wk_icmp_ge hx hb q9 q10 (tgt := 66) dX9_fits_39 (by decide) (fun hh => ?_) (fun hh => ?_)
              · have hw := hw.1 hh
                refine lv_iload hx hb dX9_fits_66 (lv_at hl 5 rfl) ?_
                refine lv_aload_n hx hb dX9_fits_68 rfl (lv_at hl 0 rfl) ?_
                refine wk_getR 62 C0 fl_X9_15 hP (by decide) sh_60 rfl dX9_fits_69 ?_
                refine lv_iload hx hb dX9_fits_72 (lv_at hl 4 rfl) ?_
                refine wk_iald C0 hP (by decide) sh_62 q4.1 q4.2 (by decide) dX9_fits_74 ?_
                have q11 := hw.1
                have hw := hw.2
                have q12 := hw.1
                have hw := hw.2
                refine wk_icmp_eq hx hb q11 q12 (tgt := 80) dX9_fits_75 (by decide) (fun hh => ?_) (fun hh => ?_)
                · have hw := hw.1 hh
                  refine wk_iinc (lv' := fun x4_13 => [(4, .int (iI x4_13)), (0, .ref (ad 60)), (1, .ref (ad c1)), (2, .int (iI a2)), (3, .int (iI a3)), (5, .int (iI y5_7)), (6, .int (iI y6_8))]) hx hb dX9_fits_80 hl (k := 4) rfl (by decide) (fun _ => rfl) (fun x4_13 ls ex4_13 hl => ?_)
                  have hw := hw x4_13 ex4_13
                  refine lv_goto (tgt := 3) hx hb dX9_fits_83 (by decide) ?_
                  obtain ⟨k14, hk14, hw⟩ := hw
                  exact ih3 k14 hk14 x4_13 _ _ _ hP hS (lv_sub hl [1, 2, 3, 4, 0] rfl) hw
                · have hw := hw.2 hh
                  refine lv_iconst (v := iI 0) hx hb dX9_fits_78 rfl ?_
                  exact hret _ _ _ _ _ _ (by decide) ⟨rfl, hw⟩ hP hS dX9_fits_79
              · have hw := hw.2 hh
                refine lv_aload_n hx hb dX9_fits_42 rfl (lv_at hl 1 rfl) ?_
                refine wk_getR 1 C0 fl_X9_45 hP (isN_lt hc1) (isN_sh hc1).2.1 rfl dX9_fits_43 ?_
                refine lv_iload hx hb dX9_fits_46 (lv_at hl 5 rfl) ?_
                refine lv_iload_n hx hb dX9_fits_48 rfl (lv_at hl 2 rfl) ?_
                refine lv_iload_n hx hb dX9_fits_49 rfl (lv_at hl 3 rfl) ?_
                refine lv_iload hx hb dX9_fits_50 (lv_at hl 6 rfl) ?_
                refine wk_rip (wk_callSN (n := 3) (rest := [.int (iI y5_7), .ref (ad 1)]) C0 C0.2.2.2.2.2.2.2.2 cd_X11_wordOf ini_X11 st_X11_wordOf (by decide +kernel) (ok_X11_wordOf hI hw) hP rfl rfl (Nat.le_of_ble_eq_true rfl) (wk_room (by decide) (by decide)) hl.1 dX9_fits_52 ⟨Nat.le_refl _, Nat.le_refl _⟩) hS (fun r15 H locs hw hP hS => ?_)
                refine wk_rip (wk_callV (rest := []) C0 cl_X9_53 (ok_X0_turned hI hw) hP (by decide) sh_1 rfl rfl rfl (Nat.le_of_ble_eq_true rfl) (wk_room (by decide) (by decide)) hl.1 dX9_fits_55 ⟨Nat.le_refl _, Nat.le_refl _⟩) hS (fun r16 H locs hw hP hS => ?_)
                refine lv_istore (lv' := [(5, .int (iI r16)), (0, .ref (ad 60)), (1, .ref (ad c1)), (2, .int (iI a2)), (3, .int (iI a3)), (4, .int (iI y4_1)), (6, .int (iI y6_8))]) hx hb dX9_fits_58 hl (by decide) rfl (fun ls hl => ?_)
                refine wk_iinc (lv' := fun x6_17 => [(6, .int (iI x6_17)), (5, .int (iI r16)), (0, .ref (ad 60)), (1, .ref (ad c1)), (2, .int (iI a2)), (3, .int (iI a3)), (4, .int (iI y4_1))]) hx hb dX9_fits_60 hl (k := 6) rfl (by decide) (fun _ => rfl) (fun x6_17 ls ex6_17 hl => ?_)
                have hw := hw x6_17 ex6_17
                refine lv_goto (tgt := 36) hx hb dX9_fits_63 (by decide) ?_
                obtain ⟨k18, hk18, hw⟩ := hw
                exact ih36 k18 hk18 r16 x6_17 _ _ _ hP hS (lv_sub hl [2, 3, 4, 5, 6, 1, 0] rfl) hw
          obtain ⟨k19, hw⟩ := hw
          exact kI36 k19 r5 0 _ _ _ hP hS (lv_sub hl [2, 3, 4, 5, 6, 1, 0] rfl) hw
        · have hw := hw.1 hh
          refine lv_iconst (v := iI 0) hx hb dX9_fits_31 rfl ?_
          exact hret _ _ _ _ _ _ (by decide) ⟨rfl, hw⟩ hP hS dX9_fits_32
  obtain ⟨k20, hw⟩ := hw
  exact kI3 k20 0 _ _ _ hP hS (lv_sub hl [1, 2, 3, 4, 0] rfl) hw

set_option maxRecDepth 100000 in
set_option maxHeartbeats 4000000 in
theorem ok_X9_wordsIn {l : Launch} {D : va_G} {cA : Nat → ClassId} {ad : Nat → Nat} (hI : wI ad) {a1 : Int} {a2 : Int} {sg : Mem} {Q : Int → Prop} (hw : wp_X9_wordsIn a1 a2 sg Q) : wMi l D cA ad yX9_wordsIn cX9_wordsIn 4 (some .int) 2 [.int (iI a1), .int (iI a2)] sg (fun z u => u = sg ∧ Q z) := by
  refine wk_ofI (by decide) hI (Nat.le_of_ble_eq_true rfl) ?_
  intro p e s m below meth c A QQ ls C0 hret hl hP
  have hx := C0.1
  have hb := C0.2.1
  have hown := C0.2.2.2.1
  have htb := C0.2.2.2.2.1
  have hl : lv_has ls 4 [(0, .int (iI a1)), (1, .int (iI a2))] := hl
  refine (fun (key : ∀ (H : Heap) (locs : List Loc), wP D cA ad sg H → va_S (wA ad) s.heap H locs → W p l e (rmL 2) s m A below meth c H locs 0 0 QQ (F0 m 0 ls [])) => key _ _ hP va_S.rf) ?_
  intro H locs hP hS
  unfold wp_X9_wordsIn at hw
  refine lv_iconst (v := iI 0) hx hb dX9_wordsIn_0 rfl ?_
  refine lv_istore_n (lv' := [(2, .int (iI 0)), (0, .int (iI a1)), (1, .int (iI a2))]) hx hb dX9_wordsIn_1 rfl hl (by decide) rfl (fun ls hl => ?_)
  refine lv_iconst (v := iI 0) hx hb dX9_wordsIn_2 rfl ?_
  refine lv_istore_n (lv' := [(3, .int (iI 0)), (2, .int (iI 0)), (0, .int (iI a1)), (1, .int (iI a2))]) hx hb dX9_wordsIn_3 rfl hl (by decide) rfl (fun ls hl => ?_)
  obtain ⟨I4, hI4, hw⟩ := hw
  have kI4 : ∀ (k4 : Nat) (y2_1 : Int) (y3_2 : Int) (H : Heap) (locs : List Loc) (ls : Array Slot), wP D cA ad sg H → va_S (wA ad) s.heap H locs → lv_has ls 4 [(0, .int (iI a1)), (1, .int (iI a2)), (2, .int (iI y2_1)), (3, .int (iI y3_2))] → I4 k4 y2_1 y3_2 → W p l e (rmL 2) s m A below meth c H locs 0 0 QQ (F0 m 4 ls []) := by
    intro k4
    induction k4 using Nat.strongRecOn with
    | _ k4 ih4 =>
      intro y2_1 y3_2 H locs ls hP hS hl hw
      have hw := hI4 k4 y2_1 y3_2 hw
      refine lv_iload_n hx hb dX9_wordsIn_4 rfl (lv_at hl 3 rfl) ?_
      refine lv_iload_n hx hb dX9_wordsIn_5 rfl (lv_at hl 1 rfl) ?_
      have q3 := hw.1
      have hw := hw.2
      have q4 := hw.1
      have hw := hw.2
      refine wk_icmp_ge hx hb q3 q4 (tgt := 26) dX9_wordsIn_6 (by decide) (fun hh => ?_) (fun hh => ?_)
      · have hw := hw.1 hh
        refine lv_iload_n hx hb dX9_wordsIn_26 rfl (lv_at hl 2 rfl) ?_
        exact hret _ _ _ _ _ _ ⟨rfl, hw⟩ hP hS dX9_wordsIn_27
      · have hw := hw.2 hh
        refine lv_iload_n hx hb dX9_wordsIn_9 rfl (lv_at hl 2 rfl) ?_
        refine lv_iconst (v := iI 1) hx hb dX9_wordsIn_10 rfl ?_
        refine lv_iload_n hx hb dX9_wordsIn_11 rfl (lv_at hl 0 rfl) ?_
        refine lv_iload_n hx hb dX9_wordsIn_12 rfl (lv_at hl 1 rfl) ?_
        refine lv_iload_n hx hb dX9_wordsIn_13 rfl (lv_at hl 3 rfl) ?_
        refine wk_rip (wk_callSN (n := 3) (rest := [.int (iI 1), .int (iI y2_1)]) C0 C0.2.2.2.2.2.2.2.2 cd_X11_wordOf ini_X11 st_X11_wordOf (by decide +kernel) (ok_X11_wordOf hI hw) hP rfl rfl (Nat.le_of_ble_eq_true rfl) (wk_room (by decide) (by decide)) hl.1 dX9_wordsIn_14 ⟨Nat.le_refl _, Nat.le_refl _⟩) hS (fun r5 H locs hw hP hS => ?_)
        refine wk_ishl hx hb dX9_wordsIn_17 ?_
        refine wk_ior hx hb dX9_wordsIn_18 ?_
        refine wk_top (fun x2_6 ex2_6 => ?_)
        have hw := hw x2_6 ex2_6
        refine lv_istore_n (lv' := [(2, .int (iI x2_6)), (0, .int (iI a1)), (1, .int (iI a2)), (3, .int (iI y3_2))]) hx hb dX9_wordsIn_19 rfl hl (by decide) rfl (fun ls hl => ?_)
        refine wk_iinc (lv' := fun x3_7 => [(3, .int (iI x3_7)), (2, .int (iI x2_6)), (0, .int (iI a1)), (1, .int (iI a2))]) hx hb dX9_wordsIn_20 hl (k := 3) rfl (by decide) (fun _ => rfl) (fun x3_7 ls ex3_7 hl => ?_)
        have hw := hw x3_7 ex3_7
        refine lv_goto (tgt := 4) hx hb dX9_wordsIn_23 (by decide) ?_
        obtain ⟨k8, hk8, hw⟩ := hw
        exact ih4 k8 hk8 x2_6 x3_7 _ _ _ hP hS (lv_sub hl [2, 3, 1, 0] rfl) hw
  obtain ⟨k9, hw⟩ := hw
  exact kI4 k9 0 0 _ _ _ hP hS (lv_sub hl [2, 3, 1, 0] rfl) hw

set_option maxRecDepth 100000 in
set_option maxHeartbeats 4000000 in
theorem ok_X9_seek {l : Launch} {D : va_G} {cA : Nat → ClassId} {ad : Nat → Nat} (hI : wI ad) {c1 : Nat} (hc1 : isN c1) {a2 : Int} {sg : Mem} {Q : Mem → Prop} (hw : wp_X9_seek c1 a2 sg Q) : wMv l D cA ad yX9_seek cX9_seek 5 none 3 [.ref (ad 60), .ref (ad c1), .int (iI a2)] sg Q := by
  refine wk_ofV (by decide) hI (Nat.le_of_ble_eq_true rfl) ?_
  intro p e s m below meth c A QQ ls C0 hret hl hP
  have hx := C0.1
  have hb := C0.2.1
  have hown := C0.2.2.2.1
  have htb := C0.2.2.2.2.1
  have hl : lv_has ls 5 [(0, .ref (ad 60)), (1, .ref (ad c1)), (2, .int (iI a2))] := hl
  refine (fun (key : ∀ (H : Heap) (locs : List Loc), wP D cA ad sg H → va_S (wA ad) s.heap H locs → W p l e (rmL 3) s m A below meth c H locs 0 0 QQ (F0 m 0 ls [])) => key _ _ hP va_S.rf) ?_
  intro H locs hP hS
  unfold wp_X9_seek at hw
  refine lv_aload_n hx hb dX9_seek_0 rfl (lv_at hl 0 rfl) ?_
  refine lv_iconst (v := iI 0) hx hb dX9_seek_1 rfl ?_
  refine wk_putI C0 fl_X9_22 rfl rfl hP hS (by decide) sh_60 rfl dX9_seek_2 (fun s1 H locs es1 hP hS => ?_)
  have hw := hw s1 es1
  refine lv_aload_n hx hb dX9_seek_5 rfl (lv_at hl 0 rfl) ?_
  refine lv_iconst (v := iI 0) hx hb dX9_seek_6 rfl ?_
  refine wk_putI C0 fl_X9_25 rfl rfl hP hS (by decide) sh_60 rfl dX9_seek_7 (fun s2 H locs es2 hP hS => ?_)
  have hw := hw s2 es2
  refine lv_aload_n hx hb dX9_seek_10 rfl (lv_at hl 0 rfl) ?_
  refine lv_iconst (v := iI 0) hx hb dX9_seek_11 rfl ?_
  refine wk_putI C0 fl_X9_28 rfl rfl hP hS (by decide) sh_60 rfl dX9_seek_12 (fun s3 H locs es3 hP hS => ?_)
  have hw := hw s3 es3
  refine lv_iconst (v := iI 0) hx hb dX9_seek_15 rfl ?_
  refine lv_istore_n (lv' := [(3, .int (iI 0)), (0, .ref (ad 60)), (1, .ref (ad c1)), (2, .int (iI a2))]) hx hb dX9_seek_16 rfl hl (by decide) rfl (fun ls hl => ?_)
  obtain ⟨I17, hI17, hw⟩ := hw
  have kI17 : ∀ (k17 : Nat) (y3_4 : Int) (s5 : Mem) (H : Heap) (locs : List Loc) (ls : Array Slot), wP D cA ad s5 H → va_S (wA ad) s.heap H locs → lv_has ls 5 [(0, .ref (ad 60)), (1, .ref (ad c1)), (2, .int (iI a2)), (3, .int (iI y3_4))] → I17 k17 y3_4 s5 → W p l e (rmL 3) s m A below meth c H locs 0 0 QQ (F0 m 17 ls []) := by
    intro k17
    induction k17 using Nat.strongRecOn with
    | _ k17 ih17 =>
      intro y3_4 s5 H locs ls hP hS hl hw
      have hw := hI17 k17 y3_4 s5 hw
      refine lv_iload_n hx hb dX9_seek_17 rfl (lv_at hl 3 rfl) ?_
      refine lv_iconst (v := iI 1) hx hb dX9_seek_18 rfl ?_
      refine lv_iconst (v := iI 2) hx hb dX9_seek_19 rfl ?_
      refine lv_iload_n hx hb dX9_seek_20 rfl (lv_at hl 2 rfl) ?_
      refine wk_imul hx hb dX9_seek_21 ?_
      refine wk_ishl hx hb dX9_seek_22 ?_
      have q6 := hw.1
      have hw := hw.2
      have q7 := hw.1
      have hw := hw.2
      refine wk_icmp_ge hx hb q6 q7 (tgt := 101) dX9_seek_23 (by decide) (fun hh => ?_) (fun hh => ?_)
      · have hw := hw.1 hh
        exact hret _ _ _ _ _ hw hP hS dX9_seek_101
      · have hw := hw.2 hh
        refine lv_aload_n hx hb dX9_seek_26 rfl (lv_at hl 0 rfl) ?_
        refine lv_aload_n hx hb dX9_seek_27 rfl (lv_at hl 1 rfl) ?_
        refine lv_iload_n hx hb dX9_seek_28 rfl (lv_at hl 3 rfl) ?_
        refine lv_iload_n hx hb dX9_seek_29 rfl (lv_at hl 2 rfl) ?_
        refine wk_rip (wk_callV (rest := []) C0 cl_X9_31 (ok_X9_fits hI hc1 hw) hP (by decide) sh_60 rfl rfl rfl (Nat.le_of_ble_eq_true rfl) (wk_room (by decide) (by decide)) hl.1 dX9_seek_30 ⟨Nat.le_refl _, Nat.le_refl _⟩) hS (fun r8 H locs hw hP hS => ?_)
        have q9 := hw.1
        have hw := hw.2
        obtain ⟨X95, hX95, hw⟩ := hw
        have kX95 : ∀ (s10 : Mem) (H : Heap) (locs : List Loc) (ls : Array Slot), wP D cA ad s10 H → va_S (wA ad) s.heap H locs → lv_has ls 5 [(0, .ref (ad 60)), (1, .ref (ad c1)), (2, .int (iI a2)), (3, .int (iI y3_4))] → X95 s10 → W p l e (rmL 3) s m A below meth c H locs 0 0 QQ (F0 m 95 ls []) := by
          intro s10 H locs ls hP hS hl hw
          have hw := hX95 s10 hw
          refine wk_iinc (lv' := fun x3_11 => [(3, .int (iI x3_11)), (0, .ref (ad 60)), (1, .ref (ad c1)), (2, .int (iI a2))]) hx hb dX9_seek_95 hl (k := 3) rfl (by decide) (fun _ => rfl) (fun x3_11 ls ex3_11 hl => ?_)
          have hw := hw x3_11 ex3_11
          refine lv_goto (tgt := 17) hx hb dX9_seek_98 (by decide) ?_
          obtain ⟨k12, hk12, hw⟩ := hw
          exact ih17 k12 hk12 x3_11 s10 _ _ _ hP hS (lv_sub hl [1, 2, 3, 0] rfl) hw
        refine wk_if_eq hx hb q9 (tgt := 95) dX9_seek_33 (by decide) (fun hh => ?_) (fun hh => ?_)
        · have hw := hw.1 hh
          exact kX95 s5 _ _ _ hP hS (lv_sub hl [0, 1, 2, 3] rfl) hw
        · have hw := hw.2 hh
          refine lv_iload_n hx hb dX9_seek_36 rfl (lv_at hl 3 rfl) ?_
          refine lv_iload_n hx hb dX9_seek_37 rfl (lv_at hl 2 rfl) ?_
          refine wk_rip (wk_callS (rest := []) C0 cl_X9_35 (ok_X9_wordsIn hI hw) hP rfl rfl (Nat.le_of_ble_eq_true rfl) (wk_room (by decide) (by decide)) hl.1 dX9_seek_38 ⟨Nat.le_refl _, Nat.le_refl _⟩) hS (fun r13 H locs hw hP hS => ?_)
          refine lv_istore (lv' := [(4, .int (iI r13)), (0, .ref (ad 60)), (1, .ref (ad c1)), (2, .int (iI a2)), (3, .int (iI y3_4))]) hx hb dX9_seek_41 hl (by decide) rfl (fun ls hl => ?_)
          refine lv_aload_n hx hb dX9_seek_43 rfl (lv_at hl 1 rfl) ?_
          refine lv_aload_n hx hb dX9_seek_44 rfl (lv_at hl 1 rfl) ?_
          refine wk_getI C0 fl_X9_22 hP (by decide) sh_60 rfl dX9_seek_45 ?_
          have q14 := hw.1
          have hw := hw.2
          have kX59 : ∀ v15 : Int, v15 = (if s5 60 3 = 0 then y3_4 else s5 60 4) → ∀ (ls : Array Slot), lv_has ls 5 [(0, .ref (ad 60)), (1, .ref (ad c1)), (2, .int (iI a2)), (3, .int (iI y3_4)), (4, .int (iI r13))] → W p l e (rmL 3) s m A below meth c H locs 0 0 QQ (F0 m 59 ls [.int (iI v15), .ref (ad 60)]) := by
            intro v15 ev15 ls hl
            have hw := hw v15 ev15
            refine wk_putI C0 fl_X9_25 rfl rfl hP hS (by decide) sh_60 rfl dX9_seek_59 (fun s16 H locs es16 hP hS => ?_)
            have hw := hw s16 es16
            refine lv_aload_n hx hb dX9_seek_62 rfl (lv_at hl 0 rfl) ?_
            refine lv_aload_n hx hb dX9_seek_63 rfl (lv_at hl 0 rfl) ?_
            refine wk_getI C0 fl_X9_22 hP (by decide) sh_60 rfl dX9_seek_64 ?_
            have q17 := hw.1
            have hw := hw.2
            have kX82 : ∀ v18 : Int, v18 = (if s16 60 3 = 0 then r13 else zand (s16 60 5) r13) → ∀ (ls : Array Slot), lv_has ls 5 [(0, .ref (ad 60)), (1, .ref (ad c1)), (2, .int (iI a2)), (3, .int (iI y3_4))] → W p l e (rmL 3) s m A below meth c H locs 0 0 QQ (F0 m 82 ls [.int (iI v18), .ref (ad 60)]) := by
              intro v18 ev18 ls hl
              have hw := hw v18 ev18
              refine wk_putI C0 fl_X9_28 rfl rfl hP hS (by decide) sh_60 rfl dX9_seek_82 (fun s19 H locs es19 hP hS => ?_)
              have hw := hw s19 es19
              refine lv_aload_n hx hb dX9_seek_85 rfl (lv_at hl 0 rfl) ?_
              refine lv_dup hx hb dX9_seek_86 rfl ?_
              refine wk_getI C0 fl_X9_22 hP (by decide) sh_60 rfl dX9_seek_87 ?_
              refine lv_iconst (v := iI 1) hx hb dX9_seek_90 rfl ?_
              refine wk_iadd hx hb dX9_seek_91 ?_
              refine wk_putI C0 fl_X9_22 rfl rfl hP hS (by decide) sh_60 rfl dX9_seek_92 (fun s20 H locs es20 hP hS => ?_)
              have hw := hw s20 es20
              exact kX95 s20 _ _ _ hP hS (lv_sub hl [0, 1, 2, 3] rfl) hw
            refine wk_if_ne hx hb q17 (tgt := 75) dX9_seek_67 (by decide) (fun hh21 => ?_) (fun hh21 => ?_)
            · refine lv_aload_n hx hb dX9_seek_75 rfl (lv_at hl 0 rfl) ?_
              refine wk_getI C0 fl_X9_28 hP (by decide) sh_60 rfl dX9_seek_76 ?_
              refine lv_iload hx hb dX9_seek_79 (lv_at hl 4 rfl) ?_
              refine wk_iand hx hb dX9_seek_81 ?_
              exact kX82 (zand (s16 60 5) r13) (by rw [if_neg hh21]) ls (lv_sub hl [0, 1, 2, 3] rfl)
            · refine lv_iload hx hb dX9_seek_70 (lv_at hl 4 rfl) ?_
              refine lv_goto (tgt := 82) hx hb dX9_seek_72 (by decide) ?_
              exact kX82 r13 (by rw [if_pos hh21]) ls (lv_sub hl [0, 1, 2, 3] rfl)
          refine wk_if_ne hx hb q14 (tgt := 55) dX9_seek_48 (by decide) (fun hh22 => ?_) (fun hh22 => ?_)
          · refine lv_aload_n hx hb dX9_seek_55 rfl (lv_at hl 1 rfl) ?_
            refine wk_getI C0 fl_X9_25 hP (by decide) sh_60 rfl dX9_seek_56 ?_
            exact kX59 (s5 60 4) (by rw [if_neg hh22]) ls (lv_sub hl [1, 2, 3, 4, 0] rfl)
          · refine lv_iload_n hx hb dX9_seek_51 rfl (lv_at hl 4 rfl) ?_
            refine lv_goto (tgt := 59) hx hb dX9_seek_52 (by decide) ?_
            exact kX59 y3_4 (by rw [if_pos hh22]) ls (lv_sub hl [1, 2, 3, 4, 0] rfl)
  obtain ⟨k23, hw⟩ := hw
  exact kI17 k23 0 s3 _ _ _ hP hS (lv_sub hl [1, 2, 3, 0] rfl) hw

set_option maxRecDepth 100000 in
set_option maxHeartbeats 4000000 in
theorem ok_X10_compare {l : Launch} {D : va_G} {cA : Nat → ClassId} {ad : Nat → Nat} (hI : wI ad) {a1 : Int} {a2 : Int} {sg : Mem} {Q : Mem → Prop} (hw : wp_X10_compare a1 a2 sg Q) : wMv l D cA ad yX10_compare cX10_compare 4 none 2 [.ref (ad 29), .int (iI a1), .int (iI a2)] sg Q := by
  refine wk_ofV (by decide) hI (Nat.le_of_ble_eq_true rfl) ?_
  intro p e s m below meth c A QQ ls C0 hret hl hP
  have hx := C0.1
  have hb := C0.2.1
  have hown := C0.2.2.2.1
  have htb := C0.2.2.2.2.1
  have hl : lv_has ls 4 [(0, .ref (ad 29)), (1, .int (iI a1)), (2, .int (iI a2))] := hl
  refine (fun (key : ∀ (H : Heap) (locs : List Loc), wP D cA ad sg H → va_S (wA ad) s.heap H locs → W p l e (rmL 2) s m A below meth c H locs 0 0 QQ (F0 m 0 ls [])) => key _ _ hP va_S.rf) ?_
  intro H locs hP hS
  unfold wp_X10_compare at hw
  refine lv_aload_n hx hb dX10_compare_0 rfl (lv_at hl 0 rfl) ?_
  refine wk_getR 30 C0 fl_X10_11 hP (by decide) sh_29 rfl dX10_compare_1 ?_
  refine lv_iload_n hx hb dX10_compare_4 rfl (lv_at hl 1 rfl) ?_
  have q1 := hw.1
  have hw := hw.2
  refine wk_aaldN C0 hP q1.1 q1.2 dX10_compare_5 ?_
  refine wk_rip (wk_callV (rest := []) C0 cl_X10_54 (ok_X4_coldest hI (isN_i q1.1 q1.2) hw) hP (isN_lt (isN_i q1.1 q1.2)) (isN_sh (isN_i q1.1 q1.2)).2.1 rfl rfl rfl (Nat.le_of_ble_eq_true rfl) (wk_room (by decide) (by decide)) hl.1 dX10_compare_6 ⟨Nat.le_refl _, Nat.le_refl _⟩) hS (fun r2 H locs hw hP hS => ?_)
  refine lv_istore_n (lv' := [(3, .int (iI r2)), (0, .ref (ad 29)), (1, .int (iI a1)), (2, .int (iI a2))]) hx hb dX10_compare_9 rfl hl (by decide) rfl (fun ls hl => ?_)
  refine lv_iload_n hx hb dX10_compare_10 rfl (lv_at hl 0 rfl) ?_
  refine lv_aload_n hx hb dX10_compare_11 rfl (lv_at hl 1 rfl) ?_
  refine wk_getI C0 fl_X10_27 hP (by decide) sh_29 rfl dX10_compare_12 ?_
  have q3 := hw.1
  have hw := hw.2
  have q4 := hw.1
  have hw := hw.2
  obtain ⟨X34, hX34, hw⟩ := hw
  have kX34 : ∀ (H : Heap) (locs : List Loc) (ls : Array Slot), wP D cA ad sg H → va_S (wA ad) s.heap H locs → lv_has ls 4 [(0, .ref (ad 29)), (2, .int (iI a2)), (3, .int (iI r2))] → X34 → W p l e (rmL 2) s m A below meth c H locs 0 0 QQ (F0 m 34 ls []) := by
    intro H locs ls hP hS hl hw
    have hw := hX34 hw
    refine lv_aload_n hx hb dX10_compare_34 rfl (lv_at hl 0 rfl) ?_
    refine lv_iload_n hx hb dX10_compare_35 rfl (lv_at hl 2 rfl) ?_
    refine wk_putI C0 fl_X10_27 rfl rfl hP hS (by decide) sh_29 rfl dX10_compare_36 (fun s5 H locs es5 hP hS => ?_)
    have hw := hw s5 es5
    refine lv_aload_n hx hb dX10_compare_39 rfl (lv_at hl 0 rfl) ?_
    refine lv_iload_n hx hb dX10_compare_40 rfl (lv_at hl 1 rfl) ?_
    refine wk_putI C0 fl_X10_31 rfl rfl hP hS (by decide) sh_29 rfl dX10_compare_41 (fun s6 H locs es6 hP hS => ?_)
    have hw := hw s6 es6
    refine lv_aload_n hx hb dX10_compare_44 rfl (lv_at hl 0 rfl) ?_
    refine wk_getR 31 C0 fl_X10_17 hP (by decide) sh_29 rfl dX10_compare_45 ?_
    refine lv_iconst (v := iI 0) hx hb dX10_compare_48 rfl ?_
    refine lv_aload_n hx hb dX10_compare_49 rfl (lv_at hl 0 rfl) ?_
    refine wk_getR 32 C0 fl_X10_21 hP (by decide) sh_29 rfl dX10_compare_50 ?_
    refine lv_iconst (v := iI 0) hx hb dX10_compare_53 rfl ?_
    refine lv_iconst (v := iI 5) hx hb dX10_compare_54 rfl ?_
    refine wk_copy C0 hl.1 ac_X10_56 ac_nat ac_st ini_J10 hP hS (by decide) (by decide) sh_31 sh_32 (by decide) (by decide) (by decide) (by decide) (Nat.le_of_ble_eq_true rfl) (Nat.le_of_ble_eq_true rfl) dX10_compare_55 (fun s7 H locs es7 hP hS => ?_)
    have hw := hw s7 es7
    exact hret _ _ _ _ _ hw hP hS dX10_compare_58
  refine wk_icmp_gt hx hb q3 q4 (tgt := 34) dX10_compare_15 (by decide) (fun hh => ?_) (fun hh => ?_)
  · have hw := hw.1 hh
    exact kX34  _ _ _ hP hS (lv_sub hl [1, 3, 0] rfl) hw
  · have hw := hw.2 hh
    refine lv_iload_n hx hb dX10_compare_18 rfl (lv_at hl 0 rfl) ?_
    refine lv_aload_n hx hb dX10_compare_19 rfl (lv_at hl 1 rfl) ?_
    refine wk_getI C0 fl_X10_27 hP (by decide) sh_29 rfl dX10_compare_20 ?_
    refine wk_icmp_ne hx hb q3 q4 (tgt := 58) dX10_compare_23 (by decide) (fun hh => ?_) (fun hh => ?_)
    · have hw := hw.2 hh
      exact hret _ _ _ _ _ hw hP hS dX10_compare_58
    · have hw := hw.1 hh
      refine lv_iload_n hx hb dX10_compare_26 rfl (lv_at hl 3 rfl) ?_
      refine lv_aload_n hx hb dX10_compare_27 rfl (lv_at hl 1 rfl) ?_
      refine wk_getI C0 fl_X10_31 hP (by decide) sh_29 rfl dX10_compare_28 ?_
      have q8 := hw.1
      have hw := hw.2
      have q9 := hw.1
      have hw := hw.2
      refine wk_icmp_ge hx hb q8 q9 (tgt := 58) dX10_compare_31 (by decide) (fun hh => ?_) (fun hh => ?_)
      · have hw := hw.1 hh
        exact hret _ _ _ _ _ hw hP hS dX10_compare_58
      · have hw := hw.2 hh
        exact kX34  _ _ _ hP hS (lv_sub hl [1, 3, 0] rfl) hw

set_option maxRecDepth 100000 in
set_option maxHeartbeats 4000000 in
theorem ok_X10_tryWords {l : Launch} {D : va_G} {cA : Nat → ClassId} {ad : Nat → Nat} (hI : wI ad) : ∀ (d : Nat) {a2 : Int} {a3 : Int} {a4 : Int} {sg : Mem} {Q : Mem → Prop}, wp_X10_tryWords d a2 a3 a4 sg Q → wMv l D cA ad yX10_tryWords cX10_tryWords 6 none (5 + d) [.ref (ad 29), .int (iI a2), .int (iI a3), .int (iI a4)] sg Q := by
  intro d
  induction d with
  | zero =>
    intros
    rename_i hw
    exact hw.elim
  | succ d ih =>
    intro a2 a3 a4 sg Q hw
    refine wk_ofV (by decide) hI (Nat.le_of_ble_eq_true rfl) ?_
    intro p e s m below meth c A QQ ls C0 hret hl hP
    have hx := C0.1
    have hb := C0.2.1
    have hown := C0.2.2.2.1
    have htb := C0.2.2.2.2.1
    have hl : lv_has ls 6 [(0, .ref (ad 29)), (1, .int (iI a2)), (2, .int (iI a3)), (3, .int (iI a4))] := hl
    refine (fun (key : ∀ (H : Heap) (locs : List Loc), wP D cA ad sg H → va_S (wA ad) s.heap H locs → W p l e (rmL (5 + (d + 1))) s m A below meth c H locs 0 0 QQ (F0 m 0 ls [])) => key _ _ hP va_S.rf) ?_
    intro H locs hP hS
    unfold wp_X10_tryWords at hw
    refine lv_iload_n hx hb dX10_tryWords_0 rfl (lv_at hl 1 rfl) ?_
    refine lv_iload_n hx hb dX10_tryWords_1 rfl (lv_at hl 2 rfl) ?_
    have q1 := hw.1
    have hw := hw.2
    have q2 := hw.1
    have hw := hw.2
    obtain ⟨X10, hX10, hw⟩ := hw
    have kX10 : ∀ (H : Heap) (locs : List Loc) (ls : Array Slot), wP D cA ad sg H → va_S (wA ad) s.heap H locs → lv_has ls 6 [(0, .ref (ad 29)), (1, .int (iI a2)), (3, .int (iI a4))] → X10 → W p l e (rmL (5 + (d + 1))) s m A below meth c H locs 0 0 QQ (F0 m 10 ls []) := by
      intro H locs ls hP hS hl hw
      have hw := hX10 hw
      refine lv_aload_n hx hb dX10_tryWords_10 rfl (lv_at hl 0 rfl) ?_
      refine lv_iload_n hx hb dX10_tryWords_11 rfl (lv_at hl 1 rfl) ?_
      refine lv_iload_n hx hb dX10_tryWords_12 rfl (lv_at hl 2 rfl) ?_
      refine wk_rv (wk_callV (rest := []) C0 cl_X10_42 (ok_X10_compare hI hw) hP (by decide) sh_29 rfl rfl rfl (Nat.le_of_ble_eq_true rfl) (wk_room (by omega) (by decide)) hl.1 dX10_tryWords_13 ⟨Nat.le_refl _, Nat.le_refl _⟩) hS (fun s3 H locs hw hP hS => ?_)
      exact hret _ _ _ _ _ hw hP hS dX10_tryWords_16
    refine wk_icmp_ge hx hb q1 q2 (tgt := 10) dX10_tryWords_2 (by decide) (fun hh => ?_) (fun hh => ?_)
    · have hw := hw.1 hh
      exact kX10  _ _ _ hP hS (lv_sub hl [0, 1, 3] rfl) hw
    · have hw := hw.2 hh
      refine lv_iload_n hx hb dX10_tryWords_5 rfl (lv_at hl 1 rfl) ?_
      refine lv_iconst (v := iI 5) hx hb dX10_tryWords_6 rfl ?_
      refine wk_icmp_lt hx hb q1 ⟨by decide, by decide⟩ (tgt := 17) dX10_tryWords_7 (by decide) (fun hh => ?_) (fun hh => ?_)
      · have hw := hw.1 hh
        refine lv_aload_n hx hb dX10_tryWords_17 rfl (lv_at hl 0 rfl) ?_
        refine wk_getR 30 C0 fl_X10_11 hP (by decide) sh_29 rfl dX10_tryWords_18 ?_
        refine lv_iload_n hx hb dX10_tryWords_21 rfl (lv_at hl 1 rfl) ?_
        refine lv_iconst (v := iI 1) hx hb dX10_tryWords_22 rfl ?_
        refine wk_iadd hx hb dX10_tryWords_23 ?_
        have q4 := hw.1
        have hw := hw.2
        refine wk_aaldN C0 hP q4.1 q4.2 dX10_tryWords_24 ?_
        refine lv_astore (lv' := [(4, .ref (ad (33 + 3 * (a2 + 1).toNat))), (0, .ref (ad 29)), (1, .int (iI a2)), (2, .int (iI a3)), (3, .int (iI a4))]) hx hb dX10_tryWords_25 hl (by decide) rfl (fun ls hl => ?_)
        refine lv_iconst (v := iI 0) hx hb dX10_tryWords_27 rfl ?_
        refine lv_istore (lv' := [(5, .int (iI 0)), (4, .ref (ad (33 + 3 * (a2 + 1).toNat))), (0, .ref (ad 29)), (1, .int (iI a2)), (2, .int (iI a3)), (3, .int (iI a4))]) hx hb dX10_tryWords_28 hl (by decide) rfl (fun ls hl => ?_)
        obtain ⟨I30, hI30, hw⟩ := hw
        have kI30 : ∀ (k30 : Nat) (y5_5 : Int) (s6 : Mem) (H : Heap) (locs : List Loc) (ls : Array Slot), wP D cA ad s6 H → va_S (wA ad) s.heap H locs → lv_has ls 6 [(0, .ref (ad 29)), (1, .int (iI a2)), (2, .int (iI a3)), (3, .int (iI a4)), (4, .ref (ad (33 + 3 * (a2 + 1).toNat))), (5, .int (iI y5_5))] → I30 k30 y5_5 s6 → W p l e (rmL (5 + (d + 1))) s m A below meth c H locs 0 0 QQ (F0 m 30 ls []) := by
          intro k30
          induction k30 using Nat.strongRecOn with
          | _ k30 ih30 =>
            intro y5_5 s6 H locs ls hP hS hl hw
            have hw := hI30 k30 y5_5 s6 hw
            refine lv_iload hx hb dX10_tryWords_30 (lv_at hl 5 rfl) ?_
            refine lv_iconst (v := iI 4) hx hb dX10_tryWords_32 rfl ?_
            have q7 := hw.1
            have hw := hw.2
            refine wk_icmp_ge hx hb q7 ⟨by decide, by decide⟩ (tgt := 96) dX10_tryWords_33 (by decide) (fun hh => ?_) (fun hh => ?_)
            · have hw := hw.1 hh
              exact hret _ _ _ _ _ hw hP hS dX10_tryWords_96
            · have hw := hw.2 hh
              refine lv_aload hx hb dX10_tryWords_36 (lv_at hl 4 rfl) ?_
              refine lv_aload_n hx hb dX10_tryWords_38 rfl (lv_at hl 0 rfl) ?_
              refine wk_getR 30 C0 fl_X10_11 hP (by decide) sh_29 rfl dX10_tryWords_39 ?_
              refine lv_iload_n hx hb dX10_tryWords_42 rfl (lv_at hl 1 rfl) ?_
              have q8 := hw.1
              have hw := hw.2
              refine wk_aaldN C0 hP q8.1 q8.2 dX10_tryWords_43 ?_
              refine wk_rv (wk_callV (rest := []) C0 cl_X10_34 (ok_X4_become hI (isN_i q4.1 q4.2) (isN_i q8.1 q8.2) hw) hP (isN_lt (isN_i q4.1 q4.2)) (isN_sh (isN_i q4.1 q4.2)).2.1 rfl rfl rfl (Nat.le_of_ble_eq_true rfl) (wk_room (by omega) (by decide)) hl.1 dX10_tryWords_44 ⟨Nat.le_refl _, Nat.le_refl _⟩) hS (fun s9 H locs hw hP hS => ?_)
              refine lv_aload hx hb dX10_tryWords_47 (lv_at hl 4 rfl) ?_
              refine lv_iload hx hb dX10_tryWords_49 (lv_at hl 5 rfl) ?_
              refine wk_rv (wk_callV (rest := []) C0 cl_X10_46 (ok_X4_passHour hI (isN_i q4.1 q4.2) hw) hP (isN_lt (isN_i q4.1 q4.2)) (isN_sh (isN_i q4.1 q4.2)).2.1 rfl rfl rfl (Nat.le_of_ble_eq_true rfl) (wk_room (by omega) (by decide)) hl.1 dX10_tryWords_51 ⟨Nat.le_refl _, Nat.le_refl _⟩) hS (fun s10 H locs hw hP hS => ?_)
              refine lv_aload hx hb dX10_tryWords_54 (lv_at hl 4 rfl) ?_
              refine wk_rip (wk_callV (rest := []) C0 cl_X10_50 (ok_X4_awake hI (isN_i q4.1 q4.2) hw) hP (isN_lt (isN_i q4.1 q4.2)) (isN_sh (isN_i q4.1 q4.2)).2.1 rfl rfl rfl (Nat.le_of_ble_eq_true rfl) (wk_room (by omega) (by decide)) hl.1 dX10_tryWords_56 ⟨Nat.le_refl _, Nat.le_refl _⟩) hS (fun r11 H locs hw hP hS => ?_)
              have q12 := hw.1
              have hw := hw.2
              obtain ⟨X90, hX90, hw⟩ := hw
              have kX90 : ∀ (s13 : Mem) (H : Heap) (locs : List Loc) (ls : Array Slot), wP D cA ad s13 H → va_S (wA ad) s.heap H locs → lv_has ls 6 [(0, .ref (ad 29)), (1, .int (iI a2)), (2, .int (iI a3)), (3, .int (iI a4)), (4, .ref (ad (33 + 3 * (a2 + 1).toNat))), (5, .int (iI y5_5))] → X90 s13 → W p l e (rmL (5 + (d + 1))) s m A below meth c H locs 0 0 QQ (F0 m 90 ls []) := by
                intro s13 H locs ls hP hS hl hw
                have hw := hX90 s13 hw
                refine wk_iinc (lv' := fun x5_14 => [(5, .int (iI x5_14)), (0, .ref (ad 29)), (1, .int (iI a2)), (2, .int (iI a3)), (3, .int (iI a4)), (4, .ref (ad (33 + 3 * (a2 + 1).toNat)))]) hx hb dX10_tryWords_90 hl (k := 5) rfl (by decide) (fun _ => rfl) (fun x5_14 ls ex5_14 hl => ?_)
                have hw := hw x5_14 ex5_14
                refine lv_goto (tgt := 30) hx hb dX10_tryWords_93 (by decide) ?_
                obtain ⟨k15, hk15, hw⟩ := hw
                exact ih30 k15 hk15 x5_14 s13 _ _ _ hP hS (lv_sub hl [1, 2, 3, 4, 5, 0] rfl) hw
              refine wk_if_ne hx hb q12 (tgt := 90) dX10_tryWords_59 (by decide) (fun hh => ?_) (fun hh => ?_)
              · have hw := hw.2 hh
                exact kX90 s10 _ _ _ hP hS (lv_sub hl [0, 1, 2, 3, 4, 5] rfl) hw
              · have hw := hw.1 hh
                refine lv_aload_n hx hb dX10_tryWords_62 rfl (lv_at hl 0 rfl) ?_
                refine wk_getR 31 C0 fl_X10_17 hP (by decide) sh_29 rfl dX10_tryWords_63 ?_
                refine lv_iload_n hx hb dX10_tryWords_66 rfl (lv_at hl 1 rfl) ?_
                refine lv_iload hx hb dX10_tryWords_67 (lv_at hl 5 rfl) ?_
                have q16 := hw.1
                have hw := hw.2
                refine wk_iast C0 hP hS (by decide) sh_31 q16.1 q16.2 (by decide) dX10_tryWords_69 (fun s17 H locs es17 hP hS => ?_)
                have hw := hw s17 es17
                refine lv_aload_n hx hb dX10_tryWords_70 rfl (lv_at hl 0 rfl) ?_
                refine lv_iload_n hx hb dX10_tryWords_71 rfl (lv_at hl 1 rfl) ?_
                refine lv_iconst (v := iI 1) hx hb dX10_tryWords_72 rfl ?_
                refine wk_iadd hx hb dX10_tryWords_73 ?_
                refine lv_iload_n hx hb dX10_tryWords_74 rfl (lv_at hl 2 rfl) ?_
                refine lv_iload hx hb dX10_tryWords_75 (lv_at hl 5 rfl) ?_
                have kX87 : ∀ v18 : Int, v18 = (if y5_5 = 0 then a4 else a4 + 1) → ∀ (ls : Array Slot), lv_has ls 6 [(0, .ref (ad 29)), (1, .int (iI a2)), (2, .int (iI a3)), (3, .int (iI a4)), (4, .ref (ad (33 + 3 * (a2 + 1).toNat))), (5, .int (iI y5_5))] → W p l e (rmL (5 + (d + 1))) s m A below meth c H locs 0 0 QQ (F0 m 87 ls [.int (iI v18), .int (iI a3), .int (iI (a2 + 1)), .ref (ad 29)]) := by
                  intro v18 ev18 ls hl
                  have hw := hw v18 ev18
                  refine wk_rv (wk_callS (rest := []) C0 cl_X10_38 (ih hw) hP rfl rfl (Nat.le_of_ble_eq_true rfl) (wk_room (by omega) (by decide)) hl.1 dX10_tryWords_87 ⟨Nat.le_refl _, Nat.le_refl _⟩) hS (fun s19 H locs hw hP hS => ?_)
                  exact kX90 s19 _ _ _ hP hS (lv_sub hl [0, 1, 2, 3, 4, 5] rfl) hw
                refine wk_if_ne hx hb q7 (tgt := 84) dX10_tryWords_77 (by decide) (fun hh20 => ?_) (fun hh20 => ?_)
                · refine lv_iload_n hx hb dX10_tryWords_84 rfl (lv_at hl 3 rfl) ?_
                  refine lv_iconst (v := iI 1) hx hb dX10_tryWords_85 rfl ?_
                  refine wk_iadd hx hb dX10_tryWords_86 ?_
                  exact kX87 (a4 + 1) (by rw [if_neg hh20]) ls (lv_sub hl [0, 1, 2, 3, 4, 5] rfl)
                · refine lv_iload_n hx hb dX10_tryWords_80 rfl (lv_at hl 3 rfl) ?_
                  refine lv_goto (tgt := 87) hx hb dX10_tryWords_81 (by decide) ?_
                  exact kX87 a4 (by rw [if_pos hh20]) ls (lv_sub hl [0, 1, 2, 3, 4, 5] rfl)
        obtain ⟨k21, hw⟩ := hw
        exact kI30 k21 0 sg _ _ _ hP hS (lv_sub hl [2, 3, 4, 5, 1, 0] rfl) hw
      · have hw := hw.2 hh
        exact kX10  _ _ _ hP hS (lv_sub hl [0, 1, 3] rfl) hw

set_option maxRecDepth 100000 in
set_option maxHeartbeats 4000000 in
theorem ok_X10_seek {l : Launch} {D : va_G} {cA : Nat → ClassId} {ad : Nat → Nat} (hI : wI ad) {c1 : Nat} (hc1 : isN c1) {a2 : Int} {sg : Mem} {Q : Mem → Prop} (hw : wp_X10_seek c1 a2 sg Q) : wMv l D cA ad yX10_seek cX10_seek 3 none 14 [.ref (ad 29), .ref (ad c1), .int (iI a2)] sg Q := by
  refine wk_ofV (by decide) hI (Nat.le_of_ble_eq_true rfl) ?_
  intro p e s m below meth c A QQ ls C0 hret hl hP
  have hx := C0.1
  have hb := C0.2.1
  have hown := C0.2.2.2.1
  have htb := C0.2.2.2.2.1
  have hl : lv_has ls 3 [(0, .ref (ad 29)), (1, .ref (ad c1)), (2, .int (iI a2))] := hl
  refine (fun (key : ∀ (H : Heap) (locs : List Loc), wP D cA ad sg H → va_S (wA ad) s.heap H locs → W p l e (rmL 14) s m A below meth c H locs 0 0 QQ (F0 m 0 ls [])) => key _ _ hP va_S.rf) ?_
  intro H locs hP hS
  unfold wp_X10_seek at hw
  refine lv_aload_n hx hb dX10_seek_0 rfl (lv_at hl 0 rfl) ?_
  refine lv_iconst (v := iI (-1)) hx hb dX10_seek_1 rfl ?_
  refine wk_putI C0 fl_X10_27 rfl rfl hP hS (by decide) sh_29 rfl dX10_seek_2 (fun s1 H locs es1 hP hS => ?_)
  have hw := hw s1 es1
  refine lv_aload_n hx hb dX10_seek_5 rfl (lv_at hl 0 rfl) ?_
  refine lv_iconst (v := iI 0) hx hb dX10_seek_6 rfl ?_
  refine wk_putI C0 fl_X10_31 rfl rfl hP hS (by decide) sh_29 rfl dX10_seek_7 (fun s2 H locs es2 hP hS => ?_)
  have hw := hw s2 es2
  refine lv_aload_n hx hb dX10_seek_10 rfl (lv_at hl 0 rfl) ?_
  refine wk_getR 30 C0 fl_X10_11 hP (by decide) sh_29 rfl dX10_seek_11 ?_
  refine lv_iconst (v := iI 0) hx hb dX10_seek_14 rfl ?_
  refine wk_aaldN C0 hP (by decide) (by decide) dX10_seek_15 ?_
  rw [show (0 : Int).toNat = 0 from rfl]
  refine lv_aload_n hx hb dX10_seek_16 rfl (lv_at hl 1 rfl) ?_
  refine wk_rv (wk_callV (rest := []) C0 cl_X10_34 (ok_X4_become hI (isN_i (i := 0) (by decide) (by decide)) hc1 hw) hP (isN_lt (isN_i (i := 0) (by decide) (by decide))) (isN_sh (isN_i (i := 0) (by decide) (by decide))).2.1 rfl rfl rfl (Nat.le_of_ble_eq_true rfl) (wk_room (by decide) (by decide)) hl.1 dX10_seek_17 ⟨Nat.le_refl _, Nat.le_refl _⟩) hS (fun s3 H locs hw hP hS => ?_)
  refine lv_aload_n hx hb dX10_seek_20 rfl (lv_at hl 0 rfl) ?_
  refine lv_iconst (v := iI 0) hx hb dX10_seek_21 rfl ?_
  refine lv_iload_n hx hb dX10_seek_22 rfl (lv_at hl 2 rfl) ?_
  refine lv_iconst (v := iI 0) hx hb dX10_seek_23 rfl ?_
  obtain ⟨d4, hd4, hw⟩ := hw
  refine wk_rv (wk_callS (rest := []) C0 cl_X10_38 (ok_X10_tryWords hI d4  hw) hP rfl rfl (Nat.le_of_ble_eq_true rfl) (wk_room (by omega) (by decide)) hl.1 dX10_seek_24 ⟨Nat.le_refl _, Nat.le_refl _⟩) hS (fun s5 H locs hw hP hS => ?_)
  exact hret _ _ _ _ _ hw hP hS dX10_seek_27

set_option maxRecDepth 100000 in
set_option maxHeartbeats 4000000 in
theorem ok_J6_numberOfTrailingZeros_0f7a4 {l : Launch} {D : va_G} {cA : Nat → ClassId} {ad : Nat → Nat} (hI : wI ad) {a1 : Int} {sg : Mem} {Q : Int → Prop} (hw : wp_J6_numberOfTrailingZeros_0f7a4 a1 sg Q) : wMi l D cA ad yJ6_numberOfTrailingZeros_0f7a4 cJ6_numberOfTrailingZeros_0f7a4 2 (some .int) 1 [.int (iI a1)] sg (fun z u => u = sg ∧ Q z) := by
  refine wk_ofI (by decide) hI (Nat.le_of_ble_eq_true rfl) ?_
  intro p e s m below meth c A QQ ls C0 hret hl hP
  have hx := C0.1
  have hb := C0.2.1
  have hown := C0.2.2.2.1
  have htb := C0.2.2.2.2.1
  have hl : lv_has ls 2 [(0, .int (iI a1))] := hl
  refine (fun (key : ∀ (H : Heap) (locs : List Loc), wP D cA ad sg H → va_S (wA ad) s.heap H locs → W p l e (rmL 1) s m A below meth c H locs 0 0 QQ (F0 m 0 ls [])) => key _ _ hP va_S.rf) ?_
  intro H locs hP hS
  unfold wp_J6_numberOfTrailingZeros_0f7a4 at hw
  refine lv_iload_n hx hb dJ6_numberOfTrailingZeros_0f7a4_0 rfl (lv_at hl 0 rfl) ?_
  refine lv_iconst (v := iI (-1)) hx hb dJ6_numberOfTrailingZeros_0f7a4_1 rfl ?_
  refine wk_ixor hx hb dJ6_numberOfTrailingZeros_0f7a4_2 ?_
  refine lv_iload_n hx hb dJ6_numberOfTrailingZeros_0f7a4_3 rfl (lv_at hl 0 rfl) ?_
  refine lv_iconst (v := iI 1) hx hb dJ6_numberOfTrailingZeros_0f7a4_4 rfl ?_
  refine wk_isub hx hb dJ6_numberOfTrailingZeros_0f7a4_5 ?_
  refine wk_iand hx hb dJ6_numberOfTrailingZeros_0f7a4_6 ?_
  refine wk_top (fun x0_1 ex0_1 => ?_)
  have hw := hw x0_1 ex0_1
  refine lv_istore_n (lv' := [(0, .int (iI x0_1))]) hx hb dJ6_numberOfTrailingZeros_0f7a4_7 rfl hl (by decide) rfl (fun ls hl => ?_)
  refine lv_iload_n hx hb dJ6_numberOfTrailingZeros_0f7a4_8 rfl (lv_at hl 0 rfl) ?_
  have q2 := hw.1
  have hw := hw.2
  refine wk_if_gt hx hb q2 (tgt := 17) dJ6_numberOfTrailingZeros_0f7a4_9 (by decide) (fun hh => ?_) (fun hh => ?_)
  · have hw := hw.1 hh
    refine lv_iconst (v := iI 1) hx hb dJ6_numberOfTrailingZeros_0f7a4_17 rfl ?_
    refine lv_istore_n (lv' := [(1, .int (iI 1)), (0, .int (iI x0_1))]) hx hb dJ6_numberOfTrailingZeros_0f7a4_18 rfl hl (by decide) rfl (fun ls hl => ?_)
    refine lv_iload_n hx hb dJ6_numberOfTrailingZeros_0f7a4_19 rfl (lv_at hl 1 rfl) ?_
    refine lv_ldcw (own := RJ6) (v := iI 65536) hx hb hown (htb _ ki_J6_264) dJ6_numberOfTrailingZeros_0f7a4_20 ?_
    obtain ⟨X34, hX34, hw⟩ := hw
    have kX34 : ∀ (y0_3 : Int) (y1_4 : Int) (H : Heap) (locs : List Loc) (ls : Array Slot), wP D cA ad sg H → va_S (wA ad) s.heap H locs → lv_has ls 2 [(0, .int (iI y0_3)), (1, .int (iI y1_4))] → X34 y0_3 y1_4 → W p l e (rmL 1) s m A below meth c H locs 0 0 QQ (F0 m 34 ls []) := by
      intro y0_3 y1_4 H locs ls hP hS hl hw
      have hw := hX34 y0_3 y1_4 hw
      refine lv_iload_n hx hb dJ6_numberOfTrailingZeros_0f7a4_34 rfl (lv_at hl 0 rfl) ?_
      refine lv_sipush (v := iI 256) hx hb dJ6_numberOfTrailingZeros_0f7a4_35 (by decide +kernel) ?_
      have q5 := hw.1
      have hw := hw.2
      obtain ⟨X49, hX49, hw⟩ := hw
      have kX49 : ∀ (y0_6 : Int) (y1_7 : Int) (H : Heap) (locs : List Loc) (ls : Array Slot), wP D cA ad sg H → va_S (wA ad) s.heap H locs → lv_has ls 2 [(0, .int (iI y0_6)), (1, .int (iI y1_7))] → X49 y0_6 y1_7 → W p l e (rmL 1) s m A below meth c H locs 0 0 QQ (F0 m 49 ls []) := by
        intro y0_6 y1_7 H locs ls hP hS hl hw
        have hw := hX49 y0_6 y1_7 hw
        refine lv_iload_n hx hb dJ6_numberOfTrailingZeros_0f7a4_49 rfl (lv_at hl 0 rfl) ?_
        refine lv_bipush (v := iI 16) hx hb dJ6_numberOfTrailingZeros_0f7a4_50 (by decide +kernel) ?_
        have q8 := hw.1
        have hw := hw.2
        obtain ⟨X62, hX62, hw⟩ := hw
        have kX62 : ∀ (y0_9 : Int) (y1_10 : Int) (H : Heap) (locs : List Loc) (ls : Array Slot), wP D cA ad sg H → va_S (wA ad) s.heap H locs → lv_has ls 2 [(0, .int (iI y0_9)), (1, .int (iI y1_10))] → X62 y0_9 y1_10 → W p l e (rmL 1) s m A below meth c H locs 0 0 QQ (F0 m 62 ls []) := by
          intro y0_9 y1_10 H locs ls hP hS hl hw
          have hw := hX62 y0_9 y1_10 hw
          refine lv_iload_n hx hb dJ6_numberOfTrailingZeros_0f7a4_62 rfl (lv_at hl 0 rfl) ?_
          refine lv_iconst (v := iI 4) hx hb dJ6_numberOfTrailingZeros_0f7a4_63 rfl ?_
          have q11 := hw.1
          have hw := hw.2
          obtain ⟨X74, hX74, hw⟩ := hw
          have kX74 : ∀ (y0_12 : Int) (y1_13 : Int) (H : Heap) (locs : List Loc) (ls : Array Slot), wP D cA ad sg H → va_S (wA ad) s.heap H locs → lv_has ls 2 [(0, .int (iI y0_12)), (1, .int (iI y1_13))] → X74 y0_12 y1_13 → W p l e (rmL 1) s m A below meth c H locs 0 0 QQ (F0 m 74 ls []) := by
            intro y0_12 y1_13 H locs ls hP hS hl hw
            have hw := hX74 y0_12 y1_13 hw
            refine lv_iload_n hx hb dJ6_numberOfTrailingZeros_0f7a4_74 rfl (lv_at hl 1 rfl) ?_
            refine lv_iload_n hx hb dJ6_numberOfTrailingZeros_0f7a4_75 rfl (lv_at hl 0 rfl) ?_
            refine lv_iconst (v := iI 1) hx hb dJ6_numberOfTrailingZeros_0f7a4_76 rfl ?_
            refine wk_iushr hx hb dJ6_numberOfTrailingZeros_0f7a4_77 ?_
            refine wk_iadd hx hb dJ6_numberOfTrailingZeros_0f7a4_78 ?_
            exact hret _ _ _ _ _ _ ⟨rfl, hw⟩ hP hS dJ6_numberOfTrailingZeros_0f7a4_79
          refine wk_icmp_le hx hb q11 ⟨by decide, by decide⟩ (tgt := 74) dJ6_numberOfTrailingZeros_0f7a4_64 (by decide) (fun hh => ?_) (fun hh => ?_)
          · have hw := hw.1 hh
            exact kX74 y0_9 y1_10 _ _ _ hP hS (lv_sub hl [0, 1] rfl) hw
          · have hw := hw.2 hh
            refine wk_iinc (lv' := fun x1_14 => [(1, .int (iI x1_14)), (0, .int (iI y0_9))]) hx hb dJ6_numberOfTrailingZeros_0f7a4_67 hl (k := 1) rfl (by decide) (fun _ => rfl) (fun x1_14 ls ex1_14 hl => ?_)
            have hw := hw x1_14 ex1_14
            refine lv_iload_n hx hb dJ6_numberOfTrailingZeros_0f7a4_70 rfl (lv_at hl 1 rfl) ?_
            refine lv_iconst (v := iI 2) hx hb dJ6_numberOfTrailingZeros_0f7a4_71 rfl ?_
            refine wk_iushr hx hb dJ6_numberOfTrailingZeros_0f7a4_72 ?_
            refine wk_top (fun x0_15 ex0_15 => ?_)
            have hw := hw x0_15 ex0_15
            refine lv_istore_n (lv' := [(0, .int (iI x0_15)), (1, .int (iI x1_14))]) hx hb dJ6_numberOfTrailingZeros_0f7a4_73 rfl hl (by decide) rfl (fun ls hl => ?_)
            exact kX74 x0_15 x1_14 _ _ _ hP hS (lv_sub hl [0, 1] rfl) hw
        refine wk_icmp_le hx hb q8 ⟨by decide, by decide⟩ (tgt := 62) dJ6_numberOfTrailingZeros_0f7a4_52 (by decide) (fun hh => ?_) (fun hh => ?_)
        · have hw := hw.1 hh
          exact kX62 y0_6 y1_7 _ _ _ hP hS (lv_sub hl [0, 1] rfl) hw
        · have hw := hw.2 hh
          refine wk_iinc (lv' := fun x1_16 => [(1, .int (iI x1_16)), (0, .int (iI y0_6))]) hx hb dJ6_numberOfTrailingZeros_0f7a4_55 hl (k := 1) rfl (by decide) (fun _ => rfl) (fun x1_16 ls ex1_16 hl => ?_)
          have hw := hw x1_16 ex1_16
          refine lv_iload_n hx hb dJ6_numberOfTrailingZeros_0f7a4_58 rfl (lv_at hl 1 rfl) ?_
          refine lv_iconst (v := iI 4) hx hb dJ6_numberOfTrailingZeros_0f7a4_59 rfl ?_
          refine wk_iushr hx hb dJ6_numberOfTrailingZeros_0f7a4_60 ?_
          refine wk_top (fun x0_17 ex0_17 => ?_)
          have hw := hw x0_17 ex0_17
          refine lv_istore_n (lv' := [(0, .int (iI x0_17)), (1, .int (iI x1_16))]) hx hb dJ6_numberOfTrailingZeros_0f7a4_61 rfl hl (by decide) rfl (fun ls hl => ?_)
          exact kX62 x0_17 x1_16 _ _ _ hP hS (lv_sub hl [0, 1] rfl) hw
      refine wk_icmp_le hx hb q5 ⟨by decide, by decide⟩ (tgt := 49) dJ6_numberOfTrailingZeros_0f7a4_38 (by decide) (fun hh => ?_) (fun hh => ?_)
      · have hw := hw.1 hh
        exact kX49 y0_3 y1_4 _ _ _ hP hS (lv_sub hl [0, 1] rfl) hw
      · have hw := hw.2 hh
        refine wk_iinc (lv' := fun x1_18 => [(1, .int (iI x1_18)), (0, .int (iI y0_3))]) hx hb dJ6_numberOfTrailingZeros_0f7a4_41 hl (k := 1) rfl (by decide) (fun _ => rfl) (fun x1_18 ls ex1_18 hl => ?_)
        have hw := hw x1_18 ex1_18
        refine lv_iload_n hx hb dJ6_numberOfTrailingZeros_0f7a4_44 rfl (lv_at hl 1 rfl) ?_
        refine lv_bipush (v := iI 8) hx hb dJ6_numberOfTrailingZeros_0f7a4_45 (by decide +kernel) ?_
        refine wk_iushr hx hb dJ6_numberOfTrailingZeros_0f7a4_47 ?_
        refine wk_top (fun x0_19 ex0_19 => ?_)
        have hw := hw x0_19 ex0_19
        refine lv_istore_n (lv' := [(0, .int (iI x0_19)), (1, .int (iI x1_18))]) hx hb dJ6_numberOfTrailingZeros_0f7a4_48 rfl hl (by decide) rfl (fun ls hl => ?_)
        exact kX49 x0_19 x1_18 _ _ _ hP hS (lv_sub hl [0, 1] rfl) hw
    refine wk_icmp_le hx hb q2 ⟨by decide, by decide⟩ (tgt := 34) dJ6_numberOfTrailingZeros_0f7a4_23 (by decide) (fun hh => ?_) (fun hh => ?_)
    · have hw := hw.1 hh
      exact kX34 x0_1 1 _ _ _ hP hS (lv_sub hl [1, 0] rfl) hw
    · have hw := hw.2 hh
      refine wk_iinc (lv' := fun x1_20 => [(1, .int (iI x1_20)), (0, .int (iI x0_1))]) hx hb dJ6_numberOfTrailingZeros_0f7a4_26 hl (k := 0) rfl (by decide) (fun _ => rfl) (fun x1_20 ls ex1_20 hl => ?_)
      have hw := hw x1_20 ex1_20
      refine lv_iload_n hx hb dJ6_numberOfTrailingZeros_0f7a4_29 rfl (lv_at hl 1 rfl) ?_
      refine lv_bipush (v := iI 16) hx hb dJ6_numberOfTrailingZeros_0f7a4_30 (by decide +kernel) ?_
      refine wk_iushr hx hb dJ6_numberOfTrailingZeros_0f7a4_32 ?_
      refine wk_top (fun x0_21 ex0_21 => ?_)
      have hw := hw x0_21 ex0_21
      refine lv_istore_n (lv' := [(0, .int (iI x0_21)), (1, .int (iI x1_20))]) hx hb dJ6_numberOfTrailingZeros_0f7a4_33 rfl hl (by decide) rfl (fun ls hl => ?_)
      exact kX34 x0_21 x1_20 _ _ _ hP hS (lv_sub hl [0, 1] rfl) hw
  · have hw := hw.2 hh
    refine lv_iload_n hx hb dJ6_numberOfTrailingZeros_0f7a4_12 rfl (lv_at hl 0 rfl) ?_
    refine lv_bipush (v := iI 32) hx hb dJ6_numberOfTrailingZeros_0f7a4_13 (by decide +kernel) ?_
    refine wk_iand hx hb dJ6_numberOfTrailingZeros_0f7a4_15 ?_
    exact hret _ _ _ _ _ _ ⟨rfl, hw⟩ hP hS dJ6_numberOfTrailingZeros_0f7a4_16

set_option maxRecDepth 100000 in
set_option maxHeartbeats 4000000 in
theorem ok_J6_bitCount_0f7a4 {l : Launch} {D : va_G} {cA : Nat → ClassId} {ad : Nat → Nat} (hI : wI ad) {a1 : Int} {sg : Mem} {Q : Int → Prop} (hw : wp_J6_bitCount_0f7a4 a1 sg Q) : wMi l D cA ad yJ6_bitCount_0f7a4 cJ6_bitCount_0f7a4 1 (some .int) 1 [.int (iI a1)] sg (fun z u => u = sg ∧ Q z) := by
  refine wk_ofI (by decide) hI (Nat.le_of_ble_eq_true rfl) ?_
  intro p e s m below meth c A QQ ls C0 hret hl hP
  have hx := C0.1
  have hb := C0.2.1
  have hown := C0.2.2.2.1
  have htb := C0.2.2.2.2.1
  have hl : lv_has ls 1 [(0, .int (iI a1))] := hl
  refine (fun (key : ∀ (H : Heap) (locs : List Loc), wP D cA ad sg H → va_S (wA ad) s.heap H locs → W p l e (rmL 1) s m A below meth c H locs 0 0 QQ (F0 m 0 ls [])) => key _ _ hP va_S.rf) ?_
  intro H locs hP hS
  unfold wp_J6_bitCount_0f7a4 at hw
  refine lv_iload_n hx hb dJ6_bitCount_0f7a4_0 rfl (lv_at hl 0 rfl) ?_
  refine lv_iload_n hx hb dJ6_bitCount_0f7a4_1 rfl (lv_at hl 0 rfl) ?_
  refine lv_iconst (v := iI 1) hx hb dJ6_bitCount_0f7a4_2 rfl ?_
  refine wk_iushr hx hb dJ6_bitCount_0f7a4_3 ?_
  refine lv_ldcw (own := RJ6) (v := iI 1431655765) hx hb hown (htb _ ki_J6_265) dJ6_bitCount_0f7a4_4 ?_
  refine wk_iand hx hb dJ6_bitCount_0f7a4_7 ?_
  refine wk_isub hx hb dJ6_bitCount_0f7a4_8 ?_
  refine wk_top (fun x0_1 ex0_1 => ?_)
  have hw := hw x0_1 ex0_1
  refine lv_istore_n (lv' := [(0, .int (iI x0_1))]) hx hb dJ6_bitCount_0f7a4_9 rfl hl (by decide) rfl (fun ls hl => ?_)
  refine lv_iload_n hx hb dJ6_bitCount_0f7a4_10 rfl (lv_at hl 0 rfl) ?_
  refine lv_ldcw (own := RJ6) (v := iI 858993459) hx hb hown (htb _ ki_J6_266) dJ6_bitCount_0f7a4_11 ?_
  refine wk_iand hx hb dJ6_bitCount_0f7a4_14 ?_
  refine lv_iload_n hx hb dJ6_bitCount_0f7a4_15 rfl (lv_at hl 0 rfl) ?_
  refine lv_iconst (v := iI 2) hx hb dJ6_bitCount_0f7a4_16 rfl ?_
  refine wk_iushr hx hb dJ6_bitCount_0f7a4_17 ?_
  refine lv_ldcw (own := RJ6) (v := iI 858993459) hx hb hown (htb _ ki_J6_266) dJ6_bitCount_0f7a4_18 ?_
  refine wk_iand hx hb dJ6_bitCount_0f7a4_21 ?_
  refine wk_iadd hx hb dJ6_bitCount_0f7a4_22 ?_
  refine wk_top (fun x0_2 ex0_2 => ?_)
  have hw := hw x0_2 ex0_2
  refine lv_istore_n (lv' := [(0, .int (iI x0_2))]) hx hb dJ6_bitCount_0f7a4_23 rfl hl (by decide) rfl (fun ls hl => ?_)
  refine lv_iload_n hx hb dJ6_bitCount_0f7a4_24 rfl (lv_at hl 0 rfl) ?_
  refine lv_iload_n hx hb dJ6_bitCount_0f7a4_25 rfl (lv_at hl 0 rfl) ?_
  refine lv_iconst (v := iI 4) hx hb dJ6_bitCount_0f7a4_26 rfl ?_
  refine wk_iushr hx hb dJ6_bitCount_0f7a4_27 ?_
  refine wk_iadd hx hb dJ6_bitCount_0f7a4_28 ?_
  refine lv_ldcw (own := RJ6) (v := iI 252645135) hx hb hown (htb _ ki_J6_267) dJ6_bitCount_0f7a4_29 ?_
  refine wk_iand hx hb dJ6_bitCount_0f7a4_32 ?_
  refine wk_top (fun x0_3 ex0_3 => ?_)
  have hw := hw x0_3 ex0_3
  refine lv_istore_n (lv' := [(0, .int (iI x0_3))]) hx hb dJ6_bitCount_0f7a4_33 rfl hl (by decide) rfl (fun ls hl => ?_)
  refine lv_iload_n hx hb dJ6_bitCount_0f7a4_34 rfl (lv_at hl 0 rfl) ?_
  refine lv_iload_n hx hb dJ6_bitCount_0f7a4_35 rfl (lv_at hl 0 rfl) ?_
  refine lv_bipush (v := iI 8) hx hb dJ6_bitCount_0f7a4_36 (by decide +kernel) ?_
  refine wk_iushr hx hb dJ6_bitCount_0f7a4_38 ?_
  refine wk_iadd hx hb dJ6_bitCount_0f7a4_39 ?_
  refine wk_top (fun x0_4 ex0_4 => ?_)
  have hw := hw x0_4 ex0_4
  refine lv_istore_n (lv' := [(0, .int (iI x0_4))]) hx hb dJ6_bitCount_0f7a4_40 rfl hl (by decide) rfl (fun ls hl => ?_)
  refine lv_iload_n hx hb dJ6_bitCount_0f7a4_41 rfl (lv_at hl 0 rfl) ?_
  refine lv_iload_n hx hb dJ6_bitCount_0f7a4_42 rfl (lv_at hl 0 rfl) ?_
  refine lv_bipush (v := iI 16) hx hb dJ6_bitCount_0f7a4_43 (by decide +kernel) ?_
  refine wk_iushr hx hb dJ6_bitCount_0f7a4_45 ?_
  refine wk_iadd hx hb dJ6_bitCount_0f7a4_46 ?_
  refine wk_top (fun x0_5 ex0_5 => ?_)
  have hw := hw x0_5 ex0_5
  refine lv_istore_n (lv' := [(0, .int (iI x0_5))]) hx hb dJ6_bitCount_0f7a4_47 rfl hl (by decide) rfl (fun ls hl => ?_)
  refine lv_iload_n hx hb dJ6_bitCount_0f7a4_48 rfl (lv_at hl 0 rfl) ?_
  refine lv_bipush (v := iI 63) hx hb dJ6_bitCount_0f7a4_49 (by decide +kernel) ?_
  refine wk_iand hx hb dJ6_bitCount_0f7a4_51 ?_
  exact hret _ _ _ _ _ _ ⟨rfl, hw⟩ hP hS dJ6_bitCount_0f7a4_52
