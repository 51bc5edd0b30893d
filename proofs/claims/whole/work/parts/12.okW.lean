set_option maxRecDepth 100000 in
set_option maxHeartbeats 4000000 in
theorem ok_X11_feed {l : Launch} {D : va_G} {cA : Nat → ClassId} {ad : Nat → Nat} (hI : wI ad) {a1 : Int} {sg : Mem} {Q : Int → Mem → Prop} (hw : wp_X11_feed a1 sg Q) : wMi l D cA ad yX11_feed cX11_feed 2 (some .int) 2 [.ref (ad 0), .int (iI a1)] sg Q := by
  refine wk_ofI (by decide) hI (Nat.le_of_ble_eq_true rfl) ?_
  intro p e s m below meth c A QQ ls C0 hret hl hP
  have hx := C0.1
  have hb := C0.2.1
  have hown := C0.2.2.2.1
  have htb := C0.2.2.2.2.1
  have hl : lv_has ls 2 [(0, .ref (ad 0)), (1, .int (iI a1))] := hl
  refine (fun (key : ∀ (H : Heap) (locs : List Loc), wP D cA ad sg H → va_S (wA ad) s.heap H locs → W p l e (rmL 2) s m A below meth c H locs 0 0 QQ (F0 m 0 ls [])) => key _ _ hP va_S.rf) ?_
  intro H locs hP hS
  unfold wp_X11_feed at hw
  refine lv_iload_n hx hb dX11_feed_0 rfl (lv_at hl 1 rfl) ?_
  have q1 := hw.1
  have hw := hw.2
  refine wk_if_lt hx hb q1 (tgt := 11) dX11_feed_1 (by decide) (fun hh => ?_) (fun hh => ?_)
  · have hw := hw.1 hh
    refine lv_ldc (own := RX11) (v := iI (-1000000002)) hx hb hown (htb _ ki_X11_97) dX11_feed_11 ?_
    exact hret _ _ _ _ _ _ hw hP hS dX11_feed_13
  · have hw := hw.2 hh
    refine lv_iload_n hx hb dX11_feed_4 rfl (lv_at hl 1 rfl) ?_
    refine lv_sipush (v := iI 255) hx hb dX11_feed_5 (by decide +kernel) ?_
    refine wk_icmp_le hx hb q1 ⟨by decide, by decide⟩ (tgt := 14) dX11_feed_8 (by decide) (fun hh => ?_) (fun hh => ?_)
    · have hw := hw.1 hh
      refine lv_aload_n hx hb dX11_feed_14 rfl (lv_at hl 0 rfl) ?_
      refine wk_getR 8 C0 fl_X11_18 hP (by decide) sh_0 rfl dX11_feed_15 ?_
      refine lv_iload_n hx hb dX11_feed_18 rfl (lv_at hl 1 rfl) ?_
      refine wk_ri (wk_callV (rest := []) C0 cl_X11_98 (ok_X6_add hI hw) hP (by decide) sh_8 rfl rfl rfl (Nat.le_of_ble_eq_true rfl) (wk_room (by decide) (by decide)) hl.1 dX11_feed_19 ⟨Nat.le_refl _, Nat.le_refl _⟩) hS (fun r2 s3 H locs hw hP hS => ?_)
      have q4 := hw.1
      have hw := hw.2
      refine wk_if_eq hx hb q4 (tgt := 35) dX11_feed_22 (by decide) (fun hh => ?_) (fun hh => ?_)
      · have hw := hw.1 hh
        refine lv_ldc (own := RX11) (v := iI (-1000000004)) hx hb hown (htb _ ki_X11_105) dX11_feed_35 ?_
        exact hret _ _ _ _ _ _ hw hP hS dX11_feed_37
      · have hw := hw.2 hh
        refine lv_aload_n hx hb dX11_feed_25 rfl (lv_at hl 0 rfl) ?_
        refine wk_getR 8 C0 fl_X11_18 hP (by decide) sh_0 rfl dX11_feed_26 ?_
        refine wk_getI C0 fl_X11_102 hP (by decide) sh_8 rfl dX11_feed_29 ?_
        refine lv_goto (tgt := 37) hx hb dX11_feed_32 (by decide) ?_
        exact hret _ _ _ _ _ _ hw hP hS dX11_feed_37
    · have hw := hw.2 hh
      refine lv_ldc (own := RX11) (v := iI (-1000000002)) hx hb hown (htb _ ki_X11_97) dX11_feed_11 ?_
      exact hret _ _ _ _ _ _ hw hP hS dX11_feed_13

set_option maxRecDepth 100000 in
set_option maxHeartbeats 4000000 in
theorem ok_X11_bed {l : Launch} {D : va_G} {cA : Nat → ClassId} {ad : Nat → Nat} (hI : wI ad) {sg : Mem} {Q : Int → Mem → Prop} (hw : wp_X11_bed sg Q) : wMi l D cA ad yX11_bed cX11_bed 3 (some .int) 7 [.ref (ad 0)] sg Q := by
  refine wk_ofI (by decide) hI (Nat.le_of_ble_eq_true rfl) ?_
  intro p e s m below meth c A QQ ls C0 hret hl hP
  have hx := C0.1
  have hb := C0.2.1
  have hown := C0.2.2.2.1
  have htb := C0.2.2.2.2.1
  have hl : lv_has ls 3 [(0, .ref (ad 0))] := hl
  refine (fun (key : ∀ (H : Heap) (locs : List Loc), wP D cA ad sg H → va_S (wA ad) s.heap H locs → W p l e (rmL 7) s m A below meth c H locs 0 0 QQ (F0 m 0 ls [])) => key _ _ hP va_S.rf) ?_
  intro H locs hP hS
  unfold wp_X11_bed at hw
  refine lv_aload_n hx hb dX11_bed_0 rfl (lv_at hl 0 rfl) ?_
  refine wk_getR 8 C0 fl_X11_18 hP (by decide) sh_0 rfl dX11_bed_1 ?_
  refine wk_ri (wk_callV (rest := []) C0 cl_X11_106 (ok_X6_readAll hI hw) hP (by decide) sh_8 rfl rfl rfl (Nat.le_of_ble_eq_true rfl) (wk_room (by decide) (by decide)) hl.1 dX11_bed_4 ⟨Nat.le_refl _, Nat.le_refl _⟩) hS (fun r1 s2 H locs hw hP hS => ?_)
  refine lv_istore_n (lv' := [(1, .int (iI r1)), (0, .ref (ad 0))]) hx hb dX11_bed_7 rfl hl (by decide) rfl (fun ls hl => ?_)
  refine lv_iload_n hx hb dX11_bed_8 rfl (lv_at hl 0 rfl) ?_
  have q3 := hw.1
  have hw := hw.2
  refine wk_if_eq hx hb q3 (tgt := 17) dX11_bed_9 (by decide) (fun hh => ?_) (fun hh => ?_)
  · have hw := hw.1 hh
    refine lv_aload_n hx hb dX11_bed_17 rfl (lv_at hl 1 rfl) ?_
    refine wk_getR 1 C0 fl_X11_24 hP (by decide) sh_0 rfl dX11_bed_18 ?_
    refine lv_aload_n hx hb dX11_bed_21 rfl (lv_at hl 1 rfl) ?_
    refine wk_getR 8 C0 fl_X11_18 hP (by decide) sh_0 rfl dX11_bed_22 ?_
    refine wk_getR 10 C0 fl_X11_110 hP (by decide) sh_8 rfl dX11_bed_25 ?_
    refine wk_rv (wk_callV (rest := []) C0 cl_X11_113 (ok_X0_become hI hw) hP (by decide) sh_1 rfl rfl rfl (Nat.le_of_ble_eq_true rfl) (wk_room (by decide) (by decide)) hl.1 dX11_bed_28 ⟨Nat.le_refl _, Nat.le_refl _⟩) hS (fun s4 H locs hw hP hS => ?_)
    refine lv_aload_n hx hb dX11_bed_31 rfl (lv_at hl 1 rfl) ?_
    refine wk_getR 17 C0 fl_X11_28 hP (by decide) sh_0 rfl dX11_bed_32 ?_
    refine wk_rv (wk_callV (rest := []) C0 cl_X11_116 (ok_X4_layAll hI isN_17 hw) hP (by decide) sh_17 rfl rfl rfl (Nat.le_of_ble_eq_true rfl) (wk_room (by decide) (by decide)) hl.1 dX11_bed_35 ⟨Nat.le_refl _, Nat.le_refl _⟩) hS (fun s5 H locs hw hP hS => ?_)
    refine lv_aload_n hx hb dX11_bed_38 rfl (lv_at hl 1 rfl) ?_
    refine wk_getR 60 C0 fl_X11_82 hP (by decide) sh_0 rfl dX11_bed_39 ?_
    refine wk_rv (wk_callV (rest := []) C0 cl_X11_119 (ok_X9_empty hI hw) hP (by decide) sh_60 rfl rfl rfl (Nat.le_of_ble_eq_true rfl) (wk_room (by decide) (by decide)) hl.1 dX11_bed_42 ⟨Nat.le_refl _, Nat.le_refl _⟩) hS (fun s6 H locs hw hP hS => ?_)
    refine lv_aload_n hx hb dX11_bed_45 rfl (lv_at hl 1 rfl) ?_
    refine wk_getR 63 C0 fl_X11_89 hP (by decide) sh_0 rfl dX11_bed_46 ?_
    refine wk_rv (wk_callV (rest := []) C0 cl_X11_122 (ok_X1_empty hI hw) hP (by decide) sh_63 rfl rfl rfl (Nat.le_of_ble_eq_true rfl) (wk_room (by decide) (by decide)) hl.1 dX11_bed_49 ⟨Nat.le_refl _, Nat.le_refl _⟩) hS (fun s7 H locs hw hP hS => ?_)
    refine lv_aload_n hx hb dX11_bed_52 rfl (lv_at hl 1 rfl) ?_
    refine wk_getR 23 C0 fl_X11_38 hP (by decide) sh_0 rfl dX11_bed_53 ?_
    refine wk_rv (wk_callV (rest := []) C0 cl_X11_123 (ok_X5_forget hI hw) hP (by decide) sh_23 rfl rfl rfl (Nat.le_of_ble_eq_true rfl) (wk_room (by decide) (by decide)) hl.1 dX11_bed_56 ⟨Nat.le_refl _, Nat.le_refl _⟩) hS (fun s8 H locs hw hP hS => ?_)
    refine lv_iconst (v := iI 0) hx hb dX11_bed_59 rfl ?_
    refine lv_istore_n (lv' := [(2, .int (iI 0)), (1, .int (iI r1)), (0, .ref (ad 0))]) hx hb dX11_bed_60 rfl hl (by decide) rfl (fun ls hl => ?_)
    obtain ⟨I61, hI61, hw⟩ := hw
    have kI61 : ∀ (k61 : Nat) (y2_9 : Int) (s10 : Mem) (H : Heap) (locs : List Loc) (ls : Array Slot), wP D cA ad s10 H → va_S (wA ad) s.heap H locs → lv_has ls 3 [(0, .ref (ad 0)), (2, .int (iI y2_9))] → I61 k61 y2_9 s10 → W p l e (rmL 7) s m A below meth c H locs 0 0 QQ (F0 m 61 ls []) := by
      intro k61
      induction k61 using Nat.strongRecOn with
      | _ k61 ih61 =>
        intro y2_9 s10 H locs ls hP hS hl hw
        have hw := hI61 k61 y2_9 s10 hw
        refine lv_iload_n hx hb dX11_bed_61 rfl (lv_at hl 1 rfl) ?_
        refine lv_iconst (v := iI 2) hx hb dX11_bed_62 rfl ?_
        have q11 := hw.1
        have hw := hw.2
        refine wk_icmp_ge hx hb q11 ⟨by decide, by decide⟩ (tgt := 82) dX11_bed_63 (by decide) (fun hh => ?_) (fun hh => ?_)
        · have hw := hw.1 hh
          refine lv_aload_n hx hb dX11_bed_82 rfl (lv_at hl 0 rfl) ?_
          refine wk_getR 1 C0 fl_X11_24 hP (by decide) sh_0 rfl dX11_bed_83 ?_
          refine wk_getI C0 fl_X11_130 hP (by decide) sh_1 rfl dX11_bed_86 ?_
          exact hret _ _ _ _ _ _ hw hP hS dX11_bed_89
        · have hw := hw.2 hh
          refine lv_aload_n hx hb dX11_bed_66 rfl (lv_at hl 0 rfl) ?_
          refine wk_getR 26 C0 fl_X11_44 hP (by decide) sh_0 rfl dX11_bed_67 ?_
          refine lv_iload_n hx hb dX11_bed_70 rfl (lv_at hl 1 rfl) ?_
          have q12 := hw.1
          have hw := hw.2
          refine wk_aaldI C0 hP q12.1 q12.2 dX11_bed_71 ?_
          refine lv_iconst (v := iI 0) hx hb dX11_bed_72 rfl ?_
          refine wk_putZ C0 fl_X11_126 rfl rfl (by decide) hP hS (isG_sh (isG_i q12.1 q12.2)).1 (isG_sh (isG_i q12.1 q12.2)).2 rfl dX11_bed_73 (fun s13 H locs es13 hP hS => ?_)
          have hw := hw s13 es13
          refine wk_iinc (lv' := fun x2_14 => [(2, .int (iI x2_14)), (0, .ref (ad 0))]) hx hb dX11_bed_76 hl (k := 1) rfl (by decide) (fun _ => rfl) (fun x2_14 ls ex2_14 hl => ?_)
          have hw := hw x2_14 ex2_14
          refine lv_goto (tgt := 61) hx hb dX11_bed_79 (by decide) ?_
          obtain ⟨k15, hk15, hw⟩ := hw
          exact ih61 k15 hk15 x2_14 s13 _ _ _ hP hS (lv_sub hl [1, 0] rfl) hw
    obtain ⟨k16, hw⟩ := hw
    exact kI61 k16 0 s8 _ _ _ hP hS (lv_sub hl [2, 0] rfl) hw
  · have hw := hw.2 hh
    refine lv_bipush (v := iI (-10)) hx hb dX11_bed_12 (by decide +kernel) ?_
    refine lv_iload_n hx hb dX11_bed_14 rfl (lv_at hl 0 rfl) ?_
    refine wk_isub hx hb dX11_bed_15 ?_
    exact hret _ _ _ _ _ _ hw hP hS dX11_bed_16

set_option maxRecDepth 100000 in
set_option maxHeartbeats 4000000 in
theorem ok_X11_fault {l : Launch} {D : va_G} {cA : Nat → ClassId} {ad : Nat → Nat} (hI : wI ad) {sg : Mem} {Q : Int → Prop} (hw : wp_X11_fault sg Q) : wMi l D cA ad yX11_fault cX11_fault 1 (some .int) 1 [.ref (ad 0)] sg (fun z u => u = sg ∧ Q z) := by
  refine wk_ofI (by decide) hI (Nat.le_of_ble_eq_true rfl) ?_
  intro p e s m below meth c A QQ ls C0 hret hl hP
  have hx := C0.1
  have hb := C0.2.1
  have hown := C0.2.2.2.1
  have htb := C0.2.2.2.2.1
  have hl : lv_has ls 1 [(0, .ref (ad 0))] := hl
  refine (fun (key : ∀ (H : Heap) (locs : List Loc), wP D cA ad sg H → va_S (wA ad) s.heap H locs → W p l e (rmL 1) s m A below meth c H locs 0 0 QQ (F0 m 0 ls [])) => key _ _ hP va_S.rf) ?_
  intro H locs hP hS
  unfold wp_X11_fault at hw
  refine lv_aload_n hx hb dX11_fault_0 rfl (lv_at hl 0 rfl) ?_
  refine wk_getR 8 C0 fl_X11_18 hP (by decide) sh_0 rfl dX11_fault_1 ?_
  refine wk_getI C0 fl_X11_133 hP (by decide) sh_8 rfl dX11_fault_4 ?_
  exact hret _ _ _ _ _ _ ⟨rfl, hw⟩ hP hS dX11_fault_7

set_option maxRecDepth 100000 in
set_option maxHeartbeats 4000000 in
theorem ok_X11_told {l : Launch} {D : va_G} {cA : Nat → ClassId} {ad : Nat → Nat} (hI : wI ad) {a1 : Int} {sg : Mem} {Q : Int → Prop} (hw : wp_X11_told a1 sg Q) : wMi l D cA ad yX11_told cX11_told 2 (some .int) 3 [.ref (ad 0), .int (iI a1)] sg (fun z u => u = sg ∧ Q z) := by
  refine wk_ofI (by decide) hI (Nat.le_of_ble_eq_true rfl) ?_
  intro p e s m below meth c A QQ ls C0 hret hl hP
  have hx := C0.1
  have hb := C0.2.1
  have hown := C0.2.2.2.1
  have htb := C0.2.2.2.2.1
  have hl : lv_has ls 2 [(0, .ref (ad 0)), (1, .int (iI a1))] := hl
  refine (fun (key : ∀ (H : Heap) (locs : List Loc), wP D cA ad sg H → va_S (wA ad) s.heap H locs → W p l e (rmL 3) s m A below meth c H locs 0 0 QQ (F0 m 0 ls [])) => key _ _ hP va_S.rf) ?_
  intro H locs hP hS
  unfold wp_X11_told at hw
  refine lv_iload_n hx hb dX11_told_0 rfl (lv_at hl 1 rfl) ?_
  have q1 := hw.1
  have hw := hw.2
  by_cases hh0 : a1 = 0
  · have hw := hw.1 hh0
    refine lv_tableIn (off := 63) (tgt := 64) hx hb dX11_told_1 (by rw [hh0]; first | done | decide +kernel) (by rw [hh0]; first | done | decide +kernel) (by rw [hh0]; first | done | decide +kernel) (by decide) ?_
    refine lv_aload_n hx hb dX11_told_64 rfl (lv_at hl 0 rfl) ?_
    refine wk_getR 1 C0 fl_X11_24 hP (by decide) sh_0 rfl dX11_told_65 ?_
    refine wk_getI C0 fl_X11_136 hP (by decide) sh_1 rfl dX11_told_68 ?_
    exact hret _ _ _ _ _ _ ⟨rfl, hw⟩ hP hS dX11_told_71
  by_cases hh1 : a1 = 1
  · have hw := hw.2.1 hh1
    refine lv_tableIn (off := 71) (tgt := 72) hx hb dX11_told_1 (by rw [hh1]; first | done | decide +kernel) (by rw [hh1]; first | done | decide +kernel) (by rw [hh1]; first | done | decide +kernel) (by decide) ?_
    refine lv_aload_n hx hb dX11_told_72 rfl (lv_at hl 0 rfl) ?_
    refine wk_getR 1 C0 fl_X11_24 hP (by decide) sh_0 rfl dX11_told_73 ?_
    refine wk_getI C0 fl_X11_139 hP (by decide) sh_1 rfl dX11_told_76 ?_
    have q2 := hw.1
    have hw := hw.2
    refine wk_if_eq hx hb q2 (tgt := 86) dX11_told_79 (by decide) (fun hh => ?_) (fun hh => ?_)
    · have hw := hw.1 hh
      refine lv_iconst (v := iI 0) hx hb dX11_told_86 rfl ?_
      exact hret _ _ _ _ _ _ ⟨rfl, hw⟩ hP hS dX11_told_87
    · have hw := hw.2 hh
      refine lv_iconst (v := iI 1) hx hb dX11_told_82 rfl ?_
      refine lv_goto (tgt := 87) hx hb dX11_told_83 (by decide) ?_
      exact hret _ _ _ _ _ _ ⟨rfl, hw⟩ hP hS dX11_told_87
  by_cases hh2 : a1 = 2
  · have hw := hw.2.2.1 hh2
    refine lv_tableIn (off := 87) (tgt := 88) hx hb dX11_told_1 (by rw [hh2]; first | done | decide +kernel) (by rw [hh2]; first | done | decide +kernel) (by rw [hh2]; first | done | decide +kernel) (by decide) ?_
    refine lv_aload_n hx hb dX11_told_88 rfl (lv_at hl 0 rfl) ?_
    refine wk_getR 1 C0 fl_X11_24 hP (by decide) sh_0 rfl dX11_told_89 ?_
    refine wk_getI C0 fl_X11_130 hP (by decide) sh_1 rfl dX11_told_92 ?_
    exact hret _ _ _ _ _ _ ⟨rfl, hw⟩ hP hS dX11_told_95
  by_cases hh3 : a1 = 3
  · have hw := hw.2.2.2.1 hh3
    refine lv_tableIn (off := 95) (tgt := 96) hx hb dX11_told_1 (by rw [hh3]; first | done | decide +kernel) (by rw [hh3]; first | done | decide +kernel) (by rw [hh3]; first | done | decide +kernel) (by decide) ?_
    refine lv_aload_n hx hb dX11_told_96 rfl (lv_at hl 0 rfl) ?_
    refine wk_getR 1 C0 fl_X11_24 hP (by decide) sh_0 rfl dX11_told_97 ?_
    refine wk_getI C0 fl_X11_142 hP (by decide) sh_1 rfl dX11_told_100 ?_
    exact hret _ _ _ _ _ _ ⟨rfl, hw⟩ hP hS dX11_told_103
  by_cases hh4 : a1 = 4
  · have hw := hw.2.2.2.2.1 hh4
    refine lv_tableIn (off := 103) (tgt := 104) hx hb dX11_told_1 (by rw [hh4]; first | done | decide +kernel) (by rw [hh4]; first | done | decide +kernel) (by rw [hh4]; first | done | decide +kernel) (by decide) ?_
    refine lv_aload_n hx hb dX11_told_104 rfl (lv_at hl 0 rfl) ?_
    refine wk_getR 8 C0 fl_X11_18 hP (by decide) sh_0 rfl dX11_told_105 ?_
    refine wk_getI C0 fl_X11_102 hP (by decide) sh_8 rfl dX11_told_108 ?_
    exact hret _ _ _ _ _ _ ⟨rfl, hw⟩ hP hS dX11_told_111
  by_cases hh5 : a1 = 5
  · have hw := hw.2.2.2.2.2.1 hh5
    refine lv_tableIn (off := 111) (tgt := 112) hx hb dX11_told_1 (by rw [hh5]; first | done | decide +kernel) (by rw [hh5]; first | done | decide +kernel) (by rw [hh5]; first | done | decide +kernel) (by decide) ?_
    refine lv_aload_n hx hb dX11_told_112 rfl (lv_at hl 0 rfl) ?_
    refine wk_getR 17 C0 fl_X11_28 hP (by decide) sh_0 rfl dX11_told_113 ?_
    refine wk_getI C0 fl_X11_145 hP (by decide) sh_17 rfl dX11_told_116 ?_
    exact hret _ _ _ _ _ _ ⟨rfl, hw⟩ hP hS dX11_told_119
  by_cases hh6 : a1 = 6
  · have hw := hw.2.2.2.2.2.2.1 hh6
    refine lv_tableIn (off := 119) (tgt := 120) hx hb dX11_told_1 (by rw [hh6]; first | done | decide +kernel) (by rw [hh6]; first | done | decide +kernel) (by rw [hh6]; first | done | decide +kernel) (by decide) ?_
    refine lv_aload_n hx hb dX11_told_120 rfl (lv_at hl 0 rfl) ?_
    refine wk_getR 17 C0 fl_X11_28 hP (by decide) sh_0 rfl dX11_told_121 ?_
    refine wk_rip (wk_callV (rest := []) C0 cl_X11_148 (ok_X4_up hI isN_17 hw) hP (by decide) sh_17 rfl rfl rfl (Nat.le_of_ble_eq_true rfl) (wk_room (by decide) (by decide)) hl.1 dX11_told_124 ⟨Nat.le_refl _, Nat.le_refl _⟩) hS (fun r3 H locs hw hP hS => ?_)
    exact hret _ _ _ _ _ _ ⟨rfl, hw⟩ hP hS dX11_told_127
  by_cases hh7 : a1 = 7
  · have hw := hw.2.2.2.2.2.2.2.1 hh7
    refine lv_tableIn (off := 127) (tgt := 128) hx hb dX11_told_1 (by rw [hh7]; first | done | decide +kernel) (by rw [hh7]; first | done | decide +kernel) (by rw [hh7]; first | done | decide +kernel) (by decide) ?_
    refine lv_aload_n hx hb dX11_told_128 rfl (lv_at hl 0 rfl) ?_
    refine wk_getR 17 C0 fl_X11_28 hP (by decide) sh_0 rfl dX11_told_129 ?_
    refine wk_rip (wk_callV (rest := []) C0 cl_X11_151 (ok_X4_awake hI isN_17 hw) hP (by decide) sh_17 rfl rfl rfl (Nat.le_of_ble_eq_true rfl) (wk_room (by decide) (by decide)) hl.1 dX11_told_132 ⟨Nat.le_refl _, Nat.le_refl _⟩) hS (fun r4 H locs hw hP hS => ?_)
    exact hret _ _ _ _ _ _ ⟨rfl, hw⟩ hP hS dX11_told_135
  by_cases hh8 : a1 = 8
  · have hw := hw.2.2.2.2.2.2.2.2.1 hh8
    refine lv_tableIn (off := 135) (tgt := 136) hx hb dX11_told_1 (by rw [hh8]; first | done | decide +kernel) (by rw [hh8]; first | done | decide +kernel) (by rw [hh8]; first | done | decide +kernel) (by decide) ?_
    refine lv_aload_n hx hb dX11_told_136 rfl (lv_at hl 0 rfl) ?_
    refine wk_getR 17 C0 fl_X11_28 hP (by decide) sh_0 rfl dX11_told_137 ?_
    refine wk_rip (wk_callV (rest := []) C0 cl_X11_154 (ok_X4_coldest hI isN_17 hw) hP (by decide) sh_17 rfl rfl rfl (Nat.le_of_ble_eq_true rfl) (wk_room (by decide) (by decide)) hl.1 dX11_told_140 ⟨Nat.le_refl _, Nat.le_refl _⟩) hS (fun r5 H locs hw hP hS => ?_)
    exact hret _ _ _ _ _ _ ⟨rfl, hw⟩ hP hS dX11_told_143
  by_cases hh9 : a1 = 9
  · have hw := hw.2.2.2.2.2.2.2.2.2.1 hh9
    refine lv_tableIn (off := 143) (tgt := 144) hx hb dX11_told_1 (by rw [hh9]; first | done | decide +kernel) (by rw [hh9]; first | done | decide +kernel) (by rw [hh9]; first | done | decide +kernel) (by decide) ?_
    refine lv_aload_n hx hb dX11_told_144 rfl (lv_at hl 0 rfl) ?_
    refine wk_getR 60 C0 fl_X11_82 hP (by decide) sh_0 rfl dX11_told_145 ?_
    refine wk_getI C0 fl_X11_157 hP (by decide) sh_60 rfl dX11_told_148 ?_
    exact hret _ _ _ _ _ _ ⟨rfl, hw⟩ hP hS dX11_told_151
  by_cases hh10 : a1 = 10
  · have hw := hw.2.2.2.2.2.2.2.2.2.2.1 hh10
    refine lv_tableIn (off := 151) (tgt := 152) hx hb dX11_told_1 (by rw [hh10]; first | done | decide +kernel) (by rw [hh10]; first | done | decide +kernel) (by rw [hh10]; first | done | decide +kernel) (by decide) ?_
    refine lv_aload_n hx hb dX11_told_152 rfl (lv_at hl 0 rfl) ?_
    refine wk_getR 63 C0 fl_X11_89 hP (by decide) sh_0 rfl dX11_told_153 ?_
    refine wk_getI C0 fl_X11_160 hP (by decide) sh_63 rfl dX11_told_156 ?_
    exact hret _ _ _ _ _ _ ⟨rfl, hw⟩ hP hS dX11_told_159
  by_cases hh11 : a1 = 11
  · have hw := hw.2.2.2.2.2.2.2.2.2.2.2.1 hh11
    refine lv_tableIn (off := 159) (tgt := 160) hx hb dX11_told_1 (by rw [hh11]; first | done | decide +kernel) (by rw [hh11]; first | done | decide +kernel) (by rw [hh11]; first | done | decide +kernel) (by decide) ?_
    refine lv_aload_n hx hb dX11_told_160 rfl (lv_at hl 0 rfl) ?_
    refine wk_getR 23 C0 fl_X11_38 hP (by decide) sh_0 rfl dX11_told_161 ?_
    refine wk_getI C0 fl_X11_161 hP (by decide) sh_23 rfl dX11_told_164 ?_
    exact hret _ _ _ _ _ _ ⟨rfl, hw⟩ hP hS dX11_told_167
  have hw := hw.2.2.2.2.2.2.2.2.2.2.2.2 (by omega)
  refine lv_tableOut (tgt := 168) hx hb dX11_told_1 (by rw [iI_toInt q1]; omega) (by decide) ?_
  refine lv_ldc (own := RX11) (v := iI (-1000000002)) hx hb hown (htb _ ki_X11_97) dX11_told_168 ?_
  exact hret _ _ _ _ _ _ ⟨rfl, hw⟩ hP hS dX11_told_170

set_option maxRecDepth 100000 in
set_option maxHeartbeats 4000000 in
theorem ok_X11_place {l : Launch} {D : va_G} {cA : Nat → ClassId} {ad : Nat → Nat} (hI : wI ad) {a1 : Int} {a2 : Int} {sg : Mem} {Q : Int → Prop} (hw : wp_X11_place a1 a2 sg Q) : wMi l D cA ad yX11_place cX11_place 3 (some .int) 2 [.ref (ad 0), .int (iI a1), .int (iI a2)] sg (fun z u => u = sg ∧ Q z) := by
  refine wk_ofI (by decide) hI (Nat.le_of_ble_eq_true rfl) ?_
  intro p e s m below meth c A QQ ls C0 hret hl hP
  have hx := C0.1
  have hb := C0.2.1
  have hown := C0.2.2.2.1
  have htb := C0.2.2.2.2.1
  have hl : lv_has ls 3 [(0, .ref (ad 0)), (1, .int (iI a1)), (2, .int (iI a2))] := hl
  refine (fun (key : ∀ (H : Heap) (locs : List Loc), wP D cA ad sg H → va_S (wA ad) s.heap H locs → W p l e (rmL 2) s m A below meth c H locs 0 0 QQ (F0 m 0 ls [])) => key _ _ hP va_S.rf) ?_
  intro H locs hP hS
  unfold wp_X11_place at hw
  refine lv_aload_n hx hb dX11_place_0 rfl (lv_at hl 0 rfl) ?_
  refine wk_getR 1 C0 fl_X11_24 hP (by decide) sh_0 rfl dX11_place_1 ?_
  refine lv_iload_n hx hb dX11_place_4 rfl (lv_at hl 1 rfl) ?_
  refine wk_rip (wk_callV (rest := []) C0 cl_X11_162 (ok_X0_hasPlace hI hw) hP (by decide) sh_1 rfl rfl rfl (Nat.le_of_ble_eq_true rfl) (wk_room (by decide) (by decide)) hl.1 dX11_place_5 ⟨Nat.le_refl _, Nat.le_refl _⟩) hS (fun r1 H locs hw hP hS => ?_)
  have q2 := hw.1
  have hw := hw.2
  refine wk_if_ne hx hb q2 (tgt := 14) dX11_place_8 (by decide) (fun hh => ?_) (fun hh => ?_)
  · have hw := hw.2 hh
    refine lv_iload_n hx hb dX11_place_14 rfl (lv_at hl 2 rfl) ?_
    have q3 := hw.1
    have hw := hw.2
    by_cases hh0 : a2 = 0
    · have hw := hw.1 hh0
      refine lv_lookup (off := 25) (tgt := 40) hx hb dX11_place_15 (by decide +kernel) (by rw [hh0]; first | done | decide +kernel) (by decide) ?_
      refine lv_aload_n hx hb dX11_place_40 rfl (lv_at hl 0 rfl) ?_
      refine wk_getR 1 C0 fl_X11_24 hP (by decide) sh_0 rfl dX11_place_41 ?_
      refine wk_getR 2 C0 fl_X11_166 hP (by decide) sh_1 rfl dX11_place_44 ?_
      refine lv_iload_n hx hb dX11_place_47 rfl (lv_at hl 1 rfl) ?_
      have q4 := hw.1
      have hw := hw.2
      refine wk_iald C0 hP (by decide) sh_2 q4.1 q4.2 (by decide) dX11_place_48 ?_
      exact hret _ _ _ _ _ _ ⟨rfl, hw⟩ hP hS dX11_place_49
    by_cases hh1 : a2 = 1
    · have hw := hw.2.1 hh1
      refine lv_lookup (off := 35) (tgt := 50) hx hb dX11_place_15 (by decide +kernel) (by rw [hh1]; first | done | decide +kernel) (by decide) ?_
      refine lv_aload_n hx hb dX11_place_50 rfl (lv_at hl 0 rfl) ?_
      refine wk_getR 17 C0 fl_X11_28 hP (by decide) sh_0 rfl dX11_place_51 ?_
      refine wk_getR 18 C0 fl_X11_170 hP (by decide) sh_17 rfl dX11_place_54 ?_
      refine lv_iload_n hx hb dX11_place_57 rfl (lv_at hl 1 rfl) ?_
      have q5 := hw.1
      have hw := hw.2
      refine wk_iald C0 hP (by decide) sh_18 q5.1 q5.2 (by decide) dX11_place_58 ?_
      exact hret _ _ _ _ _ _ ⟨rfl, hw⟩ hP hS dX11_place_59
    have hw := hw.2.2 ⟨hh0, hh1⟩
    refine lv_lookup (off := 45) (tgt := 60) hx hb dX11_place_15 (by decide +kernel) (by rw [iI_toInt q3]; simp only [Op.lookupswitch.offset_cons, List.toList_toArray]; rw [if_neg (by omega)]; rw [if_neg (by omega)]; rfl) (by decide) ?_
    refine lv_ldc (own := RX11) (v := iI (-1000000002)) hx hb hown (htb _ ki_X11_97) dX11_place_60 ?_
    exact hret _ _ _ _ _ _ ⟨rfl, hw⟩ hP hS dX11_place_62
  · have hw := hw.1 hh
    refine lv_ldc (own := RX11) (v := iI (-1000000001)) hx hb hown (htb _ ki_X11_165) dX11_place_11 ?_
    exact hret _ _ _ _ _ _ ⟨rfl, hw⟩ hP hS dX11_place_13

set_option maxRecDepth 100000 in
set_option maxHeartbeats 4000000 in
theorem ok_X11_sleeper {l : Launch} {D : va_G} {cA : Nat → ClassId} {ad : Nat → Nat} (hI : wI ad) {a1 : Int} {a2 : Int} {sg : Mem} {Q : Int → Prop} (hw : wp_X11_sleeper a1 a2 sg Q) : wMi l D cA ad yX11_sleeper cX11_sleeper 3 (some .int) 2 [.ref (ad 0), .int (iI a1), .int (iI a2)] sg (fun z u => u = sg ∧ Q z) := by
  refine wk_ofI (by decide) hI (Nat.le_of_ble_eq_true rfl) ?_
  intro p e s m below meth c A QQ ls C0 hret hl hP
  have hx := C0.1
  have hb := C0.2.1
  have hown := C0.2.2.2.1
  have htb := C0.2.2.2.2.1
  have hl : lv_has ls 3 [(0, .ref (ad 0)), (1, .int (iI a1)), (2, .int (iI a2))] := hl
  refine (fun (key : ∀ (H : Heap) (locs : List Loc), wP D cA ad sg H → va_S (wA ad) s.heap H locs → W p l e (rmL 2) s m A below meth c H locs 0 0 QQ (F0 m 0 ls [])) => key _ _ hP va_S.rf) ?_
  intro H locs hP hS
  unfold wp_X11_sleeper at hw
  refine lv_aload_n hx hb dX11_sleeper_0 rfl (lv_at hl 0 rfl) ?_
  refine wk_getR 1 C0 fl_X11_24 hP (by decide) sh_0 rfl dX11_sleeper_1 ?_
  refine lv_iload_n hx hb dX11_sleeper_4 rfl (lv_at hl 1 rfl) ?_
  refine wk_rip (wk_callV (rest := []) C0 cl_X11_173 (ok_X0_hasSleeper hI hw) hP (by decide) sh_1 rfl rfl rfl (Nat.le_of_ble_eq_true rfl) (wk_room (by decide) (by decide)) hl.1 dX11_sleeper_5 ⟨Nat.le_refl _, Nat.le_refl _⟩) hS (fun r1 H locs hw hP hS => ?_)
  have q2 := hw.1
  have hw := hw.2
  refine wk_if_ne hx hb q2 (tgt := 14) dX11_sleeper_8 (by decide) (fun hh => ?_) (fun hh => ?_)
  · have hw := hw.2 hh
    refine lv_iload_n hx hb dX11_sleeper_14 rfl (lv_at hl 2 rfl) ?_
    have q3 := hw.1
    have hw := hw.2
    by_cases hh0 : a2 = 0
    · have hw := hw.1 hh0
      refine lv_tableIn (off := 33) (tgt := 48) hx hb dX11_sleeper_15 (by rw [hh0]; first | done | decide +kernel) (by rw [hh0]; first | done | decide +kernel) (by rw [hh0]; first | done | decide +kernel) (by decide) ?_
      refine lv_aload_n hx hb dX11_sleeper_48 rfl (lv_at hl 0 rfl) ?_
      refine wk_getR 17 C0 fl_X11_28 hP (by decide) sh_0 rfl dX11_sleeper_49 ?_
      refine wk_getR 19 C0 fl_X11_176 hP (by decide) sh_17 rfl dX11_sleeper_52 ?_
      refine lv_iload_n hx hb dX11_sleeper_55 rfl (lv_at hl 1 rfl) ?_
      have q4 := hw.1
      have hw := hw.2
      refine wk_iald C0 hP (by decide) sh_19 q4.1 q4.2 (by decide) dX11_sleeper_56 ?_
      exact hret _ _ _ _ _ _ ⟨rfl, hw⟩ hP hS dX11_sleeper_57
    by_cases hh1 : a2 = 1
    · have hw := hw.2.1 hh1
      refine lv_tableIn (off := 43) (tgt := 58) hx hb dX11_sleeper_15 (by rw [hh1]; first | done | decide +kernel) (by rw [hh1]; first | done | decide +kernel) (by rw [hh1]; first | done | decide +kernel) (by decide) ?_
      refine lv_aload_n hx hb dX11_sleeper_58 rfl (lv_at hl 0 rfl) ?_
      refine wk_getR 1 C0 fl_X11_24 hP (by decide) sh_0 rfl dX11_sleeper_59 ?_
      refine wk_getR 4 C0 fl_X11_179 hP (by decide) sh_1 rfl dX11_sleeper_62 ?_
      refine lv_iload_n hx hb dX11_sleeper_65 rfl (lv_at hl 1 rfl) ?_
      have q5 := hw.1
      have hw := hw.2
      refine wk_iald C0 hP (by decide) sh_4 q5.1 q5.2 (by decide) dX11_sleeper_66 ?_
      exact hret _ _ _ _ _ _ ⟨rfl, hw⟩ hP hS dX11_sleeper_67
    by_cases hh2 : a2 = 2
    · have hw := hw.2.2.1 hh2
      refine lv_tableIn (off := 53) (tgt := 68) hx hb dX11_sleeper_15 (by rw [hh2]; first | done | decide +kernel) (by rw [hh2]; first | done | decide +kernel) (by rw [hh2]; first | done | decide +kernel) (by decide) ?_
      refine lv_aload_n hx hb dX11_sleeper_68 rfl (lv_at hl 0 rfl) ?_
      refine wk_getR 1 C0 fl_X11_24 hP (by decide) sh_0 rfl dX11_sleeper_69 ?_
      refine wk_getR 5 C0 fl_X11_182 hP (by decide) sh_1 rfl dX11_sleeper_72 ?_
      refine lv_iload_n hx hb dX11_sleeper_75 rfl (lv_at hl 1 rfl) ?_
      have q6 := hw.1
      have hw := hw.2
      refine wk_iald C0 hP (by decide) sh_5 q6.1 q6.2 (by decide) dX11_sleeper_76 ?_
      exact hret _ _ _ _ _ _ ⟨rfl, hw⟩ hP hS dX11_sleeper_77
    by_cases hh3 : a2 = 3
    · have hw := hw.2.2.2.1 hh3
      refine lv_tableIn (off := 63) (tgt := 78) hx hb dX11_sleeper_15 (by rw [hh3]; first | done | decide +kernel) (by rw [hh3]; first | done | decide +kernel) (by rw [hh3]; first | done | decide +kernel) (by decide) ?_
      refine lv_aload_n hx hb dX11_sleeper_78 rfl (lv_at hl 0 rfl) ?_
      refine wk_getR 1 C0 fl_X11_24 hP (by decide) sh_0 rfl dX11_sleeper_79 ?_
      refine wk_getR 6 C0 fl_X11_185 hP (by decide) sh_1 rfl dX11_sleeper_82 ?_
      refine lv_iload_n hx hb dX11_sleeper_85 rfl (lv_at hl 1 rfl) ?_
      have q7 := hw.1
      have hw := hw.2
      refine wk_iald C0 hP (by decide) sh_6 q7.1 q7.2 (by decide) dX11_sleeper_86 ?_
      exact hret _ _ _ _ _ _ ⟨rfl, hw⟩ hP hS dX11_sleeper_87
    by_cases hh4 : a2 = 4
    · have hw := hw.2.2.2.2.1 hh4
      refine lv_tableIn (off := 73) (tgt := 88) hx hb dX11_sleeper_15 (by rw [hh4]; first | done | decide +kernel) (by rw [hh4]; first | done | decide +kernel) (by rw [hh4]; first | done | decide +kernel) (by decide) ?_
      refine lv_aload_n hx hb dX11_sleeper_88 rfl (lv_at hl 0 rfl) ?_
      refine wk_getR 17 C0 fl_X11_28 hP (by decide) sh_0 rfl dX11_sleeper_89 ?_
      refine lv_iload_n hx hb dX11_sleeper_92 rfl (lv_at hl 1 rfl) ?_
      refine wk_rip (wk_callV (rest := []) C0 cl_X11_188 (ok_X4_placeOf hI isN_17 hw) hP (by decide) sh_17 rfl rfl rfl (Nat.le_of_ble_eq_true rfl) (wk_room (by decide) (by decide)) hl.1 dX11_sleeper_93 ⟨Nat.le_refl _, Nat.le_refl _⟩) hS (fun r8 H locs hw hP hS => ?_)
      exact hret _ _ _ _ _ _ ⟨rfl, hw⟩ hP hS dX11_sleeper_96
    have hw := hw.2.2.2.2.2 (by omega)
    refine lv_tableOut (tgt := 97) hx hb dX11_sleeper_15 (by rw [iI_toInt q3]; omega) (by decide) ?_
    refine lv_ldc (own := RX11) (v := iI (-1000000002)) hx hb hown (htb _ ki_X11_97) dX11_sleeper_97 ?_
    exact hret _ _ _ _ _ _ ⟨rfl, hw⟩ hP hS dX11_sleeper_99
  · have hw := hw.1 hh
    refine lv_ldc (own := RX11) (v := iI (-1000000001)) hx hb hown (htb _ ki_X11_165) dX11_sleeper_11 ?_
    exact hret _ _ _ _ _ _ ⟨rfl, hw⟩ hP hS dX11_sleeper_13

set_option maxRecDepth 100000 in
set_option maxHeartbeats 4000000 in
theorem ok_X11_rule {l : Launch} {D : va_G} {cA : Nat → ClassId} {ad : Nat → Nat} (hI : wI ad) {a1 : Int} {sg : Mem} {Q : Int → Prop} (hw : wp_X11_rule a1 sg Q) : wMi l D cA ad yX11_rule cX11_rule 2 (some .int) 1 [.ref (ad 0), .int (iI a1)] sg (fun z u => u = sg ∧ Q z) := by
  refine wk_ofI (by decide) hI (Nat.le_of_ble_eq_true rfl) ?_
  intro p e s m below meth c A QQ ls C0 hret hl hP
  have hx := C0.1
  have hb := C0.2.1
  have hown := C0.2.2.2.1
  have htb := C0.2.2.2.2.1
  have hl : lv_has ls 2 [(0, .ref (ad 0)), (1, .int (iI a1))] := hl
  refine (fun (key : ∀ (H : Heap) (locs : List Loc), wP D cA ad sg H → va_S (wA ad) s.heap H locs → W p l e (rmL 1) s m A below meth c H locs 0 0 QQ (F0 m 0 ls [])) => key _ _ hP va_S.rf) ?_
  intro H locs hP hS
  unfold wp_X11_rule at hw
  refine lv_iload_n hx hb dX11_rule_0 rfl (lv_at hl 1 rfl) ?_
  have q1 := hw.1
  have hw := hw.2
  refine wk_if_lt hx hb q1 (tgt := 15) dX11_rule_1 (by decide) (fun hh => ?_) (fun hh => ?_)
  · have hw := hw.1 hh
    refine lv_iconst (v := iI (-1)) hx hb dX11_rule_15 rfl ?_
    refine lv_goto (tgt := 28) hx hb dX11_rule_16 (by decide) ?_
    exact hret _ _ _ _ _ _ ⟨rfl, hw⟩ hP hS dX11_rule_28
  · have hw := hw.2 hh
    refine lv_iload_n hx hb dX11_rule_4 rfl (lv_at hl 1 rfl) ?_
    refine lv_aload_n hx hb dX11_rule_5 rfl (lv_at hl 0 rfl) ?_
    refine wk_getR 1 C0 fl_X11_24 hP (by decide) sh_0 rfl dX11_rule_6 ?_
    refine wk_getI C0 fl_X11_142 hP (by decide) sh_1 rfl dX11_rule_9 ?_
    have q2 := hw.1
    have hw := hw.2
    refine wk_icmp_lt hx hb q1 q2 (tgt := 19) dX11_rule_12 (by decide) (fun hh => ?_) (fun hh => ?_)
    · have hw := hw.1 hh
      refine lv_aload_n hx hb dX11_rule_19 rfl (lv_at hl 0 rfl) ?_
      refine wk_getR 1 C0 fl_X11_24 hP (by decide) sh_0 rfl dX11_rule_20 ?_
      refine wk_getR 7 C0 fl_X11_192 hP (by decide) sh_1 rfl dX11_rule_23 ?_
      refine lv_iload_n hx hb dX11_rule_26 rfl (lv_at hl 1 rfl) ?_
      have q3 := hw.1
      have hw := hw.2
      refine wk_iald C0 hP (by decide) sh_7 q3.1 q3.2 (by decide) dX11_rule_27 ?_
      exact hret _ _ _ _ _ _ ⟨rfl, hw⟩ hP hS dX11_rule_28
    · have hw := hw.2 hh
      refine lv_iconst (v := iI (-1)) hx hb dX11_rule_15 rfl ?_
      refine lv_goto (tgt := 28) hx hb dX11_rule_16 (by decide) ?_
      exact hret _ _ _ _ _ _ ⟨rfl, hw⟩ hP hS dX11_rule_28

set_option maxRecDepth 100000 in
set_option maxHeartbeats 4000000 in
theorem ok_X11_isWord {l : Launch} {D : va_G} {cA : Nat → ClassId} {ad : Nat → Nat} (hI : wI ad) {a1 : Int} {sg : Mem} {Q : Int → Prop} (hw : wp_X11_isWord a1 sg Q) : wMi l D cA ad yX11_isWord cX11_isWord 1 (some .boolean) 1 [.int (iI a1)] sg (fun z u => u = sg ∧ Q z) := by
  refine wk_ofZ (by decide) hI (Nat.le_of_ble_eq_true rfl) ?_
  intro p e s m below meth c A QQ ls C0 hret hl hP
  have hx := C0.1
  have hb := C0.2.1
  have hown := C0.2.2.2.1
  have htb := C0.2.2.2.2.1
  have hl : lv_has ls 1 [(0, .int (iI a1))] := hl
  refine (fun (key : ∀ (H : Heap) (locs : List Loc), wP D cA ad sg H → va_S (wA ad) s.heap H locs → W p l e (rmL 1) s m A below meth c H locs 0 0 QQ (F0 m 0 ls [])) => key _ _ hP va_S.rf) ?_
  intro H locs hP hS
  unfold wp_X11_isWord at hw
  refine lv_iload_n hx hb dX11_isWord_0 rfl (lv_at hl 0 rfl) ?_
  have q1 := hw.1
  have hw := hw.2
  refine wk_if_lt hx hb q1 (tgt := 13) dX11_isWord_1 (by decide) (fun hh => ?_) (fun hh => ?_)
  · have hw := hw.1 hh
    refine lv_iconst (v := iI 0) hx hb dX11_isWord_13 rfl ?_
    exact hret _ _ _ _ _ _ (by decide) ⟨rfl, hw⟩ hP hS dX11_isWord_14
  · have hw := hw.2 hh
    refine lv_iload_n hx hb dX11_isWord_4 rfl (lv_at hl 0 rfl) ?_
    refine lv_iconst (v := iI 4) hx hb dX11_isWord_5 rfl ?_
    refine wk_icmp_ge hx hb q1 ⟨by decide, by decide⟩ (tgt := 13) dX11_isWord_6 (by decide) (fun hh => ?_) (fun hh => ?_)
    · have hw := hw.1 hh
      refine lv_iconst (v := iI 0) hx hb dX11_isWord_13 rfl ?_
      exact hret _ _ _ _ _ _ (by decide) ⟨rfl, hw⟩ hP hS dX11_isWord_14
    · have hw := hw.2 hh
      refine lv_iconst (v := iI 1) hx hb dX11_isWord_9 rfl ?_
      refine lv_goto (tgt := 14) hx hb dX11_isWord_10 (by decide) ?_
      exact hret _ _ _ _ _ _ (by decide) ⟨rfl, hw⟩ hP hS dX11_isWord_14

set_option maxRecDepth 100000 in
set_option maxHeartbeats 4000000 in
theorem ok_X11_hoursRefused {l : Launch} {D : va_G} {cA : Nat → ClassId} {ad : Nat → Nat} (hI : wI ad) {sg : Mem} {Q : Int → Prop} (hw : wp_X11_hoursRefused sg Q) : wMi l D cA ad yX11_hoursRefused cX11_hoursRefused 1 (some .int) 1 [.ref (ad 0)] sg (fun z u => u = sg ∧ Q z) := by
  refine wk_ofI (by decide) hI (Nat.le_of_ble_eq_true rfl) ?_
  intro p e s m below meth c A QQ ls C0 hret hl hP
  have hx := C0.1
  have hb := C0.2.1
  have hown := C0.2.2.2.1
  have htb := C0.2.2.2.2.1
  have hl : lv_has ls 1 [(0, .ref (ad 0))] := hl
  refine (fun (key : ∀ (H : Heap) (locs : List Loc), wP D cA ad sg H → va_S (wA ad) s.heap H locs → W p l e (rmL 1) s m A below meth c H locs 0 0 QQ (F0 m 0 ls [])) => key _ _ hP va_S.rf) ?_
  intro H locs hP hS
  unfold wp_X11_hoursRefused at hw
  refine lv_aload_n hx hb dX11_hoursRefused_0 rfl (lv_at hl 0 rfl) ?_
  refine wk_getR 1 C0 fl_X11_24 hP (by decide) sh_0 rfl dX11_hoursRefused_1 ?_
  refine wk_getI C0 fl_X11_136 hP (by decide) sh_1 rfl dX11_hoursRefused_4 ?_
  have q1 := hw.1
  have hw := hw.2
  refine wk_if_ne hx hb q1 (tgt := 13) dX11_hoursRefused_7 (by decide) (fun hh => ?_) (fun hh => ?_)
  · have hw := hw.2 hh
    refine lv_aload_n hx hb dX11_hoursRefused_13 rfl (lv_at hl 0 rfl) ?_
    refine wk_getR 17 C0 fl_X11_28 hP (by decide) sh_0 rfl dX11_hoursRefused_14 ?_
    refine wk_getI C0 fl_X11_145 hP (by decide) sh_17 rfl dX11_hoursRefused_17 ?_
    refine lv_ldcw (own := RX11) (v := iI 90000) hx hb hown (htb _ ki_X11_319) dX11_hoursRefused_20 ?_
    have q2 := hw.1
    have hw := hw.2
    refine wk_icmp_le hx hb q2 ⟨by decide, by decide⟩ (tgt := 31) dX11_hoursRefused_23 (by decide) (fun hh => ?_) (fun hh => ?_)
    · have hw := hw.1 hh
      refine lv_iconst (v := iI 0) hx hb dX11_hoursRefused_31 rfl ?_
      exact hret _ _ _ _ _ _ ⟨rfl, hw⟩ hP hS dX11_hoursRefused_32
    · have hw := hw.2 hh
      refine lv_ldc (own := RX11) (v := iI (-1000000004)) hx hb hown (htb _ ki_X11_105) dX11_hoursRefused_26 ?_
      refine lv_goto (tgt := 32) hx hb dX11_hoursRefused_28 (by decide) ?_
      exact hret _ _ _ _ _ _ ⟨rfl, hw⟩ hP hS dX11_hoursRefused_32
  · have hw := hw.1 hh
    refine lv_ldc (own := RX11) (v := iI (-1000000003)) hx hb hown (htb _ ki_X11_208) dX11_hoursRefused_10 ?_
    exact hret _ _ _ _ _ _ ⟨rfl, hw⟩ hP hS dX11_hoursRefused_12

set_option maxRecDepth 100000 in
set_option maxHeartbeats 4000000 in
theorem ok_X11_goOn {l : Launch} {D : va_G} {cA : Nat → ClassId} {ad : Nat → Nat} (hI : wI ad) {a1 : Int} {sg : Mem} {Q : Mem → Prop} (hw : wp_X11_goOn a1 sg Q) : wMv l D cA ad yX11_goOn cX11_goOn 2 none 5 [.ref (ad 0), .int (iI a1)] sg Q := by
  refine wk_ofV (by decide) hI (Nat.le_of_ble_eq_true rfl) ?_
  intro p e s m below meth c A QQ ls C0 hret hl hP
  have hx := C0.1
  have hb := C0.2.1
  have hown := C0.2.2.2.1
  have htb := C0.2.2.2.2.1
  have hl : lv_has ls 2 [(0, .ref (ad 0)), (1, .int (iI a1))] := hl
  refine (fun (key : ∀ (H : Heap) (locs : List Loc), wP D cA ad sg H → va_S (wA ad) s.heap H locs → W p l e (rmL 5) s m A below meth c H locs 0 0 QQ (F0 m 0 ls [])) => key _ _ hP va_S.rf) ?_
  intro H locs hP hS
  unfold wp_X11_goOn at hw
  refine lv_aload_n hx hb dX11_goOn_0 rfl (lv_at hl 0 rfl) ?_
  refine wk_getR 23 C0 fl_X11_38 hP (by decide) sh_0 rfl dX11_goOn_1 ?_
  refine lv_aload_n hx hb dX11_goOn_4 rfl (lv_at hl 0 rfl) ?_
  refine wk_getR 17 C0 fl_X11_28 hP (by decide) sh_0 rfl dX11_goOn_5 ?_
  refine wk_rv (wk_callV (rest := []) C0 cl_X11_209 (ok_X5_remember hI isN_17 hw) hP (by decide) sh_23 rfl rfl rfl (Nat.le_of_ble_eq_true rfl) (wk_room (by decide) (by decide)) hl.1 dX11_goOn_8 ⟨Nat.le_refl _, Nat.le_refl _⟩) hS (fun s1 H locs hw hP hS => ?_)
  refine lv_aload_n hx hb dX11_goOn_11 rfl (lv_at hl 0 rfl) ?_
  refine wk_getR 17 C0 fl_X11_28 hP (by decide) sh_0 rfl dX11_goOn_12 ?_
  refine lv_iload_n hx hb dX11_goOn_15 rfl (lv_at hl 1 rfl) ?_
  refine wk_rv (wk_callV (rest := []) C0 cl_X11_320 (ok_X4_passHour hI isN_17 hw) hP (by decide) sh_17 rfl rfl rfl (Nat.le_of_ble_eq_true rfl) (wk_room (by decide) (by decide)) hl.1 dX11_goOn_16 ⟨Nat.le_refl _, Nat.le_refl _⟩) hS (fun s2 H locs hw hP hS => ?_)
  exact hret _ _ _ _ _ hw hP hS dX11_goOn_19

set_option maxRecDepth 100000 in
set_option maxHeartbeats 4000000 in
theorem ok_X11_hour {l : Launch} {D : va_G} {cA : Nat → ClassId} {ad : Nat → Nat} (hI : wI ad) {a1 : Int} {sg : Mem} {Q : Int → Mem → Prop} (hw : wp_X11_hour a1 sg Q) : wMi l D cA ad yX11_hour cX11_hour 3 (some .int) 6 [.ref (ad 0), .int (iI a1)] sg Q := by
  refine wk_ofI (by decide) hI (Nat.le_of_ble_eq_true rfl) ?_
  intro p e s m below meth c A QQ ls C0 hret hl hP
  have hx := C0.1
  have hb := C0.2.1
  have hown := C0.2.2.2.1
  have htb := C0.2.2.2.2.1
  have hl : lv_has ls 3 [(0, .ref (ad 0)), (1, .int (iI a1))] := hl
  refine (fun (key : ∀ (H : Heap) (locs : List Loc), wP D cA ad sg H → va_S (wA ad) s.heap H locs → W p l e (rmL 6) s m A below meth c H locs 0 0 QQ (F0 m 0 ls [])) => key _ _ hP va_S.rf) ?_
  intro H locs hP hS
  unfold wp_X11_hour at hw
  refine lv_iload_n hx hb dX11_hour_0 rfl (lv_at hl 1 rfl) ?_
  refine wk_rip (wk_callS (rest := []) C0 cl_X11_195 (ok_X11_isWord hI hw) hP rfl rfl (Nat.le_of_ble_eq_true rfl) (wk_room (by decide) (by decide)) hl.1 dX11_hour_1 ⟨Nat.le_refl _, Nat.le_refl _⟩) hS (fun r1 H locs hw hP hS => ?_)
  have q2 := hw.1
  have hw := hw.2
  refine wk_if_ne hx hb q2 (tgt := 10) dX11_hour_4 (by decide) (fun hh => ?_) (fun hh => ?_)
  · have hw := hw.2 hh
    refine lv_aload_n hx hb dX11_hour_10 rfl (lv_at hl 0 rfl) ?_
    refine wk_rip (wk_callV (rest := []) C0 cl_X11_198 (ok_X11_hoursRefused hI hw) hP (by decide) sh_0 rfl rfl rfl (Nat.le_of_ble_eq_true rfl) (wk_room (by decide) (by decide)) hl.1 dX11_hour_11 ⟨Nat.le_refl _, Nat.le_refl _⟩) hS (fun r3 H locs hw hP hS => ?_)
    refine lv_istore_n (lv' := [(2, .int (iI r3)), (0, .ref (ad 0)), (1, .int (iI a1))]) hx hb dX11_hour_14 rfl hl (by decide) rfl (fun ls hl => ?_)
    refine lv_iload_n hx hb dX11_hour_15 rfl (lv_at hl 0 rfl) ?_
    have q4 := hw.1
    have hw := hw.2
    refine wk_if_eq hx hb q4 (tgt := 21) dX11_hour_16 (by decide) (fun hh => ?_) (fun hh => ?_)
    · have hw := hw.1 hh
      refine lv_aload_n hx hb dX11_hour_21 rfl (lv_at hl 1 rfl) ?_
      refine lv_iload_n hx hb dX11_hour_22 rfl (lv_at hl 2 rfl) ?_
      refine wk_rv (wk_callV (rest := []) C0 cl_X11_201 (ok_X11_goOn hI hw) hP (by decide) sh_0 rfl rfl rfl (Nat.le_of_ble_eq_true rfl) (wk_room (by decide) (by decide)) hl.1 dX11_hour_23 ⟨Nat.le_refl _, Nat.le_refl _⟩) hS (fun s5 H locs hw hP hS => ?_)
      refine lv_aload_n hx hb dX11_hour_26 rfl (lv_at hl 1 rfl) ?_
      refine wk_getR 17 C0 fl_X11_28 hP (by decide) sh_0 rfl dX11_hour_27 ?_
      refine wk_rip (wk_callV (rest := []) C0 cl_X11_154 (ok_X4_coldest hI isN_17 hw) hP (by decide) sh_17 rfl rfl rfl (Nat.le_of_ble_eq_true rfl) (wk_room (by decide) (by decide)) hl.1 dX11_hour_30 ⟨Nat.le_refl _, Nat.le_refl _⟩) hS (fun r6 H locs hw hP hS => ?_)
      exact hret _ _ _ _ _ _ hw hP hS dX11_hour_33
    · have hw := hw.2 hh
      refine lv_iload_n hx hb dX11_hour_19 rfl (lv_at hl 0 rfl) ?_
      exact hret _ _ _ _ _ _ hw hP hS dX11_hour_20
  · have hw := hw.1 hh
    refine lv_ldc (own := RX11) (v := iI (-1000000001)) hx hb hown (htb _ ki_X11_165) dX11_hour_7 ?_
    exact hret _ _ _ _ _ _ hw hP hS dX11_hour_9

set_option maxRecDepth 100000 in
set_option maxHeartbeats 4000000 in
theorem ok_X11_night {l : Launch} {D : va_G} {cA : Nat → ClassId} {ad : Nat → Nat} (hI : wI ad) {a1 : Int} {sg : Mem} {Q : Int → Mem → Prop} (hw : wp_X11_night a1 sg Q) : wMi l D cA ad yX11_night cX11_night 4 (some .int) 6 [.ref (ad 0), .int (iI a1)] sg Q := by
  refine wk_ofI (by decide) hI (Nat.le_of_ble_eq_true rfl) ?_
  intro p e s m below meth c A QQ ls C0 hret hl hP
  have hx := C0.1
  have hb := C0.2.1
  have hown := C0.2.2.2.1
  have htb := C0.2.2.2.2.1
  have hl : lv_has ls 4 [(0, .ref (ad 0)), (1, .int (iI a1))] := hl
  refine (fun (key : ∀ (H : Heap) (locs : List Loc), wP D cA ad sg H → va_S (wA ad) s.heap H locs → W p l e (rmL 6) s m A below meth c H locs 0 0 QQ (F0 m 0 ls [])) => key _ _ hP va_S.rf) ?_
  intro H locs hP hS
  unfold wp_X11_night at hw
  refine lv_iload_n hx hb dX11_night_0 rfl (lv_at hl 1 rfl) ?_
  refine lv_iconst (v := iI 1) hx hb dX11_night_1 rfl ?_
  have q1 := hw.1
  have hw := hw.2
  refine wk_icmp_lt hx hb q1 ⟨by decide, by decide⟩ (tgt := 11) dX11_night_2 (by decide) (fun hh => ?_) (fun hh => ?_)
  · have hw := hw.1 hh
    refine lv_ldc (own := RX11) (v := iI (-1000000002)) hx hb hown (htb _ ki_X11_97) dX11_night_11 ?_
    exact hret _ _ _ _ _ _ hw hP hS dX11_night_13
  · have hw := hw.2 hh
    refine lv_iload_n hx hb dX11_night_5 rfl (lv_at hl 1 rfl) ?_
    refine lv_bipush (v := iI 99) hx hb dX11_night_6 (by decide +kernel) ?_
    refine wk_icmp_le hx hb q1 ⟨by decide, by decide⟩ (tgt := 14) dX11_night_8 (by decide) (fun hh => ?_) (fun hh => ?_)
    · have hw := hw.1 hh
      refine lv_aload_n hx hb dX11_night_14 rfl (lv_at hl 0 rfl) ?_
      refine wk_rip (wk_callV (rest := []) C0 cl_X11_198 (ok_X11_hoursRefused hI hw) hP (by decide) sh_0 rfl rfl rfl (Nat.le_of_ble_eq_true rfl) (wk_room (by decide) (by decide)) hl.1 dX11_night_15 ⟨Nat.le_refl _, Nat.le_refl _⟩) hS (fun r2 H locs hw hP hS => ?_)
      refine lv_istore_n (lv' := [(2, .int (iI r2)), (0, .ref (ad 0)), (1, .int (iI a1))]) hx hb dX11_night_18 rfl hl (by decide) rfl (fun ls hl => ?_)
      refine lv_iload_n hx hb dX11_night_19 rfl (lv_at hl 0 rfl) ?_
      have q3 := hw.1
      have hw := hw.2
      refine wk_if_eq hx hb q3 (tgt := 25) dX11_night_20 (by decide) (fun hh => ?_) (fun hh => ?_)
      · have hw := hw.1 hh
        refine lv_iconst (v := iI 0) hx hb dX11_night_25 rfl ?_
        refine lv_istore_n (lv' := [(3, .int (iI 0)), (2, .int (iI r2)), (0, .ref (ad 0)), (1, .int (iI a1))]) hx hb dX11_night_26 rfl hl (by decide) rfl (fun ls hl => ?_)
        obtain ⟨I27, hI27, hw⟩ := hw
        have kI27 : ∀ (k27 : Nat) (y3_4 : Int) (s5 : Mem) (H : Heap) (locs : List Loc) (ls : Array Slot), wP D cA ad s5 H → va_S (wA ad) s.heap H locs → lv_has ls 4 [(0, .ref (ad 0)), (1, .int (iI a1)), (3, .int (iI y3_4))] → I27 k27 y3_4 s5 → W p l e (rmL 6) s m A below meth c H locs 0 0 QQ (F0 m 27 ls []) := by
          intro k27
          induction k27 using Nat.strongRecOn with
          | _ k27 ih27 =>
            intro y3_4 s5 H locs ls hP hS hl hw
            have hw := hI27 k27 y3_4 s5 hw
            refine lv_iload_n hx hb dX11_night_27 rfl (lv_at hl 2 rfl) ?_
            refine lv_iload_n hx hb dX11_night_28 rfl (lv_at hl 1 rfl) ?_
            have q6 := hw.1
            have hw := hw.2
            refine wk_icmp_ge hx hb q6 q1 (tgt := 56) dX11_night_29 (by decide) (fun hh => ?_) (fun hh => ?_)
            · have hw := hw.1 hh
              refine lv_aload_n hx hb dX11_night_56 rfl (lv_at hl 0 rfl) ?_
              refine wk_getR 17 C0 fl_X11_28 hP (by decide) sh_0 rfl dX11_night_57 ?_
              refine wk_rip (wk_callV (rest := []) C0 cl_X11_154 (ok_X4_coldest hI isN_17 hw) hP (by decide) sh_17 rfl rfl rfl (Nat.le_of_ble_eq_true rfl) (wk_room (by decide) (by decide)) hl.1 dX11_night_60 ⟨Nat.le_refl _, Nat.le_refl _⟩) hS (fun r7 H locs hw hP hS => ?_)
              exact hret _ _ _ _ _ _ hw hP hS dX11_night_63
            · have hw := hw.2 hh
              refine lv_aload_n hx hb dX11_night_32 rfl (lv_at hl 0 rfl) ?_
              refine lv_aload_n hx hb dX11_night_33 rfl (lv_at hl 0 rfl) ?_
              refine wk_getR 1 C0 fl_X11_24 hP (by decide) sh_0 rfl dX11_night_34 ?_
              refine lv_aload_n hx hb dX11_night_37 rfl (lv_at hl 0 rfl) ?_
              refine wk_getR 17 C0 fl_X11_28 hP (by decide) sh_0 rfl dX11_night_38 ?_
              refine wk_getI C0 fl_X11_145 hP (by decide) sh_17 rfl dX11_night_41 ?_
              refine wk_rip (wk_callV (rest := [.ref (ad 0)]) C0 cl_X11_205 (ok_X0_lawAt hI hw) hP (by decide) sh_1 rfl rfl rfl (Nat.le_of_ble_eq_true rfl) (wk_room (by decide) (by decide)) hl.1 dX11_night_44 ⟨Nat.le_refl _, Nat.le_refl _⟩) hS (fun r8 H locs hw hP hS => ?_)
              refine wk_rv (wk_callV (rest := []) C0 cl_X11_201 (ok_X11_goOn hI hw) hP (by decide) sh_0 rfl rfl rfl (Nat.le_of_ble_eq_true rfl) (wk_room (by decide) (by decide)) hl.1 dX11_night_47 ⟨Nat.le_refl _, Nat.le_refl _⟩) hS (fun s9 H locs hw hP hS => ?_)
              refine wk_iinc (lv' := fun x3_10 => [(3, .int (iI x3_10)), (0, .ref (ad 0)), (1, .int (iI a1))]) hx hb dX11_night_50 hl (k := 2) rfl (by decide) (fun _ => rfl) (fun x3_10 ls ex3_10 hl => ?_)
              have hw := hw x3_10 ex3_10
              refine lv_goto (tgt := 27) hx hb dX11_night_53 (by decide) ?_
              obtain ⟨k11, hk11, hw⟩ := hw
              exact ih27 k11 hk11 x3_10 s9 _ _ _ hP hS (lv_sub hl [1, 2, 0] rfl) hw
        obtain ⟨k12, hw⟩ := hw
        exact kI27 k12 0 sg _ _ _ hP hS (lv_sub hl [2, 3, 0] rfl) hw
      · have hw := hw.2 hh
        refine lv_iload_n hx hb dX11_night_23 rfl (lv_at hl 0 rfl) ?_
        exact hret _ _ _ _ _ _ hw hP hS dX11_night_24
    · have hw := hw.2 hh
      refine lv_ldc (own := RX11) (v := iI (-1000000002)) hx hb hown (htb _ ki_X11_97) dX11_night_11 ?_
      exact hret _ _ _ _ _ _ hw hP hS dX11_night_13

set_option maxRecDepth 100000 in
set_option maxHeartbeats 4000000 in
theorem ok_X11_getUp {l : Launch} {D : va_G} {cA : Nat → ClassId} {ad : Nat → Nat} (hI : wI ad) {a1 : Int} {sg : Mem} {Q : Int → Mem → Prop} (hw : wp_X11_getUp a1 sg Q) : wMi l D cA ad yX11_getUp cX11_getUp 3 (some .int) 3 [.ref (ad 0), .int (iI a1)] sg Q := by
  refine wk_ofI (by decide) hI (Nat.le_of_ble_eq_true rfl) ?_
  intro p e s m below meth c A QQ ls C0 hret hl hP
  have hx := C0.1
  have hb := C0.2.1
  have hown := C0.2.2.2.1
  have htb := C0.2.2.2.2.1
  have hl : lv_has ls 3 [(0, .ref (ad 0)), (1, .int (iI a1))] := hl
  refine (fun (key : ∀ (H : Heap) (locs : List Loc), wP D cA ad sg H → va_S (wA ad) s.heap H locs → W p l e (rmL 3) s m A below meth c H locs 0 0 QQ (F0 m 0 ls [])) => key _ _ hP va_S.rf) ?_
  intro H locs hP hS
  unfold wp_X11_getUp at hw
  refine lv_aload_n hx hb dX11_getUp_0 rfl (lv_at hl 0 rfl) ?_
  refine wk_getR 1 C0 fl_X11_24 hP (by decide) sh_0 rfl dX11_getUp_1 ?_
  refine lv_iload_n hx hb dX11_getUp_4 rfl (lv_at hl 1 rfl) ?_
  refine wk_rip (wk_callV (rest := []) C0 cl_X11_173 (ok_X0_hasSleeper hI hw) hP (by decide) sh_1 rfl rfl rfl (Nat.le_of_ble_eq_true rfl) (wk_room (by decide) (by decide)) hl.1 dX11_getUp_5 ⟨Nat.le_refl _, Nat.le_refl _⟩) hS (fun r1 H locs hw hP hS => ?_)
  have q2 := hw.1
  have hw := hw.2
  refine wk_if_ne hx hb q2 (tgt := 14) dX11_getUp_8 (by decide) (fun hh => ?_) (fun hh => ?_)
  · have hw := hw.2 hh
    refine lv_aload_n hx hb dX11_getUp_14 rfl (lv_at hl 0 rfl) ?_
    refine wk_getR 17 C0 fl_X11_28 hP (by decide) sh_0 rfl dX11_getUp_15 ?_
    refine lv_iload_n hx hb dX11_getUp_18 rfl (lv_at hl 1 rfl) ?_
    refine wk_rip (wk_callV (rest := []) C0 cl_X11_188 (ok_X4_placeOf hI isN_17 hw) hP (by decide) sh_17 rfl rfl rfl (Nat.le_of_ble_eq_true rfl) (wk_room (by decide) (by decide)) hl.1 dX11_getUp_19 ⟨Nat.le_refl _, Nat.le_refl _⟩) hS (fun r3 H locs hw hP hS => ?_)
    refine lv_istore_n (lv' := [(2, .int (iI r3)), (0, .ref (ad 0)), (1, .int (iI a1))]) hx hb dX11_getUp_22 rfl hl (by decide) rfl (fun ls hl => ?_)
    refine lv_iload_n hx hb dX11_getUp_23 rfl (lv_at hl 0 rfl) ?_
    refine lv_iconst (v := iI (-1)) hx hb dX11_getUp_24 rfl ?_
    have q4 := hw.1
    have hw := hw.2
    refine wk_icmp_ne hx hb q4 ⟨by decide, by decide⟩ (tgt := 31) dX11_getUp_25 (by decide) (fun hh => ?_) (fun hh => ?_)
    · have hw := hw.2 hh
      refine lv_aload_n hx hb dX11_getUp_31 rfl (lv_at hl 1 rfl) ?_
      refine wk_getR 23 C0 fl_X11_38 hP (by decide) sh_0 rfl dX11_getUp_32 ?_
      refine lv_aload_n hx hb dX11_getUp_35 rfl (lv_at hl 1 rfl) ?_
      refine wk_getR 17 C0 fl_X11_28 hP (by decide) sh_0 rfl dX11_getUp_36 ?_
      refine wk_rv (wk_callV (rest := []) C0 cl_X11_209 (ok_X5_remember hI isN_17 hw) hP (by decide) sh_23 rfl rfl rfl (Nat.le_of_ble_eq_true rfl) (wk_room (by decide) (by decide)) hl.1 dX11_getUp_39 ⟨Nat.le_refl _, Nat.le_refl _⟩) hS (fun s5 H locs hw hP hS => ?_)
      refine lv_aload_n hx hb dX11_getUp_42 rfl (lv_at hl 1 rfl) ?_
      refine wk_getR 17 C0 fl_X11_28 hP (by decide) sh_0 rfl dX11_getUp_43 ?_
      refine lv_iload_n hx hb dX11_getUp_46 rfl (lv_at hl 0 rfl) ?_
      refine wk_rv (wk_callV (rest := []) C0 cl_X11_212 (ok_X4_leave hI isN_17 hw) hP (by decide) sh_17 rfl rfl rfl (Nat.le_of_ble_eq_true rfl) (wk_room (by decide) (by decide)) hl.1 dX11_getUp_47 ⟨Nat.le_refl _, Nat.le_refl _⟩) hS (fun s6 H locs hw hP hS => ?_)
      refine lv_iload_n hx hb dX11_getUp_50 rfl (lv_at hl 0 rfl) ?_
      exact hret _ _ _ _ _ _ hw hP hS dX11_getUp_51
    · have hw := hw.1 hh
      refine lv_ldc (own := RX11) (v := iI (-1000000003)) hx hb hown (htb _ ki_X11_208) dX11_getUp_28 ?_
      exact hret _ _ _ _ _ _ hw hP hS dX11_getUp_30
  · have hw := hw.1 hh
    refine lv_ldc (own := RX11) (v := iI (-1000000001)) hx hb hown (htb _ ki_X11_165) dX11_getUp_11 ?_
    exact hret _ _ _ _ _ _ hw hP hS dX11_getUp_13

set_option maxRecDepth 100000 in
set_option maxHeartbeats 4000000 in
theorem ok_X11_comeIn {l : Launch} {D : va_G} {cA : Nat → ClassId} {ad : Nat → Nat} (hI : wI ad) {a1 : Int} {sg : Mem} {Q : Int → Mem → Prop} (hw : wp_X11_comeIn a1 sg Q) : wMi l D cA ad yX11_comeIn cX11_comeIn 3 (some .int) 3 [.ref (ad 0), .int (iI a1)] sg Q := by
  refine wk_ofI (by decide) hI (Nat.le_of_ble_eq_true rfl) ?_
  intro p e s m below meth c A QQ ls C0 hret hl hP
  have hx := C0.1
  have hb := C0.2.1
  have hown := C0.2.2.2.1
  have htb := C0.2.2.2.2.1
  have hl : lv_has ls 3 [(0, .ref (ad 0)), (1, .int (iI a1))] := hl
  refine (fun (key : ∀ (H : Heap) (locs : List Loc), wP D cA ad sg H → va_S (wA ad) s.heap H locs → W p l e (rmL 3) s m A below meth c H locs 0 0 QQ (F0 m 0 ls [])) => key _ _ hP va_S.rf) ?_
  intro H locs hP hS
  unfold wp_X11_comeIn at hw
  refine lv_aload_n hx hb dX11_comeIn_0 rfl (lv_at hl 0 rfl) ?_
  refine wk_getR 1 C0 fl_X11_24 hP (by decide) sh_0 rfl dX11_comeIn_1 ?_
  refine lv_iload_n hx hb dX11_comeIn_4 rfl (lv_at hl 1 rfl) ?_
  refine wk_rip (wk_callV (rest := []) C0 cl_X11_173 (ok_X0_hasSleeper hI hw) hP (by decide) sh_1 rfl rfl rfl (Nat.le_of_ble_eq_true rfl) (wk_room (by decide) (by decide)) hl.1 dX11_comeIn_5 ⟨Nat.le_refl _, Nat.le_refl _⟩) hS (fun r1 H locs hw hP hS => ?_)
  have q2 := hw.1
  have hw := hw.2
  refine wk_if_ne hx hb q2 (tgt := 14) dX11_comeIn_8 (by decide) (fun hh => ?_) (fun hh => ?_)
  · have hw := hw.2 hh
    refine lv_aload_n hx hb dX11_comeIn_14 rfl (lv_at hl 0 rfl) ?_
    refine wk_getR 17 C0 fl_X11_28 hP (by decide) sh_0 rfl dX11_comeIn_15 ?_
    refine wk_rip (wk_callV (rest := []) C0 cl_X11_215 (ok_X4_lastEmpty hI isN_17 hw) hP (by decide) sh_17 rfl rfl rfl (Nat.le_of_ble_eq_true rfl) (wk_room (by decide) (by decide)) hl.1 dX11_comeIn_18 ⟨Nat.le_refl _, Nat.le_refl _⟩) hS (fun r3 H locs hw hP hS => ?_)
    refine lv_istore_n (lv' := [(2, .int (iI r3)), (0, .ref (ad 0)), (1, .int (iI a1))]) hx hb dX11_comeIn_21 rfl hl (by decide) rfl (fun ls hl => ?_)
    refine lv_aload_n hx hb dX11_comeIn_22 rfl (lv_at hl 1 rfl) ?_
    refine wk_getR 17 C0 fl_X11_28 hP (by decide) sh_0 rfl dX11_comeIn_23 ?_
    refine lv_iload_n hx hb dX11_comeIn_26 rfl (lv_at hl 2 rfl) ?_
    refine wk_rip (wk_callV (rest := []) C0 cl_X11_188 (ok_X4_placeOf hI isN_17 hw) hP (by decide) sh_17 rfl rfl rfl (Nat.le_of_ble_eq_true rfl) (wk_room (by decide) (by decide)) hl.1 dX11_comeIn_27 ⟨Nat.le_refl _, Nat.le_refl _⟩) hS (fun r4 H locs hw hP hS => ?_)
    refine lv_iconst (v := iI (-1)) hx hb dX11_comeIn_30 rfl ?_
    have q5 := hw.1
    have hw := hw.2
    refine wk_icmp_ne hx hb q5 ⟨by decide, by decide⟩ (tgt := 39) dX11_comeIn_31 (by decide) (fun hh => ?_) (fun hh => ?_)
    · have hw := hw.2 hh
      refine lv_ldc (own := RX11) (v := iI (-1000000003)) hx hb hown (htb _ ki_X11_208) dX11_comeIn_39 ?_
      exact hret _ _ _ _ _ _ hw hP hS dX11_comeIn_41
    · have hw := hw.1 hh
      refine lv_iload_n hx hb dX11_comeIn_34 rfl (lv_at hl 0 rfl) ?_
      refine lv_iconst (v := iI (-1)) hx hb dX11_comeIn_35 rfl ?_
      have q6 := hw.1
      have hw := hw.2
      refine wk_icmp_ne hx hb q6 ⟨by decide, by decide⟩ (tgt := 42) dX11_comeIn_36 (by decide) (fun hh => ?_) (fun hh => ?_)
      · have hw := hw.2 hh
        refine lv_aload_n hx hb dX11_comeIn_42 rfl (lv_at hl 1 rfl) ?_
        refine wk_getR 23 C0 fl_X11_38 hP (by decide) sh_0 rfl dX11_comeIn_43 ?_
        refine lv_aload_n hx hb dX11_comeIn_46 rfl (lv_at hl 1 rfl) ?_
        refine wk_getR 17 C0 fl_X11_28 hP (by decide) sh_0 rfl dX11_comeIn_47 ?_
        refine wk_rv (wk_callV (rest := []) C0 cl_X11_209 (ok_X5_remember hI isN_17 hw) hP (by decide) sh_23 rfl rfl rfl (Nat.le_of_ble_eq_true rfl) (wk_room (by decide) (by decide)) hl.1 dX11_comeIn_50 ⟨Nat.le_refl _, Nat.le_refl _⟩) hS (fun s7 H locs hw hP hS => ?_)
        refine lv_aload_n hx hb dX11_comeIn_53 rfl (lv_at hl 1 rfl) ?_
        refine wk_getR 17 C0 fl_X11_28 hP (by decide) sh_0 rfl dX11_comeIn_54 ?_
        refine wk_getR 18 C0 fl_X11_170 hP (by decide) sh_17 rfl dX11_comeIn_57 ?_
        refine lv_iload_n hx hb dX11_comeIn_60 rfl (lv_at hl 0 rfl) ?_
        refine lv_iload_n hx hb dX11_comeIn_61 rfl (lv_at hl 2 rfl) ?_
        have q8 := hw.1
        have hw := hw.2
        refine wk_iast C0 hP hS (by decide) sh_18 q8.1 q8.2 (by decide) dX11_comeIn_62 (fun s9 H locs es9 hP hS => ?_)
        have hw := hw s9 es9
        refine lv_iload_n hx hb dX11_comeIn_63 rfl (lv_at hl 0 rfl) ?_
        exact hret _ _ _ _ _ _ hw hP hS dX11_comeIn_64
      · have hw := hw.1 hh
        refine lv_ldc (own := RX11) (v := iI (-1000000003)) hx hb hown (htb _ ki_X11_208) dX11_comeIn_39 ?_
        exact hret _ _ _ _ _ _ hw hP hS dX11_comeIn_41
  · have hw := hw.1 hh
    refine lv_ldc (own := RX11) (v := iI (-1000000001)) hx hb hown (htb _ ki_X11_165) dX11_comeIn_11 ?_
    exact hret _ _ _ _ _ _ hw hP hS dX11_comeIn_13

set_option maxRecDepth 100000 in
set_option maxHeartbeats 4000000 in
theorem ok_X11_drawOfSix {l : Launch} {D : va_G} {cA : Nat → ClassId} {ad : Nat → Nat} (hI : wI ad) {sg : Mem} {Q : Int → Mem → Prop} (hw : wp_X11_drawOfSix sg Q) : wMi l D cA ad yX11_drawOfSix cX11_drawOfSix 1 (some .int) 1 [.ref (ad 0)] sg Q := by
  refine wk_ofI (by decide) hI (Nat.le_of_ble_eq_true rfl) ?_
  intro p e s m below meth c A QQ ls C0 hret hl hP
  have hx := C0.1
  have hb := C0.2.1
  have hown := C0.2.2.2.1
  have htb := C0.2.2.2.2.1
  have hl : lv_has ls 1 [(0, .ref (ad 0))] := hl
  refine (fun (key : ∀ (H : Heap) (locs : List Loc), wP D cA ad sg H → va_S (wA ad) s.heap H locs → W p l e (rmL 1) s m A below meth c H locs 0 0 QQ (F0 m 0 ls [])) => key _ _ hP va_S.rf) ?_
  intro H locs hP hS
  unfold wp_X11_drawOfSix at hw
  refine lv_aload_n hx hb dX11_drawOfSix_0 rfl (lv_at hl 0 rfl) ?_
  refine lv_aload_n hx hb dX11_drawOfSix_1 rfl (lv_at hl 0 rfl) ?_
  refine wk_getI C0 fl_X11_93 hP (by decide) sh_0 rfl dX11_drawOfSix_2 ?_
  have q1 := hw.1
  have hw := hw.2
  refine wk_i2l hx hb q1 dX11_drawOfSix_5 ?_
  refine lv_ldc2 (own := RX11) (v := iL 1103515245) hx hb hown (htb _ kl_X11_323) dX11_drawOfSix_6 ?_
  refine wk_lmul hx hb dX11_drawOfSix_9 ?_
  refine lv_ldc2 (own := RX11) (v := iL 12345) hx hb hown (htb _ kl_X11_325) dX11_drawOfSix_10 ?_
  refine wk_ladd hx hb dX11_drawOfSix_13 ?_
  refine lv_ldc2 (own := RX11) (v := iL 2147483647) hx hb hown (htb _ kl_X11_327) dX11_drawOfSix_14 ?_
  refine wk_land hx hb dX11_drawOfSix_17 ?_
  refine wk_l2i hx hb dX11_drawOfSix_18 ?_
  refine wk_putI C0 fl_X11_93 rfl rfl hP hS (by decide) sh_0 rfl dX11_drawOfSix_19 (fun s2 H locs es2 hP hS => ?_)
  have hw := hw s2 es2
  refine lv_aload_n hx hb dX11_drawOfSix_22 rfl (lv_at hl 0 rfl) ?_
  refine wk_getI C0 fl_X11_93 hP (by decide) sh_0 rfl dX11_drawOfSix_23 ?_
  refine lv_ldcw (own := RX11) (v := iI 65536) hx hb hown (htb _ ki_X11_329) dX11_drawOfSix_26 ?_
  have q3 := hw.1
  have hw := hw.2
  refine wk_idiv hx hb q3 ⟨by decide, by decide⟩ (by decide) dX11_drawOfSix_29 ?_
  refine lv_bipush (v := iI 6) hx hb dX11_drawOfSix_30 (by decide +kernel) ?_
  have q4 := hw.1
  have hw := hw.2
  refine wk_irem hx hb q4 ⟨by decide, by decide⟩ (by decide) dX11_drawOfSix_32 ?_
  exact hret _ _ _ _ _ _ hw hP hS dX11_drawOfSix_33

set_option maxRecDepth 100000 in
set_option maxHeartbeats 4000000 in
theorem ok_X11_drift {l : Launch} {D : va_G} {cA : Nat → ClassId} {ad : Nat → Nat} (hI : wI ad) {a1 : Int} {sg : Mem} {Q : Int → Mem → Prop} (hw : wp_X11_drift a1 sg Q) : wMi l D cA ad yX11_drift cX11_drift 5 (some .int) 6 [.ref (ad 0), .int (iI a1)] sg Q := by
  refine wk_ofI (by decide) hI (Nat.le_of_ble_eq_true rfl) ?_
  intro p e s m below meth c A QQ ls C0 hret hl hP
  have hx := C0.1
  have hb := C0.2.1
  have hown := C0.2.2.2.1
  have htb := C0.2.2.2.2.1
  have hl : lv_has ls 5 [(0, .ref (ad 0)), (1, .int (iI a1))] := hl
  refine (fun (key : ∀ (H : Heap) (locs : List Loc), wP D cA ad sg H → va_S (wA ad) s.heap H locs → W p l e (rmL 6) s m A below meth c H locs 0 0 QQ (F0 m 0 ls [])) => key _ _ hP va_S.rf) ?_
  intro H locs hP hS
  unfold wp_X11_drift at hw
  refine lv_iload_n hx hb dX11_drift_0 rfl (lv_at hl 1 rfl) ?_
  refine lv_iconst (v := iI 1) hx hb dX11_drift_1 rfl ?_
  have q1 := hw.1
  have hw := hw.2
  refine wk_icmp_lt hx hb q1 ⟨by decide, by decide⟩ (tgt := 11) dX11_drift_2 (by decide) (fun hh => ?_) (fun hh => ?_)
  · have hw := hw.1 hh
    refine lv_ldc (own := RX11) (v := iI (-1000000002)) hx hb hown (htb _ ki_X11_97) dX11_drift_11 ?_
    exact hret _ _ _ _ _ _ hw hP hS dX11_drift_13
  · have hw := hw.2 hh
    refine lv_iload_n hx hb dX11_drift_5 rfl (lv_at hl 1 rfl) ?_
    refine lv_bipush (v := iI 99) hx hb dX11_drift_6 (by decide +kernel) ?_
    refine wk_icmp_le hx hb q1 ⟨by decide, by decide⟩ (tgt := 14) dX11_drift_8 (by decide) (fun hh => ?_) (fun hh => ?_)
    · have hw := hw.1 hh
      refine lv_aload_n hx hb dX11_drift_14 rfl (lv_at hl 0 rfl) ?_
      refine wk_rip (wk_callV (rest := []) C0 cl_X11_198 (ok_X11_hoursRefused hI hw) hP (by decide) sh_0 rfl rfl rfl (Nat.le_of_ble_eq_true rfl) (wk_room (by decide) (by decide)) hl.1 dX11_drift_15 ⟨Nat.le_refl _, Nat.le_refl _⟩) hS (fun r2 H locs hw hP hS => ?_)
      refine lv_istore_n (lv' := [(2, .int (iI r2)), (0, .ref (ad 0)), (1, .int (iI a1))]) hx hb dX11_drift_18 rfl hl (by decide) rfl (fun ls hl => ?_)
      refine lv_iload_n hx hb dX11_drift_19 rfl (lv_at hl 0 rfl) ?_
      have q3 := hw.1
      have hw := hw.2
      refine wk_if_eq hx hb q3 (tgt := 25) dX11_drift_20 (by decide) (fun hh => ?_) (fun hh => ?_)
      · have hw := hw.1 hh
        refine lv_iconst (v := iI 0) hx hb dX11_drift_25 rfl ?_
        refine lv_istore_n (lv' := [(3, .int (iI 0)), (2, .int (iI r2)), (0, .ref (ad 0)), (1, .int (iI a1))]) hx hb dX11_drift_26 rfl hl (by decide) rfl (fun ls hl => ?_)
        obtain ⟨I27, hI27, hw⟩ := hw
        have kI27 : ∀ (k27 : Nat) (y3_4 : Int) (s5 : Mem) (H : Heap) (locs : List Loc) (ls : Array Slot), wP D cA ad s5 H → va_S (wA ad) s.heap H locs → lv_has ls 5 [(0, .ref (ad 0)), (1, .int (iI a1)), (3, .int (iI y3_4))] → I27 k27 y3_4 s5 → W p l e (rmL 6) s m A below meth c H locs 0 0 QQ (F0 m 27 ls []) := by
          intro k27
          induction k27 using Nat.strongRecOn with
          | _ k27 ih27 =>
            intro y3_4 s5 H locs ls hP hS hl hw
            have hw := hI27 k27 y3_4 s5 hw
            refine lv_iload_n hx hb dX11_drift_27 rfl (lv_at hl 2 rfl) ?_
            refine lv_iload_n hx hb dX11_drift_28 rfl (lv_at hl 1 rfl) ?_
            have q6 := hw.1
            have hw := hw.2
            refine wk_icmp_ge hx hb q6 q1 (tgt := 75) dX11_drift_29 (by decide) (fun hh => ?_) (fun hh => ?_)
            · have hw := hw.1 hh
              refine lv_aload_n hx hb dX11_drift_75 rfl (lv_at hl 0 rfl) ?_
              refine wk_getR 17 C0 fl_X11_28 hP (by decide) sh_0 rfl dX11_drift_76 ?_
              refine wk_rip (wk_callV (rest := []) C0 cl_X11_154 (ok_X4_coldest hI isN_17 hw) hP (by decide) sh_17 rfl rfl rfl (Nat.le_of_ble_eq_true rfl) (wk_room (by decide) (by decide)) hl.1 dX11_drift_79 ⟨Nat.le_refl _, Nat.le_refl _⟩) hS (fun r7 H locs hw hP hS => ?_)
              exact hret _ _ _ _ _ _ hw hP hS dX11_drift_82
            · have hw := hw.2 hh
              refine lv_aload_n hx hb dX11_drift_32 rfl (lv_at hl 0 rfl) ?_
              refine wk_ri (wk_callV (rest := []) C0 cl_X11_218 (ok_X11_drawOfSix hI hw) hP (by decide) sh_0 rfl rfl rfl (Nat.le_of_ble_eq_true rfl) (wk_room (by decide) (by decide)) hl.1 dX11_drift_33 ⟨Nat.le_refl _, Nat.le_refl _⟩) hS (fun r8 s9 H locs hw hP hS => ?_)
              refine lv_istore (lv' := [(4, .int (iI r8)), (0, .ref (ad 0)), (1, .int (iI a1)), (3, .int (iI y3_4))]) hx hb dX11_drift_36 hl (by decide) rfl (fun ls hl => ?_)
              refine lv_aload_n hx hb dX11_drift_38 rfl (lv_at hl 1 rfl) ?_
              refine lv_iload hx hb dX11_drift_39 (lv_at hl 0 rfl) ?_
              refine wk_rip (wk_callS (rest := [.ref (ad 0)]) C0 cl_X11_195 (ok_X11_isWord hI hw) hP rfl rfl (Nat.le_of_ble_eq_true rfl) (wk_room (by decide) (by decide)) hl.1 dX11_drift_41 ⟨Nat.le_refl _, Nat.le_refl _⟩) hS (fun r10 H locs hw hP hS => ?_)
              have q11 := hw.1
              have hw := hw.2
              obtain ⟨X66, hX66, hw⟩ := hw
              have kX66 : ∀ (v12 : Int) (H : Heap) (locs : List Loc) (ls : Array Slot), wP D cA ad s9 H → va_S (wA ad) s.heap H locs → lv_has ls 5 [(0, .ref (ad 0)), (1, .int (iI a1)), (3, .int (iI y3_4))] → X66 v12 → W p l e (rmL 6) s m A below meth c H locs 0 0 QQ (F0 m 66 ls [.int (iI v12), .ref (ad 0)]) := by
                intro v12 H locs ls hP hS hl hw
                have hw := hX66 v12 hw
                refine wk_rv (wk_callV (rest := []) C0 cl_X11_201 (ok_X11_goOn hI hw) hP (by decide) sh_0 rfl rfl rfl (Nat.le_of_ble_eq_true rfl) (wk_room (by decide) (by decide)) hl.1 dX11_drift_66 ⟨Nat.le_refl _, Nat.le_refl _⟩) hS (fun s13 H locs hw hP hS => ?_)
                refine wk_iinc (lv' := fun x3_14 => [(3, .int (iI x3_14)), (0, .ref (ad 0)), (1, .int (iI a1))]) hx hb dX11_drift_69 hl (k := 2) rfl (by decide) (fun _ => rfl) (fun x3_14 ls ex3_14 hl => ?_)
                have hw := hw x3_14 ex3_14
                refine lv_goto (tgt := 27) hx hb dX11_drift_72 (by decide) ?_
                obtain ⟨k15, hk15, hw⟩ := hw
                exact ih27 k15 hk15 x3_14 s13 _ _ _ hP hS (lv_sub hl [1, 2, 0] rfl) hw
              refine wk_if_eq hx hb q11 (tgt := 52) dX11_drift_44 (by decide) (fun hh => ?_) (fun hh => ?_)
              · have hw := hw.1 hh
                refine lv_aload_n hx hb dX11_drift_52 rfl (lv_at hl 1 rfl) ?_
                refine wk_getR 1 C0 fl_X11_24 hP (by decide) sh_0 rfl dX11_drift_53 ?_
                refine lv_aload_n hx hb dX11_drift_56 rfl (lv_at hl 1 rfl) ?_
                refine wk_getR 17 C0 fl_X11_28 hP (by decide) sh_0 rfl dX11_drift_57 ?_
                refine wk_getI C0 fl_X11_145 hP (by decide) sh_17 rfl dX11_drift_60 ?_
                refine wk_rip (wk_callV (rest := [.ref (ad 0)]) C0 cl_X11_205 (ok_X0_lawAt hI hw) hP (by decide) sh_1 rfl rfl rfl (Nat.le_of_ble_eq_true rfl) (wk_room (by decide) (by decide)) hl.1 dX11_drift_63 ⟨Nat.le_refl _, Nat.le_refl _⟩) hS (fun r16 H locs hw hP hS => ?_)
                exact kX66 r16 _ _ _ hP hS (lv_sub hl [1, 2, 3] rfl) hw
              · have hw := hw.2 hh
                refine lv_iload hx hb dX11_drift_47 (lv_at hl 0 rfl) ?_
                refine lv_goto (tgt := 66) hx hb dX11_drift_49 (by decide) ?_
                exact kX66 r8 _ _ _ hP hS (lv_sub hl [1, 2, 3] rfl) hw
        obtain ⟨k17, hw⟩ := hw
        exact kI27 k17 0 sg _ _ _ hP hS (lv_sub hl [2, 3, 0] rfl) hw
      · have hw := hw.2 hh
        refine lv_iload_n hx hb dX11_drift_23 rfl (lv_at hl 0 rfl) ?_
        exact hret _ _ _ _ _ _ hw hP hS dX11_drift_24
    · have hw := hw.2 hh
      refine lv_ldc (own := RX11) (v := iI (-1000000002)) hx hb hown (htb _ ki_X11_97) dX11_drift_11 ?_
      exact hret _ _ _ _ _ _ hw hP hS dX11_drift_13

set_option maxRecDepth 100000 in
set_option maxHeartbeats 4000000 in
theorem ok_X11_undo {l : Launch} {D : va_G} {cA : Nat → ClassId} {ad : Nat → Nat} (hI : wI ad) {a1 : Int} {sg : Mem} {Q : Int → Mem → Prop} (hw : wp_X11_undo a1 sg Q) : wMi l D cA ad yX11_undo cX11_undo 2 (some .int) 3 [.ref (ad 0), .int (iI a1)] sg Q := by
  refine wk_ofI (by decide) hI (Nat.le_of_ble_eq_true rfl) ?_
  intro p e s m below meth c A QQ ls C0 hret hl hP
  have hx := C0.1
  have hb := C0.2.1
  have hown := C0.2.2.2.1
  have htb := C0.2.2.2.2.1
  have hl : lv_has ls 2 [(0, .ref (ad 0)), (1, .int (iI a1))] := hl
  refine (fun (key : ∀ (H : Heap) (locs : List Loc), wP D cA ad sg H → va_S (wA ad) s.heap H locs → W p l e (rmL 3) s m A below meth c H locs 0 0 QQ (F0 m 0 ls [])) => key _ _ hP va_S.rf) ?_
  intro H locs hP hS
  unfold wp_X11_undo at hw
  refine lv_iload_n hx hb dX11_undo_0 rfl (lv_at hl 1 rfl) ?_
  refine lv_iconst (v := iI 1) hx hb dX11_undo_1 rfl ?_
  have q1 := hw.1
  have hw := hw.2
  refine wk_icmp_lt hx hb q1 ⟨by decide, by decide⟩ (tgt := 11) dX11_undo_2 (by decide) (fun hh => ?_) (fun hh => ?_)
  · have hw := hw.1 hh
    refine lv_ldc (own := RX11) (v := iI (-1000000002)) hx hb hown (htb _ ki_X11_97) dX11_undo_11 ?_
    exact hret _ _ _ _ _ _ hw hP hS dX11_undo_13
  · have hw := hw.2 hh
    refine lv_iload_n hx hb dX11_undo_5 rfl (lv_at hl 1 rfl) ?_
    refine lv_bipush (v := iI 30) hx hb dX11_undo_6 (by decide +kernel) ?_
    refine wk_icmp_le hx hb q1 ⟨by decide, by decide⟩ (tgt := 14) dX11_undo_8 (by decide) (fun hh => ?_) (fun hh => ?_)
    · have hw := hw.1 hh
      refine lv_iload_n hx hb dX11_undo_14 rfl (lv_at hl 1 rfl) ?_
      refine lv_aload_n hx hb dX11_undo_15 rfl (lv_at hl 0 rfl) ?_
      refine wk_getR 23 C0 fl_X11_38 hP (by decide) sh_0 rfl dX11_undo_16 ?_
      refine wk_getI C0 fl_X11_161 hP (by decide) sh_23 rfl dX11_undo_19 ?_
      have q2 := hw.1
      have hw := hw.2
      refine wk_icmp_le hx hb q1 q2 (tgt := 28) dX11_undo_22 (by decide) (fun hh => ?_) (fun hh => ?_)
      · have hw := hw.1 hh
        refine lv_aload_n hx hb dX11_undo_28 rfl (lv_at hl 0 rfl) ?_
        refine wk_getR 23 C0 fl_X11_38 hP (by decide) sh_0 rfl dX11_undo_29 ?_
        refine lv_iload_n hx hb dX11_undo_32 rfl (lv_at hl 1 rfl) ?_
        refine lv_aload_n hx hb dX11_undo_33 rfl (lv_at hl 0 rfl) ?_
        refine wk_getR 17 C0 fl_X11_28 hP (by decide) sh_0 rfl dX11_undo_34 ?_
        refine wk_rv (wk_callV (rest := []) C0 cl_X11_221 (ok_X5_bringBack hI isN_17 hw) hP (by decide) sh_23 rfl rfl rfl (Nat.le_of_ble_eq_true rfl) (wk_room (by decide) (by decide)) hl.1 dX11_undo_37 ⟨Nat.le_refl _, Nat.le_refl _⟩) hS (fun s3 H locs hw hP hS => ?_)
        refine lv_aload_n hx hb dX11_undo_40 rfl (lv_at hl 0 rfl) ?_
        refine wk_getR 17 C0 fl_X11_28 hP (by decide) sh_0 rfl dX11_undo_41 ?_
        refine wk_getI C0 fl_X11_145 hP (by decide) sh_17 rfl dX11_undo_44 ?_
        exact hret _ _ _ _ _ _ hw hP hS dX11_undo_47
      · have hw := hw.2 hh
        refine lv_ldc (own := RX11) (v := iI (-1000000003)) hx hb hown (htb _ ki_X11_208) dX11_undo_25 ?_
        exact hret _ _ _ _ _ _ hw hP hS dX11_undo_27
    · have hw := hw.2 hh
      refine lv_ldc (own := RX11) (v := iI (-1000000002)) hx hb hown (htb _ ki_X11_97) dX11_undo_11 ?_
      exact hret _ _ _ _ _ _ hw hP hS dX11_undo_13

set_option maxRecDepth 100000 in
set_option maxHeartbeats 4000000 in
theorem ok_X11_firstAwake {l : Launch} {D : va_G} {cA : Nat → ClassId} {ad : Nat → Nat} (hI : wI ad) {a1 : Int} {sg : Mem} {Q : Int → Mem → Prop} (hw : wp_X11_firstAwake a1 sg Q) : wMi l D cA ad yX11_firstAwake cX11_firstAwake 4 (some .int) 6 [.ref (ad 0), .int (iI a1)] sg Q := by
  refine wk_ofI (by decide) hI (Nat.le_of_ble_eq_true rfl) ?_
  intro p e s m below meth c A QQ ls C0 hret hl hP
  have hx := C0.1
  have hb := C0.2.1
  have hown := C0.2.2.2.1
  have htb := C0.2.2.2.2.1
  have hl : lv_has ls 4 [(0, .ref (ad 0)), (1, .int (iI a1))] := hl
  refine (fun (key : ∀ (H : Heap) (locs : List Loc), wP D cA ad sg H → va_S (wA ad) s.heap H locs → W p l e (rmL 6) s m A below meth c H locs 0 0 QQ (F0 m 0 ls [])) => key _ _ hP va_S.rf) ?_
  intro H locs hP hS
  unfold wp_X11_firstAwake at hw
  refine lv_iload_n hx hb dX11_firstAwake_0 rfl (lv_at hl 1 rfl) ?_
  have q1 := hw.1
  have hw := hw.2
  obtain ⟨X12, hX12, hw⟩ := hw
  have kX12 : ∀ (H : Heap) (locs : List Loc) (ls : Array Slot), wP D cA ad sg H → va_S (wA ad) s.heap H locs → lv_has ls 4 [(0, .ref (ad 0)), (1, .int (iI a1))] → X12 → W p l e (rmL 6) s m A below meth c H locs 0 0 QQ (F0 m 12 ls []) := by
    intro H locs ls hP hS hl hw
    have hw := hX12 hw
    refine lv_aload_n hx hb dX11_firstAwake_12 rfl (lv_at hl 0 rfl) ?_
    refine wk_getR 20 C0 fl_X11_32 hP (by decide) sh_0 rfl dX11_firstAwake_13 ?_
    refine lv_aload_n hx hb dX11_firstAwake_16 rfl (lv_at hl 0 rfl) ?_
    refine wk_getR 17 C0 fl_X11_28 hP (by decide) sh_0 rfl dX11_firstAwake_17 ?_
    refine wk_rv (wk_callV (rest := []) C0 cl_X11_225 (ok_X4_become hI isN_20 isN_17 hw) hP (by decide) sh_20 rfl rfl rfl (Nat.le_of_ble_eq_true rfl) (wk_room (by decide) (by decide)) hl.1 dX11_firstAwake_20 ⟨Nat.le_refl _, Nat.le_refl _⟩) hS (fun s2 H locs hw hP hS => ?_)
    refine lv_iconst (v := iI 0) hx hb dX11_firstAwake_23 rfl ?_
    refine lv_istore_n (lv' := [(2, .int (iI 0)), (0, .ref (ad 0)), (1, .int (iI a1))]) hx hb dX11_firstAwake_24 rfl hl (by decide) rfl (fun ls hl => ?_)
    obtain ⟨I25, hI25, hw⟩ := hw
    have kI25 : ∀ (k25 : Nat) (y2_3 : Int) (s4 : Mem) (H : Heap) (locs : List Loc) (ls : Array Slot), wP D cA ad s4 H → va_S (wA ad) s.heap H locs → lv_has ls 4 [(0, .ref (ad 0)), (1, .int (iI a1)), (2, .int (iI y2_3))] → I25 k25 y2_3 s4 → W p l e (rmL 6) s m A below meth c H locs 0 0 QQ (F0 m 25 ls []) := by
      intro k25
      induction k25 using Nat.strongRecOn with
      | _ k25 ih25 =>
        intro y2_3 s4 H locs ls hP hS hl hw
        have hw := hI25 k25 y2_3 s4 hw
        refine lv_iload_n hx hb dX11_firstAwake_25 rfl (lv_at hl 2 rfl) ?_
        refine lv_bipush (v := iI 99) hx hb dX11_firstAwake_26 (by decide +kernel) ?_
        have q5 := hw.1
        have hw := hw.2
        refine wk_icmp_gt hx hb q5 ⟨by decide, by decide⟩ (tgt := 69) dX11_firstAwake_28 (by decide) (fun hh => ?_) (fun hh => ?_)
        · have hw := hw.1 hh
          refine lv_iconst (v := iI (-1)) hx hb dX11_firstAwake_69 rfl ?_
          exact hret _ _ _ _ _ _ hw hP hS dX11_firstAwake_70
        · have hw := hw.2 hh
          refine lv_aload_n hx hb dX11_firstAwake_31 rfl (lv_at hl 0 rfl) ?_
          refine wk_getR 20 C0 fl_X11_32 hP (by decide) sh_0 rfl dX11_firstAwake_32 ?_
          refine wk_rip (wk_callV (rest := []) C0 cl_X11_151 (ok_X4_awake hI isN_20 hw) hP (by decide) sh_20 rfl rfl rfl (Nat.le_of_ble_eq_true rfl) (wk_room (by decide) (by decide)) hl.1 dX11_firstAwake_35 ⟨Nat.le_refl _, Nat.le_refl _⟩) hS (fun r6 H locs hw hP hS => ?_)
          refine lv_istore_n (lv' := [(3, .int (iI r6)), (0, .ref (ad 0)), (1, .int (iI a1)), (2, .int (iI y2_3))]) hx hb dX11_firstAwake_38 rfl hl (by decide) rfl (fun ls hl => ?_)
          refine lv_iload_n hx hb dX11_firstAwake_39 rfl (lv_at hl 0 rfl) ?_
          have q7 := hw.1
          have hw := hw.2
          refine wk_if_eq hx hb q7 (tgt := 56) dX11_firstAwake_40 (by decide) (fun hh => ?_) (fun hh => ?_)
          · have hw := hw.1 hh
            refine lv_aload_n hx hb dX11_firstAwake_56 rfl (lv_at hl 1 rfl) ?_
            refine wk_getR 20 C0 fl_X11_32 hP (by decide) sh_0 rfl dX11_firstAwake_57 ?_
            refine wk_rv (wk_callV (rest := []) C0 cl_X11_232 (ok_X4_passByLaw hI isN_20 hw) hP (by decide) sh_20 rfl rfl rfl (Nat.le_of_ble_eq_true rfl) (wk_room (by decide) (by decide)) hl.1 dX11_firstAwake_60 ⟨Nat.le_refl _, Nat.le_refl _⟩) hS (fun s8 H locs hw hP hS => ?_)
            refine wk_iinc (lv' := fun x2_9 => [(2, .int (iI x2_9)), (3, .int (iI r6)), (0, .ref (ad 0)), (1, .int (iI a1))]) hx hb dX11_firstAwake_63 hl (k := 3) rfl (by decide) (fun _ => rfl) (fun x2_9 ls ex2_9 hl => ?_)
            have hw := hw x2_9 ex2_9
            refine lv_goto (tgt := 25) hx hb dX11_firstAwake_66 (by decide) ?_
            obtain ⟨k10, hk10, hw⟩ := hw
            exact ih25 k10 hk10 x2_9 s8 _ _ _ hP hS (lv_sub hl [2, 3, 0] rfl) hw
          · have hw := hw.2 hh
            refine lv_iload_n hx hb dX11_firstAwake_43 rfl (lv_at hl 2 rfl) ?_
            refine wk_if_ne hx hb q1 (tgt := 51) dX11_firstAwake_44 (by decide) (fun hh => ?_) (fun hh => ?_)
            · have hw := hw.2 hh
              refine lv_iload_n hx hb dX11_firstAwake_51 rfl (lv_at hl 0 rfl) ?_
              refine wk_rip (wk_callS (rest := []) C0 cl_X11_227 (ok_J6_numberOfTrailingZeros_0f7a4 hI hw) hP rfl rfl (Nat.le_of_ble_eq_true rfl) (wk_room (by decide) (by decide)) hl.1 dX11_firstAwake_52 ⟨Nat.le_refl _, Nat.le_refl _⟩) hS (fun r11 H locs hw hP hS => ?_)
              exact hret _ _ _ _ _ _ hw hP hS dX11_firstAwake_55
            · have hw := hw.1 hh
              refine lv_iload_n hx hb dX11_firstAwake_47 rfl (lv_at hl 3 rfl) ?_
              refine lv_goto (tgt := 55) hx hb dX11_firstAwake_48 (by decide) ?_
              exact hret _ _ _ _ _ _ hw hP hS dX11_firstAwake_55
    obtain ⟨k12, hw⟩ := hw
    exact kI25 k12 0 s2 _ _ _ hP hS (lv_sub hl [1, 2, 0] rfl) hw
  refine wk_if_eq hx hb q1 (tgt := 12) dX11_firstAwake_1 (by decide) (fun hh => ?_) (fun hh => ?_)
  · have hw := hw.1 hh
    exact kX12  _ _ _ hP hS (lv_sub hl [0, 1] rfl) hw
  · have hw := hw.2 hh
    refine lv_iload_n hx hb dX11_firstAwake_4 rfl (lv_at hl 1 rfl) ?_
    refine lv_iconst (v := iI 1) hx hb dX11_firstAwake_5 rfl ?_
    refine wk_icmp_eq hx hb q1 ⟨by decide, by decide⟩ (tgt := 12) dX11_firstAwake_6 (by decide) (fun hh => ?_) (fun hh => ?_)
    · have hw := hw.1 hh
      exact kX12  _ _ _ hP hS (lv_sub hl [0, 1] rfl) hw
    · have hw := hw.2 hh
      refine lv_ldc (own := RX11) (v := iI (-1000000002)) hx hb hown (htb _ ki_X11_97) dX11_firstAwake_9 ?_
      exact hret _ _ _ _ _ _ hw hP hS dX11_firstAwake_11

set_option maxRecDepth 100000 in
set_option maxHeartbeats 4000000 in
theorem ok_X11_turnsFor {l : Launch} {D : va_G} {cA : Nat → ClassId} {ad : Nat → Nat} (hI : wI ad) {a1 : Int} {a2 : Int} {sg : Mem} {Q : Int → Mem → Prop} (hw : wp_X11_turnsFor a1 a2 sg Q) : wMi l D cA ad yX11_turnsFor cX11_turnsFor 3 (some .int) 15 [.ref (ad 0), .int (iI a1), .int (iI a2)] sg Q := by
  refine wk_ofI (by decide) hI (Nat.le_of_ble_eq_true rfl) ?_
  intro p e s m below meth c A QQ ls C0 hret hl hP
  have hx := C0.1
  have hb := C0.2.1
  have hown := C0.2.2.2.1
  have htb := C0.2.2.2.2.1
  have hl : lv_has ls 3 [(0, .ref (ad 0)), (1, .int (iI a1)), (2, .int (iI a2))] := hl
  refine (fun (key : ∀ (H : Heap) (locs : List Loc), wP D cA ad sg H → va_S (wA ad) s.heap H locs → W p l e (rmL 15) s m A below meth c H locs 0 0 QQ (F0 m 0 ls [])) => key _ _ hP va_S.rf) ?_
  intro H locs hP hS
  unfold wp_X11_turnsFor at hw
  refine lv_iload_n hx hb dX11_turnsFor_0 rfl (lv_at hl 1 rfl) ?_
  refine lv_iconst (v := iI 1) hx hb dX11_turnsFor_1 rfl ?_
  have q1 := hw.1
  have hw := hw.2
  refine wk_icmp_lt hx hb q1 ⟨by decide, by decide⟩ (tgt := 10) dX11_turnsFor_2 (by decide) (fun hh => ?_) (fun hh => ?_)
  · have hw := hw.1 hh
    refine lv_ldc (own := RX11) (v := iI (-1000000002)) hx hb hown (htb _ ki_X11_97) dX11_turnsFor_10 ?_
    exact hret _ _ _ _ _ _ hw hP hS dX11_turnsFor_12
  · have hw := hw.2 hh
    refine lv_iload_n hx hb dX11_turnsFor_5 rfl (lv_at hl 1 rfl) ?_
    refine lv_iconst (v := iI 5) hx hb dX11_turnsFor_6 rfl ?_
    refine wk_icmp_le hx hb q1 ⟨by decide, by decide⟩ (tgt := 13) dX11_turnsFor_7 (by decide) (fun hh => ?_) (fun hh => ?_)
    · have hw := hw.1 hh
      refine lv_aload_n hx hb dX11_turnsFor_13 rfl (lv_at hl 0 rfl) ?_
      refine wk_getR 17 C0 fl_X11_28 hP (by decide) sh_0 rfl dX11_turnsFor_14 ?_
      refine wk_rip (wk_callV (rest := []) C0 cl_X11_235 (ok_X4_inBed hI isN_17 hw) hP (by decide) sh_17 rfl rfl rfl (Nat.le_of_ble_eq_true rfl) (wk_room (by decide) (by decide)) hl.1 dX11_turnsFor_17 ⟨Nat.le_refl _, Nat.le_refl _⟩) hS (fun r2 H locs hw hP hS => ?_)
      have q3 := hw.1
      have hw := hw.2
      refine wk_if_ne hx hb q3 (tgt := 26) dX11_turnsFor_20 (by decide) (fun hh => ?_) (fun hh => ?_)
      · have hw := hw.2 hh
        refine lv_aload_n hx hb dX11_turnsFor_26 rfl (lv_at hl 0 rfl) ?_
        refine wk_getR 29 C0 fl_X11_52 hP (by decide) sh_0 rfl dX11_turnsFor_27 ?_
        refine lv_aload_n hx hb dX11_turnsFor_30 rfl (lv_at hl 0 rfl) ?_
        refine wk_getR 17 C0 fl_X11_28 hP (by decide) sh_0 rfl dX11_turnsFor_31 ?_
        refine lv_iload_n hx hb dX11_turnsFor_34 rfl (lv_at hl 1 rfl) ?_
        refine wk_rv (wk_callV (rest := []) C0 cl_X11_238 (ok_X10_seek hI isN_17 hw) hP (by decide) sh_29 rfl rfl rfl (Nat.le_of_ble_eq_true rfl) (wk_room (by decide) (by decide)) hl.1 dX11_turnsFor_35 ⟨Nat.le_refl _, Nat.le_refl _⟩) hS (fun s4 H locs hw hP hS => ?_)
        refine lv_iload_n hx hb dX11_turnsFor_38 rfl (lv_at hl 2 rfl) ?_
        refine lv_iconst (v := iI (-1)) hx hb dX11_turnsFor_39 rfl ?_
        have q5 := hw.1
        have hw := hw.2
        refine wk_icmp_eq hx hb q5 ⟨by decide, by decide⟩ (tgt := 54) dX11_turnsFor_40 (by decide) (fun hh => ?_) (fun hh => ?_)
        · have hw := hw.1 hh
          refine lv_aload_n hx hb dX11_turnsFor_54 rfl (lv_at hl 0 rfl) ?_
          refine wk_getR 29 C0 fl_X11_52 hP (by decide) sh_0 rfl dX11_turnsFor_55 ?_
          refine wk_getI C0 fl_X11_242 hP (by decide) sh_29 rfl dX11_turnsFor_58 ?_
          exact hret _ _ _ _ _ _ hw hP hS dX11_turnsFor_61
        · have hw := hw.2 hh
          refine lv_aload_n hx hb dX11_turnsFor_43 rfl (lv_at hl 0 rfl) ?_
          refine wk_getR 29 C0 fl_X11_52 hP (by decide) sh_0 rfl dX11_turnsFor_44 ?_
          refine wk_getI C0 fl_X11_242 hP (by decide) sh_29 rfl dX11_turnsFor_47 ?_
          refine lv_iconst (v := iI (-1)) hx hb dX11_turnsFor_50 rfl ?_
          have q6 := hw.1
          have hw := hw.2
          refine wk_icmp_ne hx hb q6 ⟨by decide, by decide⟩ (tgt := 62) dX11_turnsFor_51 (by decide) (fun hh => ?_) (fun hh => ?_)
          · have hw := hw.2 hh
            refine lv_iload_n hx hb dX11_turnsFor_62 rfl (lv_at hl 2 rfl) ?_
            refine wk_if_lt hx hb q5 (tgt := 71) dX11_turnsFor_63 (by decide) (fun hh => ?_) (fun hh => ?_)
            · have hw := hw.1 hh
              refine lv_iconst (v := iI (-1)) hx hb dX11_turnsFor_71 rfl ?_
              refine lv_goto (tgt := 84) hx hb dX11_turnsFor_72 (by decide) ?_
              exact hret _ _ _ _ _ _ hw hP hS dX11_turnsFor_84
            · have hw := hw.2 hh
              refine lv_iload_n hx hb dX11_turnsFor_66 rfl (lv_at hl 2 rfl) ?_
              refine lv_iload_n hx hb dX11_turnsFor_67 rfl (lv_at hl 1 rfl) ?_
              refine wk_icmp_lt hx hb q5 q1 (tgt := 75) dX11_turnsFor_68 (by decide) (fun hh => ?_) (fun hh => ?_)
              · have hw := hw.1 hh
                refine lv_aload_n hx hb dX11_turnsFor_75 rfl (lv_at hl 0 rfl) ?_
                refine wk_getR 29 C0 fl_X11_52 hP (by decide) sh_0 rfl dX11_turnsFor_76 ?_
                refine wk_getR 32 C0 fl_X11_244 hP (by decide) sh_29 rfl dX11_turnsFor_79 ?_
                refine lv_iload_n hx hb dX11_turnsFor_82 rfl (lv_at hl 2 rfl) ?_
                have q7 := hw.1
                have hw := hw.2
                refine wk_iald C0 hP (by decide) sh_32 q7.1 q7.2 (by decide) dX11_turnsFor_83 ?_
                exact hret _ _ _ _ _ _ hw hP hS dX11_turnsFor_84
              · have hw := hw.2 hh
                refine lv_iconst (v := iI (-1)) hx hb dX11_turnsFor_71 rfl ?_
                refine lv_goto (tgt := 84) hx hb dX11_turnsFor_72 (by decide) ?_
                exact hret _ _ _ _ _ _ hw hP hS dX11_turnsFor_84
          · have hw := hw.1 hh
            refine lv_aload_n hx hb dX11_turnsFor_54 rfl (lv_at hl 0 rfl) ?_
            refine wk_getR 29 C0 fl_X11_52 hP (by decide) sh_0 rfl dX11_turnsFor_55 ?_
            refine wk_getI C0 fl_X11_242 hP (by decide) sh_29 rfl dX11_turnsFor_58 ?_
            exact hret _ _ _ _ _ _ hw hP hS dX11_turnsFor_61
      · have hw := hw.1 hh
        refine lv_ldc (own := RX11) (v := iI (-1000000003)) hx hb hown (htb _ ki_X11_208) dX11_turnsFor_23 ?_
        exact hret _ _ _ _ _ _ hw hP hS dX11_turnsFor_25
    · have hw := hw.2 hh
      refine lv_ldc (own := RX11) (v := iI (-1000000002)) hx hb hown (htb _ ki_X11_97) dX11_turnsFor_10 ?_
      exact hret _ _ _ _ _ _ hw hP hS dX11_turnsFor_12

set_option maxRecDepth 100000 in
set_option maxHeartbeats 4000000 in
theorem ok_X11_rhyme {l : Launch} {D : va_G} {cA : Nat → ClassId} {ad : Nat → Nat} (hI : wI ad) {a1 : Int} {a2 : Int} {sg : Mem} {Q : Int → Mem → Prop} (hw : wp_X11_rhyme a1 a2 sg Q) : wMi l D cA ad yX11_rhyme cX11_rhyme 3 (some .int) 7 [.ref (ad 0), .int (iI a1), .int (iI a2)] sg Q := by
  refine wk_ofI (by decide) hI (Nat.le_of_ble_eq_true rfl) ?_
  intro p e s m below meth c A QQ ls C0 hret hl hP
  have hx := C0.1
  have hb := C0.2.1
  have hown := C0.2.2.2.1
  have htb := C0.2.2.2.2.1
  have hl : lv_has ls 3 [(0, .ref (ad 0)), (1, .int (iI a1)), (2, .int (iI a2))] := hl
  refine (fun (key : ∀ (H : Heap) (locs : List Loc), wP D cA ad sg H → va_S (wA ad) s.heap H locs → W p l e (rmL 7) s m A below meth c H locs 0 0 QQ (F0 m 0 ls [])) => key _ _ hP va_S.rf) ?_
  intro H locs hP hS
  unfold wp_X11_rhyme at hw
  refine lv_iload_n hx hb dX11_rhyme_0 rfl (lv_at hl 1 rfl) ?_
  refine lv_iconst (v := iI 1) hx hb dX11_rhyme_1 rfl ?_
  have q1 := hw.1
  have hw := hw.2
  refine wk_icmp_lt hx hb q1 ⟨by decide, by decide⟩ (tgt := 11) dX11_rhyme_2 (by decide) (fun hh => ?_) (fun hh => ?_)
  · have hw := hw.1 hh
    refine lv_ldc (own := RX11) (v := iI (-1000000002)) hx hb hown (htb _ ki_X11_97) dX11_rhyme_11 ?_
    exact hret _ _ _ _ _ _ hw hP hS dX11_rhyme_13
  · have hw := hw.2 hh
    refine lv_iload_n hx hb dX11_rhyme_5 rfl (lv_at hl 1 rfl) ?_
    refine lv_bipush (v := iI 30) hx hb dX11_rhyme_6 (by decide +kernel) ?_
    refine wk_icmp_le hx hb q1 ⟨by decide, by decide⟩ (tgt := 14) dX11_rhyme_8 (by decide) (fun hh => ?_) (fun hh => ?_)
    · have hw := hw.1 hh
      refine lv_aload_n hx hb dX11_rhyme_14 rfl (lv_at hl 0 rfl) ?_
      refine wk_getR 17 C0 fl_X11_28 hP (by decide) sh_0 rfl dX11_rhyme_15 ?_
      refine wk_rip (wk_callV (rest := []) C0 cl_X11_235 (ok_X4_inBed hI isN_17 hw) hP (by decide) sh_17 rfl rfl rfl (Nat.le_of_ble_eq_true rfl) (wk_room (by decide) (by decide)) hl.1 dX11_rhyme_18 ⟨Nat.le_refl _, Nat.le_refl _⟩) hS (fun r2 H locs hw hP hS => ?_)
      have q3 := hw.1
      have hw := hw.2
      refine wk_if_ne hx hb q3 (tgt := 27) dX11_rhyme_21 (by decide) (fun hh => ?_) (fun hh => ?_)
      · have hw := hw.2 hh
        refine lv_aload_n hx hb dX11_rhyme_27 rfl (lv_at hl 0 rfl) ?_
        refine wk_getR 51 C0 fl_X11_61 hP (by decide) sh_0 rfl dX11_rhyme_28 ?_
        refine lv_aload_n hx hb dX11_rhyme_31 rfl (lv_at hl 0 rfl) ?_
        refine wk_getR 17 C0 fl_X11_28 hP (by decide) sh_0 rfl dX11_rhyme_32 ?_
        refine lv_iload_n hx hb dX11_rhyme_35 rfl (lv_at hl 1 rfl) ?_
        refine wk_rv (wk_callV (rest := []) C0 cl_X11_247 (ok_X7_seek hI isN_17 hw) hP (by decide) sh_51 rfl rfl rfl (Nat.le_of_ble_eq_true rfl) (wk_room (by decide) (by decide)) hl.1 dX11_rhyme_36 ⟨Nat.le_refl _, Nat.le_refl _⟩) hS (fun s4 H locs hw hP hS => ?_)
        refine lv_iload_n hx hb dX11_rhyme_39 rfl (lv_at hl 2 rfl) ?_
        refine lv_iconst (v := iI (-1)) hx hb dX11_rhyme_40 rfl ?_
        have q5 := hw.1
        have hw := hw.2
        refine wk_icmp_eq hx hb q5 ⟨by decide, by decide⟩ (tgt := 55) dX11_rhyme_41 (by decide) (fun hh => ?_) (fun hh => ?_)
        · have hw := hw.1 hh
          refine lv_aload_n hx hb dX11_rhyme_55 rfl (lv_at hl 0 rfl) ?_
          refine wk_getR 51 C0 fl_X11_61 hP (by decide) sh_0 rfl dX11_rhyme_56 ?_
          refine wk_getI C0 fl_X11_248 hP (by decide) sh_51 rfl dX11_rhyme_59 ?_
          exact hret _ _ _ _ _ _ hw hP hS dX11_rhyme_62
        · have hw := hw.2 hh
          refine lv_aload_n hx hb dX11_rhyme_44 rfl (lv_at hl 0 rfl) ?_
          refine wk_getR 51 C0 fl_X11_61 hP (by decide) sh_0 rfl dX11_rhyme_45 ?_
          refine wk_getI C0 fl_X11_248 hP (by decide) sh_51 rfl dX11_rhyme_48 ?_
          refine lv_iconst (v := iI (-1)) hx hb dX11_rhyme_51 rfl ?_
          have q6 := hw.1
          have hw := hw.2
          refine wk_icmp_ne hx hb q6 ⟨by decide, by decide⟩ (tgt := 63) dX11_rhyme_52 (by decide) (fun hh => ?_) (fun hh => ?_)
          · have hw := hw.2 hh
            refine lv_iload_n hx hb dX11_rhyme_63 rfl (lv_at hl 2 rfl) ?_
            refine wk_if_lt hx hb q5 (tgt := 78) dX11_rhyme_64 (by decide) (fun hh => ?_) (fun hh => ?_)
            · have hw := hw.1 hh
              refine lv_iconst (v := iI (-1)) hx hb dX11_rhyme_78 rfl ?_
              refine lv_goto (tgt := 100) hx hb dX11_rhyme_79 (by decide) ?_
              exact hret _ _ _ _ _ _ hw hP hS dX11_rhyme_100
            · have hw := hw.2 hh
              refine lv_iload_n hx hb dX11_rhyme_67 rfl (lv_at hl 2 rfl) ?_
              refine lv_aload_n hx hb dX11_rhyme_68 rfl (lv_at hl 0 rfl) ?_
              refine wk_getR 51 C0 fl_X11_61 hP (by decide) sh_0 rfl dX11_rhyme_69 ?_
              refine wk_getI C0 fl_X11_248 hP (by decide) sh_51 rfl dX11_rhyme_72 ?_
              refine wk_icmp_lt hx hb q5 q6 (tgt := 82) dX11_rhyme_75 (by decide) (fun hh => ?_) (fun hh => ?_)
              · have hw := hw.1 hh
                refine lv_aload_n hx hb dX11_rhyme_82 rfl (lv_at hl 0 rfl) ?_
                refine wk_getR 51 C0 fl_X11_61 hP (by decide) sh_0 rfl dX11_rhyme_83 ?_
                refine wk_getI C0 fl_X11_249 hP (by decide) sh_51 rfl dX11_rhyme_86 ?_
                refine lv_aload_n hx hb dX11_rhyme_89 rfl (lv_at hl 0 rfl) ?_
                refine wk_getR 51 C0 fl_X11_61 hP (by decide) sh_0 rfl dX11_rhyme_90 ?_
                refine wk_getI C0 fl_X11_248 hP (by decide) sh_51 rfl dX11_rhyme_93 ?_
                refine lv_iload_n hx hb dX11_rhyme_96 rfl (lv_at hl 2 rfl) ?_
                refine wk_rip (wk_callS (rest := []) C0 cl_X11_252 (ok_X11_wordOf hI hw) hP rfl rfl (Nat.le_of_ble_eq_true rfl) (wk_room (by decide) (by decide)) hl.1 dX11_rhyme_97 ⟨Nat.le_refl _, Nat.le_refl _⟩) hS (fun r7 H locs hw hP hS => ?_)
                exact hret _ _ _ _ _ _ hw hP hS dX11_rhyme_100
              · have hw := hw.2 hh
                refine lv_iconst (v := iI (-1)) hx hb dX11_rhyme_78 rfl ?_
                refine lv_goto (tgt := 100) hx hb dX11_rhyme_79 (by decide) ?_
                exact hret _ _ _ _ _ _ hw hP hS dX11_rhyme_100
          · have hw := hw.1 hh
            refine lv_aload_n hx hb dX11_rhyme_55 rfl (lv_at hl 0 rfl) ?_
            refine wk_getR 51 C0 fl_X11_61 hP (by decide) sh_0 rfl dX11_rhyme_56 ?_
            refine wk_getI C0 fl_X11_248 hP (by decide) sh_51 rfl dX11_rhyme_59 ?_
            exact hret _ _ _ _ _ _ hw hP hS dX11_rhyme_62
      · have hw := hw.1 hh
        refine lv_ldc (own := RX11) (v := iI (-1000000003)) hx hb hown (htb _ ki_X11_208) dX11_rhyme_24 ?_
        exact hret _ _ _ _ _ _ hw hP hS dX11_rhyme_26
    · have hw := hw.2 hh
      refine lv_ldc (own := RX11) (v := iI (-1000000002)) hx hb hown (htb _ ki_X11_97) dX11_rhyme_11 ?_
      exact hret _ _ _ _ _ _ hw hP hS dX11_rhyme_13

set_option maxRecDepth 100000 in
set_option maxHeartbeats 4000000 in
theorem ok_X11_laid {l : Launch} {D : va_G} {cA : Nat → ClassId} {ad : Nat → Nat} (hI : wI ad) {a1 : Int} {a2 : Int} {sg : Mem} {Q : Int → Mem → Prop} (hw : wp_X11_laid a1 a2 sg Q) : wMi l D cA ad yX11_laid cX11_laid 3 (some .int) 15 [.ref (ad 0), .int (iI a1), .int (iI a2)] sg Q := by
  refine wk_ofI (by decide) hI (Nat.le_of_ble_eq_true rfl) ?_
  intro p e s m below meth c A QQ ls C0 hret hl hP
  have hx := C0.1
  have hb := C0.2.1
  have hown := C0.2.2.2.1
  have htb := C0.2.2.2.2.1
  have hl : lv_has ls 3 [(0, .ref (ad 0)), (1, .int (iI a1)), (2, .int (iI a2))] := hl
  refine (fun (key : ∀ (H : Heap) (locs : List Loc), wP D cA ad sg H → va_S (wA ad) s.heap H locs → W p l e (rmL 15) s m A below meth c H locs 0 0 QQ (F0 m 0 ls [])) => key _ _ hP va_S.rf) ?_
  intro H locs hP hS
  unfold wp_X11_laid at hw
  refine lv_iload_n hx hb dX11_laid_0 rfl (lv_at hl 1 rfl) ?_
  refine lv_iconst (v := iI 1) hx hb dX11_laid_1 rfl ?_
  have q1 := hw.1
  have hw := hw.2
  refine wk_icmp_lt hx hb q1 ⟨by decide, by decide⟩ (tgt := 11) dX11_laid_2 (by decide) (fun hh => ?_) (fun hh => ?_)
  · have hw := hw.1 hh
    refine lv_ldc (own := RX11) (v := iI (-1000000002)) hx hb hown (htb _ ki_X11_97) dX11_laid_11 ?_
    exact hret _ _ _ _ _ _ hw hP hS dX11_laid_13
  · have hw := hw.2 hh
    refine lv_iload_n hx hb dX11_laid_5 rfl (lv_at hl 1 rfl) ?_
    refine lv_bipush (v := iI 9) hx hb dX11_laid_6 (by decide +kernel) ?_
    refine wk_icmp_le hx hb q1 ⟨by decide, by decide⟩ (tgt := 14) dX11_laid_8 (by decide) (fun hh => ?_) (fun hh => ?_)
    · have hw := hw.1 hh
      refine lv_aload_n hx hb dX11_laid_14 rfl (lv_at hl 0 rfl) ?_
      refine wk_getR 52 C0 fl_X11_68 hP (by decide) sh_0 rfl dX11_laid_15 ?_
      refine lv_aload_n hx hb dX11_laid_18 rfl (lv_at hl 0 rfl) ?_
      refine wk_getR 17 C0 fl_X11_28 hP (by decide) sh_0 rfl dX11_laid_19 ?_
      refine lv_iload_n hx hb dX11_laid_22 rfl (lv_at hl 1 rfl) ?_
      refine wk_rv (wk_callV (rest := []) C0 cl_X11_256 (ok_X3_seek hI isN_17 hw) hP (by decide) sh_52 rfl rfl rfl (Nat.le_of_ble_eq_true rfl) (wk_room (by decide) (by decide)) hl.1 dX11_laid_23 ⟨Nat.le_refl _, Nat.le_refl _⟩) hS (fun s2 H locs hw hP hS => ?_)
      refine lv_iload_n hx hb dX11_laid_26 rfl (lv_at hl 2 rfl) ?_
      refine lv_iconst (v := iI (-1)) hx hb dX11_laid_27 rfl ?_
      have q3 := hw.1
      have hw := hw.2
      refine wk_icmp_ne hx hb q3 ⟨by decide, by decide⟩ (tgt := 39) dX11_laid_28 (by decide) (fun hh => ?_) (fun hh => ?_)
      · have hw := hw.2 hh
        refine lv_iload_n hx hb dX11_laid_39 rfl (lv_at hl 2 rfl) ?_
        refine wk_if_lt hx hb q3 (tgt := 54) dX11_laid_40 (by decide) (fun hh => ?_) (fun hh => ?_)
        · have hw := hw.1 hh
          refine lv_iconst (v := iI (-1)) hx hb dX11_laid_54 rfl ?_
          refine lv_goto (tgt := 67) hx hb dX11_laid_55 (by decide) ?_
          exact hret _ _ _ _ _ _ hw hP hS dX11_laid_67
        · have hw := hw.2 hh
          refine lv_iload_n hx hb dX11_laid_43 rfl (lv_at hl 2 rfl) ?_
          refine lv_aload_n hx hb dX11_laid_44 rfl (lv_at hl 0 rfl) ?_
          refine wk_getR 52 C0 fl_X11_68 hP (by decide) sh_0 rfl dX11_laid_45 ?_
          refine wk_getI C0 fl_X11_258 hP (by decide) sh_52 rfl dX11_laid_48 ?_
          have q4 := hw.1
          have hw := hw.2
          refine wk_icmp_lt hx hb q3 q4 (tgt := 58) dX11_laid_51 (by decide) (fun hh => ?_) (fun hh => ?_)
          · have hw := hw.1 hh
            refine lv_aload_n hx hb dX11_laid_58 rfl (lv_at hl 0 rfl) ?_
            refine wk_getR 52 C0 fl_X11_68 hP (by decide) sh_0 rfl dX11_laid_59 ?_
            refine wk_getR 55 C0 fl_X11_259 hP (by decide) sh_52 rfl dX11_laid_62 ?_
            refine lv_iload_n hx hb dX11_laid_65 rfl (lv_at hl 2 rfl) ?_
            have q5 := hw.1
            have hw := hw.2
            refine wk_iald C0 hP (by decide) sh_55 q5.1 q5.2 (by decide) dX11_laid_66 ?_
            exact hret _ _ _ _ _ _ hw hP hS dX11_laid_67
          · have hw := hw.2 hh
            refine lv_iconst (v := iI (-1)) hx hb dX11_laid_54 rfl ?_
            refine lv_goto (tgt := 67) hx hb dX11_laid_55 (by decide) ?_
            exact hret _ _ _ _ _ _ hw hP hS dX11_laid_67
      · have hw := hw.1 hh
        refine lv_aload_n hx hb dX11_laid_31 rfl (lv_at hl 0 rfl) ?_
        refine wk_getR 52 C0 fl_X11_68 hP (by decide) sh_0 rfl dX11_laid_32 ?_
        refine wk_getI C0 fl_X11_257 hP (by decide) sh_52 rfl dX11_laid_35 ?_
        exact hret _ _ _ _ _ _ hw hP hS dX11_laid_38
    · have hw := hw.2 hh
      refine lv_ldc (own := RX11) (v := iI (-1000000002)) hx hb hown (htb _ ki_X11_97) dX11_laid_11 ?_
      exact hret _ _ _ _ _ _ hw hP hS dX11_laid_13

set_option maxRecDepth 100000 in
set_option maxHeartbeats 4000000 in
theorem ok_X11_change {l : Launch} {D : va_G} {cA : Nat → ClassId} {ad : Nat → Nat} (hI : wI ad) {a1 : Int} {sg : Mem} {Q : Int → Mem → Prop} (hw : wp_X11_change a1 sg Q) : wMi l D cA ad yX11_change cX11_change 2 (some .int) 6 [.ref (ad 0), .int (iI a1)] sg Q := by
  refine wk_ofI (by decide) hI (Nat.le_of_ble_eq_true rfl) ?_
  intro p e s m below meth c A QQ ls C0 hret hl hP
  have hx := C0.1
  have hb := C0.2.1
  have hown := C0.2.2.2.1
  have htb := C0.2.2.2.2.1
  have hl : lv_has ls 2 [(0, .ref (ad 0)), (1, .int (iI a1))] := hl
  refine (fun (key : ∀ (H : Heap) (locs : List Loc), wP D cA ad sg H → va_S (wA ad) s.heap H locs → W p l e (rmL 6) s m A below meth c H locs 0 0 QQ (F0 m 0 ls [])) => key _ _ hP va_S.rf) ?_
  intro H locs hP hS
  unfold wp_X11_change at hw
  refine lv_aload_n hx hb dX11_change_0 rfl (lv_at hl 0 rfl) ?_
  refine wk_getR 52 C0 fl_X11_68 hP (by decide) sh_0 rfl dX11_change_1 ?_
  refine lv_aload_n hx hb dX11_change_4 rfl (lv_at hl 0 rfl) ?_
  refine wk_getR 17 C0 fl_X11_28 hP (by decide) sh_0 rfl dX11_change_5 ?_
  refine wk_rv (wk_callV (rest := []) C0 cl_X11_260 (ok_X3_seekPairs hI isN_17 hw) hP (by decide) sh_52 rfl rfl rfl (Nat.le_of_ble_eq_true rfl) (wk_room (by decide) (by decide)) hl.1 dX11_change_8 ⟨Nat.le_refl _, Nat.le_refl _⟩) hS (fun s1 H locs hw hP hS => ?_)
  refine lv_iload_n hx hb dX11_change_11 rfl (lv_at hl 1 rfl) ?_
  refine lv_iconst (v := iI (-1)) hx hb dX11_change_12 rfl ?_
  have q2 := hw.1
  have hw := hw.2
  refine wk_icmp_ne hx hb q2 ⟨by decide, by decide⟩ (tgt := 24) dX11_change_13 (by decide) (fun hh => ?_) (fun hh => ?_)
  · have hw := hw.2 hh
    refine lv_iload_n hx hb dX11_change_24 rfl (lv_at hl 1 rfl) ?_
    refine wk_if_lt hx hb q2 (tgt := 39) dX11_change_25 (by decide) (fun hh => ?_) (fun hh => ?_)
    · have hw := hw.1 hh
      refine lv_iconst (v := iI (-1)) hx hb dX11_change_39 rfl ?_
      refine lv_goto (tgt := 52) hx hb dX11_change_40 (by decide) ?_
      exact hret _ _ _ _ _ _ hw hP hS dX11_change_52
    · have hw := hw.2 hh
      refine lv_iload_n hx hb dX11_change_28 rfl (lv_at hl 1 rfl) ?_
      refine lv_aload_n hx hb dX11_change_29 rfl (lv_at hl 0 rfl) ?_
      refine wk_getR 52 C0 fl_X11_68 hP (by decide) sh_0 rfl dX11_change_30 ?_
      refine wk_getI C0 fl_X11_263 hP (by decide) sh_52 rfl dX11_change_33 ?_
      have q3 := hw.1
      have hw := hw.2
      refine wk_icmp_lt hx hb q2 q3 (tgt := 43) dX11_change_36 (by decide) (fun hh => ?_) (fun hh => ?_)
      · have hw := hw.1 hh
        refine lv_aload_n hx hb dX11_change_43 rfl (lv_at hl 0 rfl) ?_
        refine wk_getR 52 C0 fl_X11_68 hP (by decide) sh_0 rfl dX11_change_44 ?_
        refine wk_getR 57 C0 fl_X11_266 hP (by decide) sh_52 rfl dX11_change_47 ?_
        refine lv_iload_n hx hb dX11_change_50 rfl (lv_at hl 1 rfl) ?_
        have q4 := hw.1
        have hw := hw.2
        refine wk_iald C0 hP (by decide) sh_57 q4.1 q4.2 (by decide) dX11_change_51 ?_
        exact hret _ _ _ _ _ _ hw hP hS dX11_change_52
      · have hw := hw.2 hh
        refine lv_iconst (v := iI (-1)) hx hb dX11_change_39 rfl ?_
        refine lv_goto (tgt := 52) hx hb dX11_change_40 (by decide) ?_
        exact hret _ _ _ _ _ _ hw hP hS dX11_change_52
  · have hw := hw.1 hh
    refine lv_aload_n hx hb dX11_change_16 rfl (lv_at hl 0 rfl) ?_
    refine wk_getR 52 C0 fl_X11_68 hP (by decide) sh_0 rfl dX11_change_17 ?_
    refine wk_getI C0 fl_X11_263 hP (by decide) sh_52 rfl dX11_change_20 ?_
    exact hret _ _ _ _ _ _ hw hP hS dX11_change_23

set_option maxRecDepth 100000 in
set_option maxHeartbeats 4000000 in
theorem ok_X11_steady {l : Launch} {D : va_G} {cA : Nat → ClassId} {ad : Nat → Nat} (hI : wI ad) {a1 : Int} {sg : Mem} {Q : Int → Mem → Prop} (hw : wp_X11_steady a1 sg Q) : wMi l D cA ad yX11_steady cX11_steady 2 (some .int) 7 [.ref (ad 0), .int (iI a1)] sg Q := by
  refine wk_ofI (by decide) hI (Nat.le_of_ble_eq_true rfl) ?_
  intro p e s m below meth c A QQ ls C0 hret hl hP
  have hx := C0.1
  have hb := C0.2.1
  have hown := C0.2.2.2.1
  have htb := C0.2.2.2.2.1
  have hl : lv_has ls 2 [(0, .ref (ad 0)), (1, .int (iI a1))] := hl
  refine (fun (key : ∀ (H : Heap) (locs : List Loc), wP D cA ad sg H → va_S (wA ad) s.heap H locs → W p l e (rmL 7) s m A below meth c H locs 0 0 QQ (F0 m 0 ls [])) => key _ _ hP va_S.rf) ?_
  intro H locs hP hS
  unfold wp_X11_steady at hw
  refine lv_iload_n hx hb dX11_steady_0 rfl (lv_at hl 1 rfl) ?_
  refine lv_iconst (v := iI (-1)) hx hb dX11_steady_1 rfl ?_
  have q1 := hw.1
  have hw := hw.2
  obtain ⟨X19, hX19, hw⟩ := hw
  have kX19 : ∀ (H : Heap) (locs : List Loc) (ls : Array Slot), wP D cA ad sg H → va_S (wA ad) s.heap H locs → lv_has ls 2 [(0, .ref (ad 0)), (1, .int (iI a1))] → X19 → W p l e (rmL 7) s m A below meth c H locs 0 0 QQ (F0 m 19 ls []) := by
    intro H locs ls hP hS hl hw
    have hw := hX19 hw
    refine lv_aload_n hx hb dX11_steady_19 rfl (lv_at hl 0 rfl) ?_
    refine wk_getR 1 C0 fl_X11_24 hP (by decide) sh_0 rfl dX11_steady_20 ?_
    refine wk_getI C0 fl_X11_136 hP (by decide) sh_1 rfl dX11_steady_23 ?_
    have q2 := hw.1
    have hw := hw.2
    refine wk_if_ne hx hb q2 (tgt := 32) dX11_steady_26 (by decide) (fun hh => ?_) (fun hh => ?_)
    · have hw := hw.2 hh
      refine lv_aload_n hx hb dX11_steady_32 rfl (lv_at hl 0 rfl) ?_
      refine wk_getR 58 C0 fl_X11_75 hP (by decide) sh_0 rfl dX11_steady_33 ?_
      refine lv_aload_n hx hb dX11_steady_36 rfl (lv_at hl 0 rfl) ?_
      refine wk_getR 17 C0 fl_X11_28 hP (by decide) sh_0 rfl dX11_steady_37 ?_
      refine wk_rv (wk_callV (rest := []) C0 cl_X11_269 (ok_X8_seek hI isN_17 hw) hP (by decide) sh_58 rfl rfl rfl (Nat.le_of_ble_eq_true rfl) (wk_room (by decide) (by decide)) hl.1 dX11_steady_40 ⟨Nat.le_refl _, Nat.le_refl _⟩) hS (fun s3 H locs hw hP hS => ?_)
      refine lv_iload_n hx hb dX11_steady_43 rfl (lv_at hl 1 rfl) ?_
      refine lv_iconst (v := iI (-1)) hx hb dX11_steady_44 rfl ?_
      refine wk_icmp_eq hx hb q1 ⟨by decide, by decide⟩ (tgt := 59) dX11_steady_45 (by decide) (fun hh => ?_) (fun hh => ?_)
      · have hw := hw.1 hh
        refine lv_aload_n hx hb dX11_steady_59 rfl (lv_at hl 0 rfl) ?_
        refine wk_getR 58 C0 fl_X11_75 hP (by decide) sh_0 rfl dX11_steady_60 ?_
        refine wk_getI C0 fl_X11_271 hP (by decide) sh_58 rfl dX11_steady_63 ?_
        exact hret _ _ _ _ _ _ hw hP hS dX11_steady_66
      · have hw := hw.2 hh
        refine lv_aload_n hx hb dX11_steady_48 rfl (lv_at hl 0 rfl) ?_
        refine wk_getR 58 C0 fl_X11_75 hP (by decide) sh_0 rfl dX11_steady_49 ?_
        refine wk_getI C0 fl_X11_271 hP (by decide) sh_58 rfl dX11_steady_52 ?_
        refine lv_iconst (v := iI (-1)) hx hb dX11_steady_55 rfl ?_
        have q4 := hw.1
        have hw := hw.2
        refine wk_icmp_ne hx hb q4 ⟨by decide, by decide⟩ (tgt := 67) dX11_steady_56 (by decide) (fun hh => ?_) (fun hh => ?_)
        · have hw := hw.2 hh
          refine lv_aload_n hx hb dX11_steady_67 rfl (lv_at hl 0 rfl) ?_
          refine wk_getR 58 C0 fl_X11_75 hP (by decide) sh_0 rfl dX11_steady_68 ?_
          refine lv_aload_n hx hb dX11_steady_71 rfl (lv_at hl 0 rfl) ?_
          refine wk_getR 17 C0 fl_X11_28 hP (by decide) sh_0 rfl dX11_steady_72 ?_
          refine lv_iload_n hx hb dX11_steady_75 rfl (lv_at hl 1 rfl) ?_
          refine wk_ri (wk_callV (rest := []) C0 cl_X11_272 (ok_X8_hoursInWarmest hI isN_17 hw) hP (by decide) sh_58 rfl rfl rfl (Nat.le_of_ble_eq_true rfl) (wk_room (by decide) (by decide)) hl.1 dX11_steady_76 ⟨Nat.le_refl _, Nat.le_refl _⟩) hS (fun r5 s6 H locs hw hP hS => ?_)
          exact hret _ _ _ _ _ _ hw hP hS dX11_steady_79
        · have hw := hw.1 hh
          refine lv_aload_n hx hb dX11_steady_59 rfl (lv_at hl 0 rfl) ?_
          refine wk_getR 58 C0 fl_X11_75 hP (by decide) sh_0 rfl dX11_steady_60 ?_
          refine wk_getI C0 fl_X11_271 hP (by decide) sh_58 rfl dX11_steady_63 ?_
          exact hret _ _ _ _ _ _ hw hP hS dX11_steady_66
    · have hw := hw.1 hh
      refine lv_ldc (own := RX11) (v := iI (-1000000003)) hx hb hown (htb _ ki_X11_208) dX11_steady_29 ?_
      exact hret _ _ _ _ _ _ hw hP hS dX11_steady_31
  refine wk_icmp_eq hx hb q1 ⟨by decide, by decide⟩ (tgt := 19) dX11_steady_2 (by decide) (fun hh => ?_) (fun hh => ?_)
  · have hw := hw.1 hh
    exact kX19  _ _ _ hP hS (lv_sub hl [0, 1] rfl) hw
  · have hw := hw.2 hh
    refine lv_aload_n hx hb dX11_steady_5 rfl (lv_at hl 0 rfl) ?_
    refine wk_getR 1 C0 fl_X11_24 hP (by decide) sh_0 rfl dX11_steady_6 ?_
    refine lv_iload_n hx hb dX11_steady_9 rfl (lv_at hl 1 rfl) ?_
    refine wk_rip (wk_callV (rest := []) C0 cl_X11_173 (ok_X0_hasSleeper hI hw) hP (by decide) sh_1 rfl rfl rfl (Nat.le_of_ble_eq_true rfl) (wk_room (by decide) (by decide)) hl.1 dX11_steady_10 ⟨Nat.le_refl _, Nat.le_refl _⟩) hS (fun r7 H locs hw hP hS => ?_)
    have q8 := hw.1
    have hw := hw.2
    refine wk_if_ne hx hb q8 (tgt := 19) dX11_steady_13 (by decide) (fun hh => ?_) (fun hh => ?_)
    · have hw := hw.2 hh
      exact kX19  _ _ _ hP hS (lv_sub hl [0, 1] rfl) hw
    · have hw := hw.1 hh
      refine lv_ldc (own := RX11) (v := iI (-1000000001)) hx hb hown (htb _ ki_X11_165) dX11_steady_16 ?_
      exact hret _ _ _ _ _ _ hw hP hS dX11_steady_18

set_option maxRecDepth 100000 in
set_option maxHeartbeats 4000000 in
theorem ok_X11_twoBeds {l : Launch} {D : va_G} {cA : Nat → ClassId} {ad : Nat → Nat} (hI : wI ad) {a1 : Int} {sg : Mem} {Q : Int → Prop} (hw : wp_X11_twoBeds a1 sg Q) : wMi l D cA ad yX11_twoBeds cX11_twoBeds 6 (some .int) 2 [.ref (ad 0), .int (iI a1)] sg (fun z u => u = sg ∧ Q z) := by
  refine wk_ofI (by decide) hI (Nat.le_of_ble_eq_true rfl) ?_
  intro p e s m below meth c A QQ ls C0 hret hl hP
  have hx := C0.1
  have hb := C0.2.1
  have hown := C0.2.2.2.1
  have htb := C0.2.2.2.2.1
  have hl : lv_has ls 6 [(0, .ref (ad 0)), (1, .int (iI a1))] := hl
  refine (fun (key : ∀ (H : Heap) (locs : List Loc), wP D cA ad sg H → va_S (wA ad) s.heap H locs → W p l e (rmL 2) s m A below meth c H locs 0 0 QQ (F0 m 0 ls [])) => key _ _ hP va_S.rf) ?_
  intro H locs hP hS
  unfold wp_X11_twoBeds at hw
  refine lv_iload_n hx hb dX11_twoBeds_0 rfl (lv_at hl 1 rfl) ?_
  have q1 := hw.1
  have hw := hw.2
  obtain ⟨X12, hX12, hw⟩ := hw
  have kX12 : ∀ (H : Heap) (locs : List Loc) (ls : Array Slot), wP D cA ad sg H → va_S (wA ad) s.heap H locs → lv_has ls 6 [(0, .ref (ad 0)), (1, .int (iI a1))] → X12 → W p l e (rmL 2) s m A below meth c H locs 0 0 QQ (F0 m 12 ls []) := by
    intro H locs ls hP hS hl hw
    have hw := hX12 hw
    refine lv_iconst (v := iI (-1)) hx hb dX11_twoBeds_12 rfl ?_
    refine lv_istore_n (lv' := [(2, .int (iI (-1))), (0, .ref (ad 0)), (1, .int (iI a1))]) hx hb dX11_twoBeds_13 rfl hl (by decide) rfl (fun ls hl => ?_)
    refine lv_iconst (v := iI (-1)) hx hb dX11_twoBeds_14 rfl ?_
    refine lv_istore_n (lv' := [(3, .int (iI (-1))), (2, .int (iI (-1))), (0, .ref (ad 0)), (1, .int (iI a1))]) hx hb dX11_twoBeds_15 rfl hl (by decide) rfl (fun ls hl => ?_)
    refine lv_iconst (v := iI 1) hx hb dX11_twoBeds_16 rfl ?_
    refine lv_istore (lv' := [(4, .int (iI 1)), (3, .int (iI (-1))), (2, .int (iI (-1))), (0, .ref (ad 0)), (1, .int (iI a1))]) hx hb dX11_twoBeds_17 hl (by decide) rfl (fun ls hl => ?_)
    obtain ⟨I19, hI19, hw⟩ := hw
    have kI19 : ∀ (k19 : Nat) (y2_2 : Int) (y3_3 : Int) (y4_4 : Int) (H : Heap) (locs : List Loc) (ls : Array Slot), wP D cA ad sg H → va_S (wA ad) s.heap H locs → lv_has ls 6 [(0, .ref (ad 0)), (1, .int (iI a1)), (2, .int (iI y2_2)), (3, .int (iI y3_3)), (4, .int (iI y4_4))] → I19 k19 y2_2 y3_3 y4_4 → W p l e (rmL 2) s m A below meth c H locs 0 0 QQ (F0 m 19 ls []) := by
      intro k19
      induction k19 using Nat.strongRecOn with
      | _ k19 ih19 =>
        intro y2_2 y3_3 y4_4 H locs ls hP hS hl hw
        have hw := hI19 k19 y2_2 y3_3 y4_4 hw
        refine lv_iload hx hb dX11_twoBeds_19 (lv_at hl 4 rfl) ?_
        refine lv_iconst (v := iI 1) hx hb dX11_twoBeds_21 rfl ?_
        refine lv_aload_n hx hb dX11_twoBeds_22 rfl (lv_at hl 0 rfl) ?_
        refine wk_getR 1 C0 fl_X11_24 hP (by decide) sh_0 rfl dX11_twoBeds_23 ?_
        refine wk_getI C0 fl_X11_130 hP (by decide) sh_1 rfl dX11_twoBeds_26 ?_
        refine wk_ishl hx hb dX11_twoBeds_29 ?_
        have q5 := hw.1
        have hw := hw.2
        have q6 := hw.1
        have hw := hw.2
        refine wk_icmp_ge hx hb q5 q6 (tgt := 67) dX11_twoBeds_30 (by decide) (fun hh => ?_) (fun hh => ?_)
        · have hw := hw.1 hh
          refine lv_iload_n hx hb dX11_twoBeds_67 rfl (lv_at hl 1 rfl) ?_
          refine wk_if_ne hx hb q1 (tgt := 75) dX11_twoBeds_68 (by decide) (fun hh => ?_) (fun hh => ?_)
          · have hw := hw.2 hh
            refine lv_iload_n hx hb dX11_twoBeds_75 rfl (lv_at hl 3 rfl) ?_
            exact hret _ _ _ _ _ _ ⟨rfl, hw⟩ hP hS dX11_twoBeds_76
          · have hw := hw.1 hh
            refine lv_iload_n hx hb dX11_twoBeds_71 rfl (lv_at hl 2 rfl) ?_
            refine lv_goto (tgt := 76) hx hb dX11_twoBeds_72 (by decide) ?_
            exact hret _ _ _ _ _ _ ⟨rfl, hw⟩ hP hS dX11_twoBeds_76
        · have hw := hw.2 hh
          refine lv_aload_n hx hb dX11_twoBeds_33 rfl (lv_at hl 0 rfl) ?_
          refine wk_getR 1 C0 fl_X11_24 hP (by decide) sh_0 rfl dX11_twoBeds_34 ?_
          refine lv_iload hx hb dX11_twoBeds_37 (lv_at hl 4 rfl) ?_
          refine wk_rip (wk_callV (rest := []) C0 cl_X11_276 (ok_X0_unlike hI hw) hP (by decide) sh_1 rfl rfl rfl (Nat.le_of_ble_eq_true rfl) (wk_room (by decide) (by decide)) hl.1 dX11_twoBeds_39 ⟨Nat.le_refl _, Nat.le_refl _⟩) hS (fun r7 H locs hw hP hS => ?_)
          refine lv_istore (lv' := [(5, .int (iI r7)), (0, .ref (ad 0)), (1, .int (iI a1)), (2, .int (iI y2_2)), (3, .int (iI y3_3)), (4, .int (iI y4_4))]) hx hb dX11_twoBeds_42 hl (by decide) rfl (fun ls hl => ?_)
          refine lv_iload_n hx hb dX11_twoBeds_44 rfl (lv_at hl 3 rfl) ?_
          refine lv_iconst (v := iI (-1)) hx hb dX11_twoBeds_45 rfl ?_
          have q8 := hw.1
          have hw := hw.2
          have hs := hw.1
          have hw := hw.2
          have kX61 : ∀ y2_10 : Int, y2_10 = (if y2_2 = (-1) then r7 else if y2_2 ≤ r7 then y2_2 else r7) → ∀ y3_11 : Int, y3_11 = (if y2_2 = (-1) then y4_4 else if y2_2 ≤ r7 then y3_3 else y4_4) → ∀ (ls : Array Slot), lv_has ls 6 [(0, .ref (ad 0)), (1, .int (iI a1)), (2, .int (iI y2_10)), (3, .int (iI y3_11)), (4, .int (iI y4_4))] → W p l e (rmL 2) s m A below meth c H locs 0 0 QQ (F0 m 61 ls []) := by
            intro y2_10 ey2_10 y3_11 ey3_11 ls hl
            have hw := hw y2_10 ey2_10 y3_11 ey3_11
            refine wk_iinc (lv' := fun x4_12 => [(4, .int (iI x4_12)), (0, .ref (ad 0)), (1, .int (iI a1)), (2, .int (iI y2_10)), (3, .int (iI y3_11))]) hx hb dX11_twoBeds_61 hl (k := 4) rfl (by decide) (fun _ => rfl) (fun x4_12 ls ex4_12 hl => ?_)
            have hw := hw x4_12 ex4_12
            refine lv_goto (tgt := 19) hx hb dX11_twoBeds_64 (by decide) ?_
            obtain ⟨k13, hk13, hw⟩ := hw
            exact ih19 k13 hk13 y2_10 y3_11 x4_12 _ _ _ hP hS (lv_sub hl [1, 2, 3, 4, 0] rfl) hw
          refine wk_icmp_eq hx hb q8 ⟨by decide, by decide⟩ (tgt := 55) dX11_twoBeds_46 (by decide) (fun hh14 => ?_) (fun hh14 => ?_)
          · refine lv_iload hx hb dX11_twoBeds_55 (lv_at hl 0 rfl) ?_
            refine lv_istore_n (lv' := [(2, .int (iI r7)), (5, .int (iI r7)), (0, .ref (ad 0)), (1, .int (iI a1)), (3, .int (iI y3_3)), (4, .int (iI y4_4))]) hx hb dX11_twoBeds_57 rfl hl (by decide) rfl (fun ls hl => ?_)
            refine lv_iload hx hb dX11_twoBeds_58 (lv_at hl 5 rfl) ?_
            refine lv_istore_n (lv' := [(3, .int (iI y4_4)), (2, .int (iI r7)), (5, .int (iI r7)), (0, .ref (ad 0)), (1, .int (iI a1)), (4, .int (iI y4_4))]) hx hb dX11_twoBeds_60 rfl hl (by decide) rfl (fun ls hl => ?_)
            exact kX61 r7 (by rw [if_pos hh14]) y4_4 (by rw [if_pos hh14]) ls (lv_sub hl [3, 4, 1, 0, 5] rfl)
          · have hs := hs.2 hh14
            refine lv_iload hx hb dX11_twoBeds_49 (lv_at hl 0 rfl) ?_
            refine lv_iload_n hx hb dX11_twoBeds_51 rfl (lv_at hl 3 rfl) ?_
            have q9 := hs
            refine wk_icmp_ge hx hb q9 q8 (tgt := 61) dX11_twoBeds_52 (by decide) (fun hh15 => ?_) (fun hh15 => ?_)
            · exact kX61 y2_2 (by rw [if_neg hh14, if_pos hh15]) y3_3 (by rw [if_neg hh14, if_pos hh15]) ls (lv_sub hl [1, 2, 3, 4, 5] rfl)
            · refine lv_iload hx hb dX11_twoBeds_55 (lv_at hl 0 rfl) ?_
              refine lv_istore_n (lv' := [(2, .int (iI r7)), (5, .int (iI r7)), (0, .ref (ad 0)), (1, .int (iI a1)), (3, .int (iI y3_3)), (4, .int (iI y4_4))]) hx hb dX11_twoBeds_57 rfl hl (by decide) rfl (fun ls hl => ?_)
              refine lv_iload hx hb dX11_twoBeds_58 (lv_at hl 5 rfl) ?_
              refine lv_istore_n (lv' := [(3, .int (iI y4_4)), (2, .int (iI r7)), (5, .int (iI r7)), (0, .ref (ad 0)), (1, .int (iI a1)), (4, .int (iI y4_4))]) hx hb dX11_twoBeds_60 rfl hl (by decide) rfl (fun ls hl => ?_)
              exact kX61 r7 (by rw [if_neg hh14, if_neg hh15]) y4_4 (by rw [if_neg hh14, if_neg hh15]) ls (lv_sub hl [3, 4, 1, 0, 5] rfl)
    obtain ⟨k16, hw⟩ := hw
    exact kI19 k16 (-1) (-1) 1 _ _ _ hP hS (lv_sub hl [3, 4, 2, 1, 0] rfl) hw
  refine wk_if_eq hx hb q1 (tgt := 12) dX11_twoBeds_1 (by decide) (fun hh => ?_) (fun hh => ?_)
  · have hw := hw.1 hh
    exact kX12  _ _ _ hP hS (lv_sub hl [0, 1] rfl) hw
  · have hw := hw.2 hh
    refine lv_iload_n hx hb dX11_twoBeds_4 rfl (lv_at hl 1 rfl) ?_
    refine lv_iconst (v := iI 1) hx hb dX11_twoBeds_5 rfl ?_
    refine wk_icmp_eq hx hb q1 ⟨by decide, by decide⟩ (tgt := 12) dX11_twoBeds_6 (by decide) (fun hh => ?_) (fun hh => ?_)
    · have hw := hw.1 hh
      exact kX12  _ _ _ hP hS (lv_sub hl [0, 1] rfl) hw
    · have hw := hw.2 hh
      refine lv_ldc (own := RX11) (v := iI (-1000000002)) hx hb hown (htb _ ki_X11_97) dX11_twoBeds_9 ?_
      exact hret _ _ _ _ _ _ ⟨rfl, hw⟩ hP hS dX11_twoBeds_11

set_option maxRecDepth 100000 in
set_option maxHeartbeats 4000000 in
theorem ok_X11_nobodyUp {l : Launch} {D : va_G} {cA : Nat → ClassId} {ad : Nat → Nat} (hI : wI ad) {a1 : Int} {a2 : Int} {sg : Mem} {Q : Int → Prop} (hw : wp_X11_nobodyUp a1 a2 sg Q) : wMi l D cA ad yX11_nobodyUp cX11_nobodyUp 7 (some .int) 2 [.ref (ad 0), .int (iI a1), .int (iI a2)] sg (fun z u => u = sg ∧ Q z) := by
  refine wk_ofI (by decide) hI (Nat.le_of_ble_eq_true rfl) ?_
  intro p e s m below meth c A QQ ls C0 hret hl hP
  have hx := C0.1
  have hb := C0.2.1
  have hown := C0.2.2.2.1
  have htb := C0.2.2.2.2.1
  have hl : lv_has ls 7 [(0, .ref (ad 0)), (1, .int (iI a1)), (2, .int (iI a2))] := hl
  refine (fun (key : ∀ (H : Heap) (locs : List Loc), wP D cA ad sg H → va_S (wA ad) s.heap H locs → W p l e (rmL 2) s m A below meth c H locs 0 0 QQ (F0 m 0 ls [])) => key _ _ hP va_S.rf) ?_
  intro H locs hP hS
  unfold wp_X11_nobodyUp at hw
  refine lv_iload_n hx hb dX11_nobodyUp_0 rfl (lv_at hl 1 rfl) ?_
  refine lv_iconst (v := iI 1) hx hb dX11_nobodyUp_1 rfl ?_
  have q1 := hw.1
  have hw := hw.2
  refine wk_icmp_lt hx hb q1 ⟨by decide, by decide⟩ (tgt := 22) dX11_nobodyUp_2 (by decide) (fun hh => ?_) (fun hh => ?_)
  · have hw := hw.1 hh
    refine lv_ldc (own := RX11) (v := iI (-1000000002)) hx hb hown (htb _ ki_X11_97) dX11_nobodyUp_22 ?_
    exact hret _ _ _ _ _ _ ⟨rfl, hw⟩ hP hS dX11_nobodyUp_24
  · have hw := hw.2 hh
    refine lv_iload_n hx hb dX11_nobodyUp_5 rfl (lv_at hl 1 rfl) ?_
    refine lv_bipush (v := iI 50) hx hb dX11_nobodyUp_6 (by decide +kernel) ?_
    refine wk_icmp_gt hx hb q1 ⟨by decide, by decide⟩ (tgt := 22) dX11_nobodyUp_8 (by decide) (fun hh => ?_) (fun hh => ?_)
    · have hw := hw.1 hh
      refine lv_ldc (own := RX11) (v := iI (-1000000002)) hx hb hown (htb _ ki_X11_97) dX11_nobodyUp_22 ?_
      exact hret _ _ _ _ _ _ ⟨rfl, hw⟩ hP hS dX11_nobodyUp_24
    · have hw := hw.2 hh
      refine lv_iload_n hx hb dX11_nobodyUp_11 rfl (lv_at hl 2 rfl) ?_
      have q2 := hw.1
      have hw := hw.2
      refine wk_if_lt hx hb q2 (tgt := 22) dX11_nobodyUp_12 (by decide) (fun hh => ?_) (fun hh => ?_)
      · have hw := hw.1 hh
        refine lv_ldc (own := RX11) (v := iI (-1000000002)) hx hb hown (htb _ ki_X11_97) dX11_nobodyUp_22 ?_
        exact hret _ _ _ _ _ _ ⟨rfl, hw⟩ hP hS dX11_nobodyUp_24
      · have hw := hw.2 hh
        refine lv_iload_n hx hb dX11_nobodyUp_15 rfl (lv_at hl 2 rfl) ?_
        refine lv_sipush (v := iI 1000) hx hb dX11_nobodyUp_16 (by decide +kernel) ?_
        refine wk_icmp_le hx hb q2 ⟨by decide, by decide⟩ (tgt := 25) dX11_nobodyUp_19 (by decide) (fun hh => ?_) (fun hh => ?_)
        · have hw := hw.1 hh
          refine lv_iload_n hx hb dX11_nobodyUp_25 rfl (lv_at hl 1 rfl) ?_
          refine lv_aload_n hx hb dX11_nobodyUp_26 rfl (lv_at hl 0 rfl) ?_
          refine wk_getR 17 C0 fl_X11_28 hP (by decide) sh_0 rfl dX11_nobodyUp_27 ?_
          refine wk_rip (wk_callV (rest := [.int (iI a1)]) C0 cl_X11_235 (ok_X4_inBed hI isN_17 hw) hP (by decide) sh_17 rfl rfl rfl (Nat.le_of_ble_eq_true rfl) (wk_room (by decide) (by decide)) hl.1 dX11_nobodyUp_30 ⟨Nat.le_refl _, Nat.le_refl _⟩) hS (fun r3 H locs hw hP hS => ?_)
          refine wk_rip (wk_callS (rest := [.int (iI a1)]) C0 cl_X11_279 (ok_J6_bitCount_0f7a4 hI hw) hP rfl rfl (Nat.le_of_ble_eq_true rfl) (wk_room (by decide) (by decide)) hl.1 dX11_nobodyUp_33 ⟨Nat.le_refl _, Nat.le_refl _⟩) hS (fun r4 H locs hw hP hS => ?_)
          refine wk_imul hx hb dX11_nobodyUp_36 ?_
          refine wk_top (fun x3_5 ex3_5 => ?_)
          have hw := hw x3_5 ex3_5
          refine lv_istore_n (lv' := [(3, .int (iI x3_5)), (0, .ref (ad 0)), (1, .int (iI a1)), (2, .int (iI a2))]) hx hb dX11_nobodyUp_37 rfl hl (by decide) rfl (fun ls hl => ?_)
          refine lv_ldc2 (own := RX11) (v := iL 1000000000) hx hb hown (htb _ kl_X11_282) dX11_nobodyUp_38 ?_
          refine lv_lstore (lv' := [(4, .long (iL 1000000000)), (3, .int (iI x3_5)), (0, .ref (ad 0)), (1, .int (iI a1)), (2, .int (iI a2))]) hx hb dX11_nobodyUp_41 hl (by decide) rfl (fun ls hl => ?_)
          refine lv_iconst (v := iI 0) hx hb dX11_nobodyUp_43 rfl ?_
          refine lv_istore (lv' := [(6, .int (iI 0)), (4, .long (iL 1000000000)), (3, .int (iI x3_5)), (0, .ref (ad 0)), (1, .int (iI a1)), (2, .int (iI a2))]) hx hb dX11_nobodyUp_44 hl (by decide) rfl (fun ls hl => ?_)
          obtain ⟨I46, hI46, hw⟩ := hw
          have kI46 : ∀ (k46 : Nat) (y4_6 : Int) (y6_7 : Int) (H : Heap) (locs : List Loc) (ls : Array Slot), wP D cA ad sg H → va_S (wA ad) s.heap H locs → lv_has ls 7 [(2, .int (iI a2)), (3, .int (iI x3_5)), (4, .long (iL y4_6)), (6, .int (iI y6_7))] → I46 k46 y4_6 y6_7 → W p l e (rmL 2) s m A below meth c H locs 0 0 QQ (F0 m 46 ls []) := by
            intro k46
            induction k46 using Nat.strongRecOn with
            | _ k46 ih46 =>
              intro y4_6 y6_7 H locs ls hP hS hl hw
              have hw := hI46 k46 y4_6 y6_7 hw
              refine lv_iload hx hb dX11_nobodyUp_46 (lv_at hl 3 rfl) ?_
              refine lv_iload_n hx hb dX11_nobodyUp_48 rfl (lv_at hl 1 rfl) ?_
              have q8 := hw.1
              have hw := hw.2
              have q9 := hw.1
              have hw := hw.2
              refine wk_icmp_ge hx hb q8 q9 (tgt := 73) dX11_nobodyUp_49 (by decide) (fun hh => ?_) (fun hh => ?_)
              · have hw := hw.1 hh
                refine lv_lload hx hb dX11_nobodyUp_73 (lv_at hl 2 rfl) ?_
                refine wk_l2i hx hb dX11_nobodyUp_75 ?_
                exact hret _ _ _ _ _ _ ⟨rfl, hw⟩ hP hS dX11_nobodyUp_76
              · have hw := hw.2 hh
                refine lv_lload hx hb dX11_nobodyUp_52 (lv_at hl 2 rfl) ?_
                refine lv_sipush (v := iI 1000) hx hb dX11_nobodyUp_54 (by decide +kernel) ?_
                refine lv_iload_n hx hb dX11_nobodyUp_57 rfl (lv_at hl 0 rfl) ?_
                refine wk_isub hx hb dX11_nobodyUp_58 ?_
                have q10 := hw.1
                have hw := hw.2
                refine wk_i2l hx hb q10 dX11_nobodyUp_59 ?_
                refine wk_lmul hx hb dX11_nobodyUp_60 ?_
                refine lv_ldc2 (own := RX11) (v := iL 1000) hx hb hown (htb _ kl_X11_284) dX11_nobodyUp_61 ?_
                have q11 := hw.1
                have hw := hw.2
                refine wk_ldiv hx hb q11 ⟨by decide, by decide⟩ (by decide) dX11_nobodyUp_64 ?_
                refine wk_topl (fun x4_12 ex4_12 => ?_)
                have hw := hw x4_12 ex4_12
                refine lv_lstore (lv' := [(4, .long (iL x4_12)), (2, .int (iI a2)), (3, .int (iI x3_5)), (6, .int (iI y6_7))]) hx hb dX11_nobodyUp_65 hl (by decide) rfl (fun ls hl => ?_)
                refine wk_iinc (lv' := fun x6_13 => [(6, .int (iI x6_13)), (4, .long (iL x4_12)), (2, .int (iI a2)), (3, .int (iI x3_5))]) hx hb dX11_nobodyUp_67 hl (k := 3) rfl (by decide) (fun _ => rfl) (fun x6_13 ls ex6_13 hl => ?_)
                have hw := hw x6_13 ex6_13
                refine lv_goto (tgt := 46) hx hb dX11_nobodyUp_70 (by decide) ?_
                obtain ⟨k14, hk14, hw⟩ := hw
                exact ih46 k14 hk14 x4_12 x6_13 _ _ _ hP hS (lv_sub hl [2, 3, 1, 0] rfl) hw
          obtain ⟨k15, hw⟩ := hw
          exact kI46 k15 1000000000 0 _ _ _ hP hS (lv_sub hl [5, 2, 1, 0] rfl) hw
        · have hw := hw.2 hh
          refine lv_ldc (own := RX11) (v := iI (-1000000002)) hx hb hown (htb _ ki_X11_97) dX11_nobodyUp_22 ?_
          exact hret _ _ _ _ _ _ ⟨rfl, hw⟩ hP hS dX11_nobodyUp_24

set_option maxRecDepth 100000 in
set_option maxHeartbeats 4000000 in
theorem ok_X11_morning {l : Launch} {D : va_G} {cA : Nat → ClassId} {ad : Nat → Nat} (hI : wI ad) {a1 : Int} {a2 : Int} {sg : Mem} {Q : Int → Mem → Prop} (hw : wp_X11_morning a1 a2 sg Q) : wMi l D cA ad yX11_morning cX11_morning 3 (some .int) 2 [.ref (ad 0), .int (iI a1), .int (iI a2)] sg Q := by
  refine wk_ofI (by decide) hI (Nat.le_of_ble_eq_true rfl) ?_
  intro p e s m below meth c A QQ ls C0 hret hl hP
  have hx := C0.1
  have hb := C0.2.1
  have hown := C0.2.2.2.1
  have htb := C0.2.2.2.2.1
  have hl : lv_has ls 3 [(0, .ref (ad 0)), (1, .int (iI a1)), (2, .int (iI a2))] := hl
  refine (fun (key : ∀ (H : Heap) (locs : List Loc), wP D cA ad sg H → va_S (wA ad) s.heap H locs → W p l e (rmL 2) s m A below meth c H locs 0 0 QQ (F0 m 0 ls [])) => key _ _ hP va_S.rf) ?_
  intro H locs hP hS
  unfold wp_X11_morning at hw
  refine lv_aload_n hx hb dX11_morning_0 rfl (lv_at hl 0 rfl) ?_
  refine wk_getR 1 C0 fl_X11_24 hP (by decide) sh_0 rfl dX11_morning_1 ?_
  refine lv_iload_n hx hb dX11_morning_4 rfl (lv_at hl 1 rfl) ?_
  refine wk_rip (wk_callV (rest := []) C0 cl_X11_173 (ok_X0_hasSleeper hI hw) hP (by decide) sh_1 rfl rfl rfl (Nat.le_of_ble_eq_true rfl) (wk_room (by decide) (by decide)) hl.1 dX11_morning_5 ⟨Nat.le_refl _, Nat.le_refl _⟩) hS (fun r1 H locs hw hP hS => ?_)
  have q2 := hw.1
  have hw := hw.2
  refine wk_if_eq hx hb q2 (tgt := 22) dX11_morning_8 (by decide) (fun hh => ?_) (fun hh => ?_)
  · have hw := hw.1 hh
    refine lv_ldc (own := RX11) (v := iI (-1000000001)) hx hb hown (htb _ ki_X11_165) dX11_morning_22 ?_
    exact hret _ _ _ _ _ _ hw hP hS dX11_morning_24
  · have hw := hw.2 hh
    refine lv_aload_n hx hb dX11_morning_11 rfl (lv_at hl 0 rfl) ?_
    refine wk_getR 1 C0 fl_X11_24 hP (by decide) sh_0 rfl dX11_morning_12 ?_
    refine lv_iload_n hx hb dX11_morning_15 rfl (lv_at hl 2 rfl) ?_
    refine wk_rip (wk_callV (rest := []) C0 cl_X11_162 (ok_X0_hasPlace hI hw) hP (by decide) sh_1 rfl rfl rfl (Nat.le_of_ble_eq_true rfl) (wk_room (by decide) (by decide)) hl.1 dX11_morning_16 ⟨Nat.le_refl _, Nat.le_refl _⟩) hS (fun r3 H locs hw hP hS => ?_)
    have q4 := hw.1
    have hw := hw.2
    refine wk_if_ne hx hb q4 (tgt := 25) dX11_morning_19 (by decide) (fun hh => ?_) (fun hh => ?_)
    · have hw := hw.2 hh
      refine lv_aload_n hx hb dX11_morning_25 rfl (lv_at hl 0 rfl) ?_
      refine wk_getR 60 C0 fl_X11_82 hP (by decide) sh_0 rfl dX11_morning_26 ?_
      refine lv_iload_n hx hb dX11_morning_29 rfl (lv_at hl 1 rfl) ?_
      refine lv_iload_n hx hb dX11_morning_30 rfl (lv_at hl 2 rfl) ?_
      refine wk_ri (wk_callV (rest := []) C0 cl_X11_286 (ok_X9_add hI hw) hP (by decide) sh_60 rfl rfl rfl (Nat.le_of_ble_eq_true rfl) (wk_room (by decide) (by decide)) hl.1 dX11_morning_31 ⟨Nat.le_refl _, Nat.le_refl _⟩) hS (fun r5 s6 H locs hw hP hS => ?_)
      have q7 := hw.1
      have hw := hw.2
      refine wk_if_eq hx hb q7 (tgt := 47) dX11_morning_34 (by decide) (fun hh => ?_) (fun hh => ?_)
      · have hw := hw.1 hh
        refine lv_ldc (own := RX11) (v := iI (-1000000004)) hx hb hown (htb _ ki_X11_105) dX11_morning_47 ?_
        exact hret _ _ _ _ _ _ hw hP hS dX11_morning_49
      · have hw := hw.2 hh
        refine lv_aload_n hx hb dX11_morning_37 rfl (lv_at hl 0 rfl) ?_
        refine wk_getR 60 C0 fl_X11_82 hP (by decide) sh_0 rfl dX11_morning_38 ?_
        refine wk_getI C0 fl_X11_157 hP (by decide) sh_60 rfl dX11_morning_41 ?_
        refine lv_goto (tgt := 49) hx hb dX11_morning_44 (by decide) ?_
        exact hret _ _ _ _ _ _ hw hP hS dX11_morning_49
    · have hw := hw.1 hh
      refine lv_ldc (own := RX11) (v := iI (-1000000001)) hx hb hown (htb _ ki_X11_165) dX11_morning_22 ?_
      exact hret _ _ _ _ _ _ hw hP hS dX11_morning_24

set_option maxRecDepth 100000 in
set_option maxHeartbeats 4000000 in
theorem ok_X11_counted {l : Launch} {D : va_G} {cA : Nat → ClassId} {ad : Nat → Nat} (hI : wI ad) {a1 : Int} {a2 : Int} {sg : Mem} {Q : Int → Mem → Prop} (hw : wp_X11_counted a1 a2 sg Q) : wMi l D cA ad yX11_counted cX11_counted 3 (some .int) 4 [.ref (ad 0), .int (iI a1), .int (iI a2)] sg Q := by
  refine wk_ofI (by decide) hI (Nat.le_of_ble_eq_true rfl) ?_
  intro p e s m below meth c A QQ ls C0 hret hl hP
  have hx := C0.1
  have hb := C0.2.1
  have hown := C0.2.2.2.1
  have htb := C0.2.2.2.2.1
  have hl : lv_has ls 3 [(0, .ref (ad 0)), (1, .int (iI a1)), (2, .int (iI a2))] := hl
  refine (fun (key : ∀ (H : Heap) (locs : List Loc), wP D cA ad sg H → va_S (wA ad) s.heap H locs → W p l e (rmL 4) s m A below meth c H locs 0 0 QQ (F0 m 0 ls [])) => key _ _ hP va_S.rf) ?_
  intro H locs hP hS
  unfold wp_X11_counted at hw
  refine lv_iload_n hx hb dX11_counted_0 rfl (lv_at hl 1 rfl) ?_
  refine lv_iconst (v := iI 1) hx hb dX11_counted_1 rfl ?_
  have q1 := hw.1
  have hw := hw.2
  refine wk_icmp_lt hx hb q1 ⟨by decide, by decide⟩ (tgt := 10) dX11_counted_2 (by decide) (fun hh => ?_) (fun hh => ?_)
  · have hw := hw.1 hh
    refine lv_ldc (own := RX11) (v := iI (-1000000002)) hx hb hown (htb _ ki_X11_97) dX11_counted_10 ?_
    exact hret _ _ _ _ _ _ hw hP hS dX11_counted_12
  · have hw := hw.2 hh
    refine lv_iload_n hx hb dX11_counted_5 rfl (lv_at hl 1 rfl) ?_
    refine lv_iconst (v := iI 5) hx hb dX11_counted_6 rfl ?_
    refine wk_icmp_le hx hb q1 ⟨by decide, by decide⟩ (tgt := 13) dX11_counted_7 (by decide) (fun hh => ?_) (fun hh => ?_)
    · have hw := hw.1 hh
      refine lv_aload_n hx hb dX11_counted_13 rfl (lv_at hl 0 rfl) ?_
      refine wk_getR 1 C0 fl_X11_24 hP (by decide) sh_0 rfl dX11_counted_14 ?_
      refine wk_getI C0 fl_X11_136 hP (by decide) sh_1 rfl dX11_counted_17 ?_
      have q2 := hw.1
      have hw := hw.2
      refine wk_if_ne hx hb q2 (tgt := 26) dX11_counted_20 (by decide) (fun hh => ?_) (fun hh => ?_)
      · have hw := hw.2 hh
        refine lv_aload_n hx hb dX11_counted_26 rfl (lv_at hl 0 rfl) ?_
        refine wk_getR 60 C0 fl_X11_82 hP (by decide) sh_0 rfl dX11_counted_27 ?_
        refine lv_aload_n hx hb dX11_counted_30 rfl (lv_at hl 0 rfl) ?_
        refine wk_getR 17 C0 fl_X11_28 hP (by decide) sh_0 rfl dX11_counted_31 ?_
        refine lv_iload_n hx hb dX11_counted_34 rfl (lv_at hl 1 rfl) ?_
        refine wk_rv (wk_callV (rest := []) C0 cl_X11_289 (ok_X9_seek hI isN_17 hw) hP (by decide) sh_60 rfl rfl rfl (Nat.le_of_ble_eq_true rfl) (wk_room (by decide) (by decide)) hl.1 dX11_counted_35 ⟨Nat.le_refl _, Nat.le_refl _⟩) hS (fun s3 H locs hw hP hS => ?_)
        refine lv_iload_n hx hb dX11_counted_38 rfl (lv_at hl 2 rfl) ?_
        refine lv_iconst (v := iI (-1)) hx hb dX11_counted_39 rfl ?_
        have q4 := hw.1
        have hw := hw.2
        refine wk_icmp_ne hx hb q4 ⟨by decide, by decide⟩ (tgt := 51) dX11_counted_40 (by decide) (fun hh => ?_) (fun hh => ?_)
        · have hw := hw.2 hh
          refine lv_iload_n hx hb dX11_counted_51 rfl (lv_at hl 2 rfl) ?_
          refine wk_if_lt hx hb q4 (tgt := 70) dX11_counted_52 (by decide) (fun hh => ?_) (fun hh => ?_)
          · have hw := hw.1 hh
            refine lv_iconst (v := iI (-1)) hx hb dX11_counted_70 rfl ?_
            refine lv_goto (tgt := 86) hx hb dX11_counted_71 (by decide) ?_
            exact hret _ _ _ _ _ _ hw hP hS dX11_counted_86
          · have hw := hw.2 hh
            refine lv_iload_n hx hb dX11_counted_55 rfl (lv_at hl 2 rfl) ?_
            refine lv_iload_n hx hb dX11_counted_56 rfl (lv_at hl 1 rfl) ?_
            refine wk_icmp_ge hx hb q4 q1 (tgt := 70) dX11_counted_57 (by decide) (fun hh => ?_) (fun hh => ?_)
            · have hw := hw.1 hh
              refine lv_iconst (v := iI (-1)) hx hb dX11_counted_70 rfl ?_
              refine lv_goto (tgt := 86) hx hb dX11_counted_71 (by decide) ?_
              exact hret _ _ _ _ _ _ hw hP hS dX11_counted_86
            · have hw := hw.2 hh
              refine lv_aload_n hx hb dX11_counted_60 rfl (lv_at hl 0 rfl) ?_
              refine wk_getR 60 C0 fl_X11_82 hP (by decide) sh_0 rfl dX11_counted_61 ?_
              refine wk_getI C0 fl_X11_290 hP (by decide) sh_60 rfl dX11_counted_64 ?_
              have q5 := hw.1
              have hw := hw.2
              refine wk_if_ne hx hb q5 (tgt := 74) dX11_counted_67 (by decide) (fun hh => ?_) (fun hh => ?_)
              · have hw := hw.2 hh
                refine lv_aload_n hx hb dX11_counted_74 rfl (lv_at hl 0 rfl) ?_
                refine wk_getR 60 C0 fl_X11_82 hP (by decide) sh_0 rfl dX11_counted_75 ?_
                refine wk_getI C0 fl_X11_293 hP (by decide) sh_60 rfl dX11_counted_78 ?_
                refine lv_iload_n hx hb dX11_counted_81 rfl (lv_at hl 1 rfl) ?_
                refine lv_iload_n hx hb dX11_counted_82 rfl (lv_at hl 2 rfl) ?_
                refine wk_rip (wk_callS (rest := []) C0 cl_X11_252 (ok_X11_wordOf hI hw) hP rfl rfl (Nat.le_of_ble_eq_true rfl) (wk_room (by decide) (by decide)) hl.1 dX11_counted_83 ⟨Nat.le_refl _, Nat.le_refl _⟩) hS (fun r6 H locs hw hP hS => ?_)
                exact hret _ _ _ _ _ _ hw hP hS dX11_counted_86
              · have hw := hw.1 hh
                refine lv_iconst (v := iI (-1)) hx hb dX11_counted_70 rfl ?_
                refine lv_goto (tgt := 86) hx hb dX11_counted_71 (by decide) ?_
                exact hret _ _ _ _ _ _ hw hP hS dX11_counted_86
        · have hw := hw.1 hh
          refine lv_aload_n hx hb dX11_counted_43 rfl (lv_at hl 0 rfl) ?_
          refine wk_getR 60 C0 fl_X11_82 hP (by decide) sh_0 rfl dX11_counted_44 ?_
          refine wk_getI C0 fl_X11_290 hP (by decide) sh_60 rfl dX11_counted_47 ?_
          exact hret _ _ _ _ _ _ hw hP hS dX11_counted_50
      · have hw := hw.1 hh
        refine lv_ldc (own := RX11) (v := iI (-1000000003)) hx hb hown (htb _ ki_X11_208) dX11_counted_23 ?_
        exact hret _ _ _ _ _ _ hw hP hS dX11_counted_25
    · have hw := hw.2 hh
      refine lv_ldc (own := RX11) (v := iI (-1000000002)) hx hb hown (htb _ ki_X11_97) dX11_counted_10 ?_
      exact hret _ _ _ _ _ _ hw hP hS dX11_counted_12

set_option maxRecDepth 100000 in
set_option maxHeartbeats 4000000 in
theorem ok_X11_sure {l : Launch} {D : va_G} {cA : Nat → ClassId} {ad : Nat → Nat} (hI : wI ad) {a1 : Int} {sg : Mem} {Q : Int → Mem → Prop} (hw : wp_X11_sure a1 sg Q) : wMi l D cA ad yX11_sure cX11_sure 2 (some .int) 4 [.ref (ad 0), .int (iI a1)] sg Q := by
  refine wk_ofI (by decide) hI (Nat.le_of_ble_eq_true rfl) ?_
  intro p e s m below meth c A QQ ls C0 hret hl hP
  have hx := C0.1
  have hb := C0.2.1
  have hown := C0.2.2.2.1
  have htb := C0.2.2.2.2.1
  have hl : lv_has ls 2 [(0, .ref (ad 0)), (1, .int (iI a1))] := hl
  refine (fun (key : ∀ (H : Heap) (locs : List Loc), wP D cA ad sg H → va_S (wA ad) s.heap H locs → W p l e (rmL 4) s m A below meth c H locs 0 0 QQ (F0 m 0 ls [])) => key _ _ hP va_S.rf) ?_
  intro H locs hP hS
  unfold wp_X11_sure at hw
  refine lv_iload_n hx hb dX11_sure_0 rfl (lv_at hl 1 rfl) ?_
  refine lv_iconst (v := iI 1) hx hb dX11_sure_1 rfl ?_
  have q1 := hw.1
  have hw := hw.2
  refine wk_icmp_lt hx hb q1 ⟨by decide, by decide⟩ (tgt := 10) dX11_sure_2 (by decide) (fun hh => ?_) (fun hh => ?_)
  · have hw := hw.1 hh
    refine lv_ldc (own := RX11) (v := iI (-1000000002)) hx hb hown (htb _ ki_X11_97) dX11_sure_10 ?_
    exact hret _ _ _ _ _ _ hw hP hS dX11_sure_12
  · have hw := hw.2 hh
    refine lv_iload_n hx hb dX11_sure_5 rfl (lv_at hl 1 rfl) ?_
    refine lv_iconst (v := iI 5) hx hb dX11_sure_6 rfl ?_
    refine wk_icmp_le hx hb q1 ⟨by decide, by decide⟩ (tgt := 13) dX11_sure_7 (by decide) (fun hh => ?_) (fun hh => ?_)
    · have hw := hw.1 hh
      refine lv_aload_n hx hb dX11_sure_13 rfl (lv_at hl 0 rfl) ?_
      refine wk_getR 1 C0 fl_X11_24 hP (by decide) sh_0 rfl dX11_sure_14 ?_
      refine wk_getI C0 fl_X11_136 hP (by decide) sh_1 rfl dX11_sure_17 ?_
      have q2 := hw.1
      have hw := hw.2
      refine wk_if_ne hx hb q2 (tgt := 26) dX11_sure_20 (by decide) (fun hh => ?_) (fun hh => ?_)
      · have hw := hw.2 hh
        refine lv_aload_n hx hb dX11_sure_26 rfl (lv_at hl 0 rfl) ?_
        refine wk_getR 60 C0 fl_X11_82 hP (by decide) sh_0 rfl dX11_sure_27 ?_
        refine lv_aload_n hx hb dX11_sure_30 rfl (lv_at hl 0 rfl) ?_
        refine wk_getR 17 C0 fl_X11_28 hP (by decide) sh_0 rfl dX11_sure_31 ?_
        refine lv_iload_n hx hb dX11_sure_34 rfl (lv_at hl 1 rfl) ?_
        refine wk_rv (wk_callV (rest := []) C0 cl_X11_289 (ok_X9_seek hI isN_17 hw) hP (by decide) sh_60 rfl rfl rfl (Nat.le_of_ble_eq_true rfl) (wk_room (by decide) (by decide)) hl.1 dX11_sure_35 ⟨Nat.le_refl _, Nat.le_refl _⟩) hS (fun s3 H locs hw hP hS => ?_)
        refine lv_aload_n hx hb dX11_sure_38 rfl (lv_at hl 0 rfl) ?_
        refine wk_getR 60 C0 fl_X11_82 hP (by decide) sh_0 rfl dX11_sure_39 ?_
        refine wk_getI C0 fl_X11_296 hP (by decide) sh_60 rfl dX11_sure_42 ?_
        exact hret _ _ _ _ _ _ hw hP hS dX11_sure_45
      · have hw := hw.1 hh
        refine lv_ldc (own := RX11) (v := iI (-1000000003)) hx hb hown (htb _ ki_X11_208) dX11_sure_23 ?_
        exact hret _ _ _ _ _ _ hw hP hS dX11_sure_25
    · have hw := hw.2 hh
      refine lv_ldc (own := RX11) (v := iI (-1000000002)) hx hb hown (htb _ ki_X11_97) dX11_sure_10 ?_
      exact hret _ _ _ _ _ _ hw hP hS dX11_sure_12

set_option maxRecDepth 100000 in
set_option maxHeartbeats 4000000 in
theorem ok_X11_write {l : Launch} {D : va_G} {cA : Nat → ClassId} {ad : Nat → Nat} (hI : wI ad) {a1 : Int} {sg : Mem} {Q : Int → Mem → Prop} (hw : wp_X11_write a1 sg Q) : wMi l D cA ad yX11_write cX11_write 2 (some .int) 2 [.ref (ad 0), .int (iI a1)] sg Q := by
  refine wk_ofI (by decide) hI (Nat.le_of_ble_eq_true rfl) ?_
  intro p e s m below meth c A QQ ls C0 hret hl hP
  have hx := C0.1
  have hb := C0.2.1
  have hown := C0.2.2.2.1
  have htb := C0.2.2.2.2.1
  have hl : lv_has ls 2 [(0, .ref (ad 0)), (1, .int (iI a1))] := hl
  refine (fun (key : ∀ (H : Heap) (locs : List Loc), wP D cA ad sg H → va_S (wA ad) s.heap H locs → W p l e (rmL 2) s m A below meth c H locs 0 0 QQ (F0 m 0 ls [])) => key _ _ hP va_S.rf) ?_
  intro H locs hP hS
  unfold wp_X11_write at hw
  refine lv_iload_n hx hb dX11_write_0 rfl (lv_at hl 1 rfl) ?_
  refine wk_rip (wk_callS (rest := []) C0 cl_X11_195 (ok_X11_isWord hI hw) hP rfl rfl (Nat.le_of_ble_eq_true rfl) (wk_room (by decide) (by decide)) hl.1 dX11_write_1 ⟨Nat.le_refl _, Nat.le_refl _⟩) hS (fun r1 H locs hw hP hS => ?_)
  have q2 := hw.1
  have hw := hw.2
  refine wk_if_ne hx hb q2 (tgt := 10) dX11_write_4 (by decide) (fun hh => ?_) (fun hh => ?_)
  · have hw := hw.2 hh
    refine lv_aload_n hx hb dX11_write_10 rfl (lv_at hl 0 rfl) ?_
    refine wk_getR 63 C0 fl_X11_89 hP (by decide) sh_0 rfl dX11_write_11 ?_
    refine lv_iload_n hx hb dX11_write_14 rfl (lv_at hl 1 rfl) ?_
    refine wk_ri (wk_callV (rest := []) C0 cl_X11_299 (ok_X1_add hI hw) hP (by decide) sh_63 rfl rfl rfl (Nat.le_of_ble_eq_true rfl) (wk_room (by decide) (by decide)) hl.1 dX11_write_15 ⟨Nat.le_refl _, Nat.le_refl _⟩) hS (fun r3 s4 H locs hw hP hS => ?_)
    have q5 := hw.1
    have hw := hw.2
    refine wk_if_eq hx hb q5 (tgt := 31) dX11_write_18 (by decide) (fun hh => ?_) (fun hh => ?_)
    · have hw := hw.1 hh
      refine lv_ldc (own := RX11) (v := iI (-1000000004)) hx hb hown (htb _ ki_X11_105) dX11_write_31 ?_
      exact hret _ _ _ _ _ _ hw hP hS dX11_write_33
    · have hw := hw.2 hh
      refine lv_aload_n hx hb dX11_write_21 rfl (lv_at hl 0 rfl) ?_
      refine wk_getR 63 C0 fl_X11_89 hP (by decide) sh_0 rfl dX11_write_22 ?_
      refine wk_getI C0 fl_X11_160 hP (by decide) sh_63 rfl dX11_write_25 ?_
      refine lv_goto (tgt := 33) hx hb dX11_write_28 (by decide) ?_
      exact hret _ _ _ _ _ _ hw hP hS dX11_write_33
  · have hw := hw.1 hh
    refine lv_ldc (own := RX11) (v := iI (-1000000001)) hx hb hown (htb _ ki_X11_165) dX11_write_7 ?_
    exact hret _ _ _ _ _ _ hw hP hS dX11_write_9

set_option maxRecDepth 100000 in
set_option maxHeartbeats 4000000 in
theorem ok_X11_judge {l : Launch} {D : va_G} {cA : Nat → ClassId} {ad : Nat → Nat} (hI : wI ad) {a1 : Int} {sg : Mem} {Q : Int → Mem → Prop} (hw : wp_X11_judge a1 sg Q) : wMi l D cA ad yX11_judge cX11_judge 3 (some .int) 6 [.ref (ad 0), .int (iI a1)] sg Q := by
  refine wk_ofI (by decide) hI (Nat.le_of_ble_eq_true rfl) ?_
  intro p e s m below meth c A QQ ls C0 hret hl hP
  have hx := C0.1
  have hb := C0.2.1
  have hown := C0.2.2.2.1
  have htb := C0.2.2.2.2.1
  have hl : lv_has ls 3 [(0, .ref (ad 0)), (1, .int (iI a1))] := hl
  refine (fun (key : ∀ (H : Heap) (locs : List Loc), wP D cA ad sg H → va_S (wA ad) s.heap H locs → W p l e (rmL 6) s m A below meth c H locs 0 0 QQ (F0 m 0 ls [])) => key _ _ hP va_S.rf) ?_
  intro H locs hP hS
  unfold wp_X11_judge at hw
  refine lv_iload_n hx hb dX11_judge_0 rfl (lv_at hl 1 rfl) ?_
  have q1 := hw.1
  have hw := hw.2
  obtain ⟨X12, hX12, hw⟩ := hw
  have kX12 : ∀ (H : Heap) (locs : List Loc) (ls : Array Slot), wP D cA ad sg H → va_S (wA ad) s.heap H locs → lv_has ls 3 [(0, .ref (ad 0)), (1, .int (iI a1))] → X12 → W p l e (rmL 6) s m A below meth c H locs 0 0 QQ (F0 m 12 ls []) := by
    intro H locs ls hP hS hl hw
    have hw := hX12 hw
    refine lv_aload_n hx hb dX11_judge_12 rfl (lv_at hl 0 rfl) ?_
    refine wk_getR 17 C0 fl_X11_28 hP (by decide) sh_0 rfl dX11_judge_13 ?_
    refine wk_rip (wk_callV (rest := []) C0 cl_X11_235 (ok_X4_inBed hI isN_17 hw) hP (by decide) sh_17 rfl rfl rfl (Nat.le_of_ble_eq_true rfl) (wk_room (by decide) (by decide)) hl.1 dX11_judge_16 ⟨Nat.le_refl _, Nat.le_refl _⟩) hS (fun r2 H locs hw hP hS => ?_)
    have q3 := hw.1
    have hw := hw.2
    refine wk_if_ne hx hb q3 (tgt := 25) dX11_judge_19 (by decide) (fun hh => ?_) (fun hh => ?_)
    · have hw := hw.2 hh
      refine lv_aload_n hx hb dX11_judge_25 rfl (lv_at hl 0 rfl) ?_
      refine wk_getR 20 C0 fl_X11_32 hP (by decide) sh_0 rfl dX11_judge_26 ?_
      refine lv_aload_n hx hb dX11_judge_29 rfl (lv_at hl 0 rfl) ?_
      refine wk_getR 17 C0 fl_X11_28 hP (by decide) sh_0 rfl dX11_judge_30 ?_
      refine wk_rv (wk_callV (rest := []) C0 cl_X11_225 (ok_X4_become hI isN_20 isN_17 hw) hP (by decide) sh_20 rfl rfl rfl (Nat.le_of_ble_eq_true rfl) (wk_room (by decide) (by decide)) hl.1 dX11_judge_33 ⟨Nat.le_refl _, Nat.le_refl _⟩) hS (fun s4 H locs hw hP hS => ?_)
      refine lv_aload_n hx hb dX11_judge_36 rfl (lv_at hl 0 rfl) ?_
      refine wk_getR 63 C0 fl_X11_89 hP (by decide) sh_0 rfl dX11_judge_37 ?_
      refine lv_aload_n hx hb dX11_judge_40 rfl (lv_at hl 0 rfl) ?_
      refine wk_getR 20 C0 fl_X11_32 hP (by decide) sh_0 rfl dX11_judge_41 ?_
      refine wk_ri (wk_callV (rest := []) C0 cl_X11_300 (ok_X1_sayTo hI isN_20 hw) hP (by decide) sh_63 rfl rfl rfl (Nat.le_of_ble_eq_true rfl) (wk_room (by decide) (by decide)) hl.1 dX11_judge_44 ⟨Nat.le_refl _, Nat.le_refl _⟩) hS (fun r5 s6 H locs hw hP hS => ?_)
      refine lv_istore_n (lv' := [(2, .int (iI r5)), (0, .ref (ad 0)), (1, .int (iI a1))]) hx hb dX11_judge_47 rfl hl (by decide) rfl (fun ls hl => ?_)
      refine lv_iload_n hx hb dX11_judge_48 rfl (lv_at hl 2 rfl) ?_
      refine wk_if_ne hx hb q1 (tgt := 56) dX11_judge_49 (by decide) (fun hh => ?_) (fun hh => ?_)
      · have hw := hw.2 hh
        refine lv_aload_n hx hb dX11_judge_56 rfl (lv_at hl 1 rfl) ?_
        refine wk_getR 20 C0 fl_X11_32 hP (by decide) sh_0 rfl dX11_judge_57 ?_
        refine wk_rip (wk_callV (rest := []) C0 cl_X11_154 (ok_X4_coldest hI isN_20 hw) hP (by decide) sh_20 rfl rfl rfl (Nat.le_of_ble_eq_true rfl) (wk_room (by decide) (by decide)) hl.1 dX11_judge_60 ⟨Nat.le_refl _, Nat.le_refl _⟩) hS (fun r7 H locs hw hP hS => ?_)
        exact hret _ _ _ _ _ _ hw hP hS dX11_judge_63
      · have hw := hw.1 hh
        refine lv_iload_n hx hb dX11_judge_52 rfl (lv_at hl 0 rfl) ?_
        refine lv_goto (tgt := 63) hx hb dX11_judge_53 (by decide) ?_
        exact hret _ _ _ _ _ _ hw hP hS dX11_judge_63
    · have hw := hw.1 hh
      refine lv_ldc (own := RX11) (v := iI (-1000000003)) hx hb hown (htb _ ki_X11_208) dX11_judge_22 ?_
      exact hret _ _ _ _ _ _ hw hP hS dX11_judge_24
  refine wk_if_eq hx hb q1 (tgt := 12) dX11_judge_1 (by decide) (fun hh => ?_) (fun hh => ?_)
  · have hw := hw.1 hh
    exact kX12  _ _ _ hP hS (lv_sub hl [0, 1] rfl) hw
  · have hw := hw.2 hh
    refine lv_iload_n hx hb dX11_judge_4 rfl (lv_at hl 1 rfl) ?_
    refine lv_iconst (v := iI 1) hx hb dX11_judge_5 rfl ?_
    refine wk_icmp_eq hx hb q1 ⟨by decide, by decide⟩ (tgt := 12) dX11_judge_6 (by decide) (fun hh => ?_) (fun hh => ?_)
    · have hw := hw.1 hh
      exact kX12  _ _ _ hP hS (lv_sub hl [0, 1] rfl) hw
    · have hw := hw.2 hh
      refine lv_ldc (own := RX11) (v := iI (-1000000002)) hx hb hown (htb _ ki_X11_97) dX11_judge_9 ?_
      exact hret _ _ _ _ _ _ hw hP hS dX11_judge_11

set_option maxRecDepth 100000 in
set_option maxHeartbeats 4000000 in
theorem ok_X11_tear {l : Launch} {D : va_G} {cA : Nat → ClassId} {ad : Nat → Nat} (hI : wI ad) {sg : Mem} {Q : Int → Mem → Prop} (hw : wp_X11_tear sg Q) : wMi l D cA ad yX11_tear cX11_tear 2 (some .int) 2 [.ref (ad 0)] sg Q := by
  refine wk_ofI (by decide) hI (Nat.le_of_ble_eq_true rfl) ?_
  intro p e s m below meth c A QQ ls C0 hret hl hP
  have hx := C0.1
  have hb := C0.2.1
  have hown := C0.2.2.2.1
  have htb := C0.2.2.2.2.1
  have hl : lv_has ls 2 [(0, .ref (ad 0))] := hl
  refine (fun (key : ∀ (H : Heap) (locs : List Loc), wP D cA ad sg H → va_S (wA ad) s.heap H locs → W p l e (rmL 2) s m A below meth c H locs 0 0 QQ (F0 m 0 ls [])) => key _ _ hP va_S.rf) ?_
  intro H locs hP hS
  unfold wp_X11_tear at hw
  refine lv_aload_n hx hb dX11_tear_0 rfl (lv_at hl 0 rfl) ?_
  refine wk_getR 60 C0 fl_X11_82 hP (by decide) sh_0 rfl dX11_tear_1 ?_
  refine wk_getI C0 fl_X11_157 hP (by decide) sh_60 rfl dX11_tear_4 ?_
  refine lv_aload_n hx hb dX11_tear_7 rfl (lv_at hl 0 rfl) ?_
  refine wk_getR 63 C0 fl_X11_89 hP (by decide) sh_0 rfl dX11_tear_8 ?_
  refine wk_getI C0 fl_X11_160 hP (by decide) sh_63 rfl dX11_tear_11 ?_
  refine wk_iadd hx hb dX11_tear_14 ?_
  refine wk_top (fun x1_1 ex1_1 => ?_)
  have hw := hw x1_1 ex1_1
  refine lv_istore_n (lv' := [(1, .int (iI x1_1)), (0, .ref (ad 0))]) hx hb dX11_tear_15 rfl hl (by decide) rfl (fun ls hl => ?_)
  refine lv_aload_n hx hb dX11_tear_16 rfl (lv_at hl 1 rfl) ?_
  refine wk_getR 60 C0 fl_X11_82 hP (by decide) sh_0 rfl dX11_tear_17 ?_
  refine wk_rv (wk_callV (rest := []) C0 cl_X11_119 (ok_X9_empty hI hw) hP (by decide) sh_60 rfl rfl rfl (Nat.le_of_ble_eq_true rfl) (wk_room (by decide) (by decide)) hl.1 dX11_tear_20 ⟨Nat.le_refl _, Nat.le_refl _⟩) hS (fun s2 H locs hw hP hS => ?_)
  refine lv_aload_n hx hb dX11_tear_23 rfl (lv_at hl 1 rfl) ?_
  refine wk_getR 63 C0 fl_X11_89 hP (by decide) sh_0 rfl dX11_tear_24 ?_
  refine wk_rv (wk_callV (rest := []) C0 cl_X11_122 (ok_X1_empty hI hw) hP (by decide) sh_63 rfl rfl rfl (Nat.le_of_ble_eq_true rfl) (wk_room (by decide) (by decide)) hl.1 dX11_tear_27 ⟨Nat.le_refl _, Nat.le_refl _⟩) hS (fun s3 H locs hw hP hS => ?_)
  refine lv_iload_n hx hb dX11_tear_30 rfl (lv_at hl 0 rfl) ?_
  exact hret _ _ _ _ _ _ hw hP hS dX11_tear_31

set_option maxRecDepth 100000 in
set_option maxHeartbeats 4000000 in
theorem ok_X11_seed {l : Launch} {D : va_G} {cA : Nat → ClassId} {ad : Nat → Nat} (hI : wI ad) {a1 : Int} {sg : Mem} {Q : Int → Mem → Prop} (hw : wp_X11_seed a1 sg Q) : wMi l D cA ad yX11_seed cX11_seed 3 (some .int) 1 [.ref (ad 0), .int (iI a1)] sg Q := by
  refine wk_ofI (by decide) hI (Nat.le_of_ble_eq_true rfl) ?_
  intro p e s m below meth c A QQ ls C0 hret hl hP
  have hx := C0.1
  have hb := C0.2.1
  have hown := C0.2.2.2.1
  have htb := C0.2.2.2.2.1
  have hl : lv_has ls 3 [(0, .ref (ad 0)), (1, .int (iI a1))] := hl
  refine (fun (key : ∀ (H : Heap) (locs : List Loc), wP D cA ad sg H → va_S (wA ad) s.heap H locs → W p l e (rmL 1) s m A below meth c H locs 0 0 QQ (F0 m 0 ls [])) => key _ _ hP va_S.rf) ?_
  intro H locs hP hS
  unfold wp_X11_seed at hw
  refine lv_iload_n hx hb dX11_seed_0 rfl (lv_at hl 1 rfl) ?_
  have q1 := hw.1
  have hw := hw.2
  refine wk_if_ge hx hb q1 (tgt := 7) dX11_seed_1 (by decide) (fun hh => ?_) (fun hh => ?_)
  · have hw := hw.1 hh
    refine lv_aload_n hx hb dX11_seed_7 rfl (lv_at hl 0 rfl) ?_
    refine wk_getI C0 fl_X11_93 hP (by decide) sh_0 rfl dX11_seed_8 ?_
    refine wk_top (fun x2_2 ex2_2 => ?_)
    have hw := hw x2_2 ex2_2
    refine lv_istore_n (lv' := [(2, .int (iI x2_2)), (0, .ref (ad 0)), (1, .int (iI a1))]) hx hb dX11_seed_11 rfl hl (by decide) rfl (fun ls hl => ?_)
    refine lv_aload_n hx hb dX11_seed_12 rfl (lv_at hl 1 rfl) ?_
    refine lv_iload_n hx hb dX11_seed_13 rfl (lv_at hl 2 rfl) ?_
    refine wk_putI C0 fl_X11_93 rfl rfl hP hS (by decide) sh_0 rfl dX11_seed_14 (fun s3 H locs es3 hP hS => ?_)
    have hw := hw s3 es3
    refine lv_iload_n hx hb dX11_seed_17 rfl (lv_at hl 0 rfl) ?_
    exact hret _ _ _ _ _ _ hw hP hS dX11_seed_18
  · have hw := hw.2 hh
    refine lv_ldc (own := RX11) (v := iI (-1000000002)) hx hb hown (htb _ ki_X11_97) dX11_seed_4 ?_
    exact hret _ _ _ _ _ _ hw hP hS dX11_seed_6

set_option maxRecDepth 100000 in
set_option maxHeartbeats 4000000 in
theorem ok_X11_keep {l : Launch} {D : va_G} {cA : Nat → ClassId} {ad : Nat → Nat} (hI : wI ad) {a1 : Int} {sg : Mem} {Q : Int → Mem → Prop} (hw : wp_X11_keep a1 sg Q) : wMi l D cA ad yX11_keep cX11_keep 2 (some .int) 3 [.ref (ad 0), .int (iI a1)] sg Q := by
  refine wk_ofI (by decide) hI (Nat.le_of_ble_eq_true rfl) ?_
  intro p e s m below meth c A QQ ls C0 hret hl hP
  have hx := C0.1
  have hb := C0.2.1
  have hown := C0.2.2.2.1
  have htb := C0.2.2.2.2.1
  have hl : lv_has ls 2 [(0, .ref (ad 0)), (1, .int (iI a1))] := hl
  refine (fun (key : ∀ (H : Heap) (locs : List Loc), wP D cA ad sg H → va_S (wA ad) s.heap H locs → W p l e (rmL 3) s m A below meth c H locs 0 0 QQ (F0 m 0 ls [])) => key _ _ hP va_S.rf) ?_
  intro H locs hP hS
  unfold wp_X11_keep at hw
  refine lv_iload_n hx hb dX11_keep_0 rfl (lv_at hl 1 rfl) ?_
  have q1 := hw.1
  have hw := hw.2
  refine wk_if_lt hx hb q1 (tgt := 9) dX11_keep_1 (by decide) (fun hh => ?_) (fun hh => ?_)
  · have hw := hw.1 hh
    refine lv_ldc (own := RX11) (v := iI (-1000000001)) hx hb hown (htb _ ki_X11_165) dX11_keep_9 ?_
    exact hret _ _ _ _ _ _ hw hP hS dX11_keep_11
  · have hw := hw.2 hh
    refine lv_iload_n hx hb dX11_keep_4 rfl (lv_at hl 1 rfl) ?_
    refine lv_iconst (v := iI 2) hx hb dX11_keep_5 rfl ?_
    refine wk_icmp_lt hx hb q1 ⟨by decide, by decide⟩ (tgt := 12) dX11_keep_6 (by decide) (fun hh => ?_) (fun hh => ?_)
    · have hw := hw.1 hh
      refine lv_aload_n hx hb dX11_keep_12 rfl (lv_at hl 0 rfl) ?_
      refine wk_getR 26 C0 fl_X11_44 hP (by decide) sh_0 rfl dX11_keep_13 ?_
      refine lv_iload_n hx hb dX11_keep_16 rfl (lv_at hl 1 rfl) ?_
      have q2 := hw.1
      have hw := hw.2
      refine wk_aaldI C0 hP q2.1 q2.2 dX11_keep_17 ?_
      refine lv_aload_n hx hb dX11_keep_18 rfl (lv_at hl 0 rfl) ?_
      refine wk_getR 17 C0 fl_X11_28 hP (by decide) sh_0 rfl dX11_keep_19 ?_
      refine lv_aload_n hx hb dX11_keep_22 rfl (lv_at hl 0 rfl) ?_
      refine wk_getI C0 fl_X11_93 hP (by decide) sh_0 rfl dX11_keep_23 ?_
      refine wk_rv (wk_callV (rest := []) C0 cl_X11_304 (ok_X2_take hI (isG_i q2.1 q2.2) isN_17 hw) hP (isG_sh (isG_i q2.1 q2.2)).1 (isG_sh (isG_i q2.1 q2.2)).2 rfl rfl rfl (Nat.le_of_ble_eq_true rfl) (wk_room (by decide) (by decide)) hl.1 dX11_keep_26 ⟨Nat.le_refl _, Nat.le_refl _⟩) hS (fun s3 H locs hw hP hS => ?_)
      refine lv_aload_n hx hb dX11_keep_29 rfl (lv_at hl 0 rfl) ?_
      refine wk_getR 23 C0 fl_X11_38 hP (by decide) sh_0 rfl dX11_keep_30 ?_
      refine wk_rv (wk_callV (rest := []) C0 cl_X11_123 (ok_X5_forget hI hw) hP (by decide) sh_23 rfl rfl rfl (Nat.le_of_ble_eq_true rfl) (wk_room (by decide) (by decide)) hl.1 dX11_keep_33 ⟨Nat.le_refl _, Nat.le_refl _⟩) hS (fun s4 H locs hw hP hS => ?_)
      refine lv_iconst (v := iI 1) hx hb dX11_keep_36 rfl ?_
      exact hret _ _ _ _ _ _ hw hP hS dX11_keep_37
    · have hw := hw.2 hh
      refine lv_ldc (own := RX11) (v := iI (-1000000001)) hx hb hown (htb _ ki_X11_165) dX11_keep_9 ?_
      exact hret _ _ _ _ _ _ hw hP hS dX11_keep_11

set_option maxRecDepth 100000 in
set_option maxHeartbeats 4000000 in
theorem ok_X11_goBack {l : Launch} {D : va_G} {cA : Nat → ClassId} {ad : Nat → Nat} (hI : wI ad) {a1 : Int} {sg : Mem} {Q : Int → Mem → Prop} (hw : wp_X11_goBack a1 sg Q) : wMi l D cA ad yX11_goBack cX11_goBack 3 (some .int) 2 [.ref (ad 0), .int (iI a1)] sg Q := by
  refine wk_ofI (by decide) hI (Nat.le_of_ble_eq_true rfl) ?_
  intro p e s m below meth c A QQ ls C0 hret hl hP
  have hx := C0.1
  have hb := C0.2.1
  have hown := C0.2.2.2.1
  have htb := C0.2.2.2.2.1
  have hl : lv_has ls 3 [(0, .ref (ad 0)), (1, .int (iI a1))] := hl
  refine (fun (key : ∀ (H : Heap) (locs : List Loc), wP D cA ad sg H → va_S (wA ad) s.heap H locs → W p l e (rmL 2) s m A below meth c H locs 0 0 QQ (F0 m 0 ls [])) => key _ _ hP va_S.rf) ?_
  intro H locs hP hS
  unfold wp_X11_goBack at hw
  refine lv_iload_n hx hb dX11_goBack_0 rfl (lv_at hl 1 rfl) ?_
  have q1 := hw.1
  have hw := hw.2
  refine wk_if_lt hx hb q1 (tgt := 9) dX11_goBack_1 (by decide) (fun hh => ?_) (fun hh => ?_)
  · have hw := hw.1 hh
    refine lv_ldc (own := RX11) (v := iI (-1000000001)) hx hb hown (htb _ ki_X11_165) dX11_goBack_9 ?_
    exact hret _ _ _ _ _ _ hw hP hS dX11_goBack_11
  · have hw := hw.2 hh
    refine lv_iload_n hx hb dX11_goBack_4 rfl (lv_at hl 1 rfl) ?_
    refine lv_iconst (v := iI 2) hx hb dX11_goBack_5 rfl ?_
    refine wk_icmp_lt hx hb q1 ⟨by decide, by decide⟩ (tgt := 12) dX11_goBack_6 (by decide) (fun hh => ?_) (fun hh => ?_)
    · have hw := hw.1 hh
      refine lv_aload_n hx hb dX11_goBack_12 rfl (lv_at hl 0 rfl) ?_
      refine wk_getR 26 C0 fl_X11_44 hP (by decide) sh_0 rfl dX11_goBack_13 ?_
      refine lv_iload_n hx hb dX11_goBack_16 rfl (lv_at hl 1 rfl) ?_
      have q2 := hw.1
      have hw := hw.2
      refine wk_aaldI C0 hP q2.1 q2.2 dX11_goBack_17 ?_
      refine lv_astore_n (lv' := [(2, .ref (ad (27 + a1.toNat))), (0, .ref (ad 0)), (1, .int (iI a1))]) hx hb dX11_goBack_18 rfl hl (by decide) rfl (fun ls hl => ?_)
      refine lv_aload_n hx hb dX11_goBack_19 rfl (lv_at hl 0 rfl) ?_
      refine wk_getI C0 fl_X11_126 hP (isG_sh (isG_i q2.1 q2.2)).1 (isG_sh (isG_i q2.1 q2.2)).2 rfl dX11_goBack_20 ?_
      have q3 := hw.1
      have hw := hw.2
      refine wk_if_ne hx hb q3 (tgt := 29) dX11_goBack_23 (by decide) (fun hh => ?_) (fun hh => ?_)
      · have hw := hw.2 hh
        refine lv_aload_n hx hb dX11_goBack_29 rfl (lv_at hl 1 rfl) ?_
        refine wk_getR 17 C0 fl_X11_28 hP (by decide) sh_0 rfl dX11_goBack_30 ?_
        refine lv_aload_n hx hb dX11_goBack_33 rfl (lv_at hl 0 rfl) ?_
        refine wk_getJ C0 fl_X11_307 hP (isG_sh (isG_i q2.1 q2.2)).1 (isG_sh (isG_i q2.1 q2.2)).2 rfl dX11_goBack_34 ?_
        refine lv_aload_n hx hb dX11_goBack_37 rfl (lv_at hl 0 rfl) ?_
        refine wk_getI C0 fl_X11_311 hP (isG_sh (isG_i q2.1 q2.2)).1 (isG_sh (isG_i q2.1 q2.2)).2 rfl dX11_goBack_38 ?_
        refine wk_rv (wk_callV (rest := []) C0 cl_X11_312 (ok_X4_setCode hI isN_17 hw) hP (by decide) sh_17 rfl rfl rfl (Nat.le_of_ble_eq_true rfl) (wk_room (by decide) (by decide)) hl.1 dX11_goBack_41 ⟨Nat.le_refl _, Nat.le_refl _⟩) hS (fun s4 H locs hw hP hS => ?_)
        refine lv_aload_n hx hb dX11_goBack_44 rfl (lv_at hl 1 rfl) ?_
        refine lv_aload_n hx hb dX11_goBack_45 rfl (lv_at hl 0 rfl) ?_
        refine wk_getI C0 fl_X11_316 hP (isG_sh (isG_i q2.1 q2.2)).1 (isG_sh (isG_i q2.1 q2.2)).2 rfl dX11_goBack_46 ?_
        refine wk_putI C0 fl_X11_93 rfl rfl hP hS (by decide) sh_0 rfl dX11_goBack_49 (fun s5 H locs es5 hP hS => ?_)
        have hw := hw s5 es5
        refine lv_aload_n hx hb dX11_goBack_52 rfl (lv_at hl 1 rfl) ?_
        refine wk_getR 23 C0 fl_X11_38 hP (by decide) sh_0 rfl dX11_goBack_53 ?_
        refine wk_rv (wk_callV (rest := []) C0 cl_X11_123 (ok_X5_forget hI hw) hP (by decide) sh_23 rfl rfl rfl (Nat.le_of_ble_eq_true rfl) (wk_room (by decide) (by decide)) hl.1 dX11_goBack_56 ⟨Nat.le_refl _, Nat.le_refl _⟩) hS (fun s6 H locs hw hP hS => ?_)
        refine lv_iconst (v := iI 1) hx hb dX11_goBack_59 rfl ?_
        exact hret _ _ _ _ _ _ hw hP hS dX11_goBack_60
      · have hw := hw.1 hh
        refine lv_ldc (own := RX11) (v := iI (-1000000003)) hx hb hown (htb _ ki_X11_208) dX11_goBack_26 ?_
        exact hret _ _ _ _ _ _ hw hP hS dX11_goBack_28
    · have hw := hw.2 hh
      refine lv_ldc (own := RX11) (v := iI (-1000000001)) hx hb hown (htb _ ki_X11_165) dX11_goBack_9 ?_
      exact hret _ _ _ _ _ _ hw hP hS dX11_goBack_11
