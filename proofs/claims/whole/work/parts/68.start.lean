/-! ===== the law's loop, its entry ===== -/
set_option maxHeartbeats 4000000 in
theorem law_loop {p : Program} {l : Launch} {e : Env} {s : State} {m : MethodId} {below : List Frame} {meth : Method} {c : Code} {D : va_G} {cA : Nat → ClassId} {ad : Nat → Nat} {b L : Nat} {xs : Nat → Int32} {cells slots : Nat} (C0 : kC p s m #[Value.ref b] c code 4 RL D cA) (hr : meth.sig.returnType = ret) (hlocks : meth.locks = false) (hI : wI ad) (hX : va_X b L xs s s.heap) (hbl : b < s.heap.size) (hL : L ≤ 192) (hcs : cells ≤ room_1.cells ∧ slots ≤ room_1.slots) (hcs2 : cells ≤ 600000 ∧ slots ≤ 7302250) :
    ∀ (n : Nat) (i : Int) (σ : Mem) (H : Heap) (locs : List Loc) (ls : Array Slot), 0 ≤ i → i ≤ (L : Int) → ((L : Int) - i).toNat < n → Rel σ → kW D (fun q => s.heap.size ≤ q) s.heap H locs (wl cA ad σ) → lv_has ls 4 [(0, .ref b), (1, .ref (ad 0)), (2, .ref (ad 65)), (3, .int (iI i))] → W p l e room_1 s m #[Value.ref b] below meth c H locs cells slots (lw_Z below #[Value.ref b] s) (F0 m 18 ls [])
  | 0, i, σ, H, locs, ls, h0, h1, hn, hrel, w, hl => absurd hn (by omega)
  | n + 1, i, σ, H, locs, ls, h0, h1, hn, hrel, w, hl => by
    have hx := C0.1
    have hb := C0.2.1
    refine lv_iload_n hx hb dL_law_18 rfl (lv_at hl 3 rfl) ?_
    refine lv_aload_n hx hb dL_law_19 rfl (lv_at hl 0 rfl) ?_
    refine va_slen hx hb hX hbl (by show ¬ s.heap.size ≤ b; omega) w.2.2.1 dL_law_20 ?_
    rw [← Int32.ofInt_eq_ofNat]
    show W p l e room_1 s m #[Value.ref b] below meth c H locs cells slots (lw_Z below #[Value.ref b] s) (F0 m 21 ls [.int (iI (L : Int)), .int (iI i)])
    refine lv_iconst (v := iI 3) hx hb dL_law_21 rfl ?_
    refine wk_isub hx hb dL_law_22 ?_
    refine wk_icmp_gt hx hb (x := i) (y := (L : Int) - 3) (inR_s (by omega) (by omega)) (inR_s (by omega) (by omega)) (tgt := 914) dL_law_23 (by decide) (fun hh => ?_) (fun hh => ?_)
    · refine lv_iconst (v := 1) hx hb dL_law_914 rfl ?_
      refine va_forget w.2.2.1.2.2 ?_
      refine W.widen (k := 600000) (n := 7302250) hcs2.1 hcs2.2 ?_
      exact lw_ret hx hb hr hlocks dL_law_915
    · refine lv_aload_n hx hb dL_law_26 rfl (lv_at hl 0 rfl) ?_
      refine lv_iload_n hx hb dL_law_27 rfl (lv_at hl 3 rfl) ?_
      refine kk_sld C0 hX hbl (by show ¬ s.heap.size ≤ b; omega) w h0 (by omega) hL dL_law_28 ?_
      refine lv_bipush (v := iI 31) hx hb dL_law_29 (by decide +kernel) ?_
      refine wk_iand hx hb dL_law_31 ?_
      refine law_sw (inR_of _) C0 hI hX hbl (by show ¬ s.heap.size ≤ b; omega) w hrel h0 (by omega) hL hl hcs (fun σ' H' locs' hrel' w' => ?_)
      refine wk_iinc (lv' := fun z9 => [(3, .int (iI z9)), (0, .ref b), (1, .ref (ad 0)), (2, .ref (ad 65))]) hx hb dL_law_908 hl (k := 3) rfl (by decide) (fun _ => rfl) (fun z9 ls' ez hl' => ?_)
      refine lv_goto (tgt := 18) hx hb dL_law_911 (by decide) ?_
      subst ez
      exact law_loop C0 hr hlocks hI hX hbl hL hcs hcs2 n (i + 3) σ' H' locs' ls' (by omega) (by omega) (by omega) hrel' w' (lv_sub hl' [1, 2, 3, 0] rfl)
theorem kn_arr {s : State} {args : Array Value} {ty : FieldType} (h : (Cond.arrayClass ty).before args s = true) (hne : ∀ C, ty ≠ .object C) : ∃ cB : ClassId, ArrOfT s cB ty ∧ va_RA s cB ty := by
  obtain ⟨cB, k, comp, h1, h2, h3⟩ := Cond.arrayClass_spec h
  refine ⟨cB, fun N z => ⟨fun k h => (by cases h), k, h2, comp, h3⟩, ?_⟩
  cases ty with
  | object C => exact absurd rfl (hne C)
  | _ => exact h1
theorem kn_arrO {s : State} {args : Array Value} {C : String} (h : (Cond.arrayOver (.object C)).before args s = true) : ∃ cB : ClassId, ArrOfT s cB (.object C) ∧ va_RA s cB (.object C) := by
  obtain ⟨comp, cB, k, h1, h2, h3, h4, h5⟩ := Cond.arrayOver_spec h
  exact ⟨cB, fun N z => ⟨fun k h => (by cases h), k, h3, comp, h4⟩, k, comp, h3, h4, h1, h5⟩
theorem kE_start {s : State} {b : Nat} (hts : ∀ w ∈ lw_tbl, w.before #[Value.ref b] s = true) : ∃ (D : va_G) (cA : Nat → ClassId), kE D cA s := by
  have htb : ∀ w ∈ tb, w.before #[Value.ref b] s = true := fun w hw => hts w (List.mem_filter.mp hw).1
  obtain ⟨a0, x0, y0⟩ := kn_arr (htb _ ar_int) (fun C h => by cases h)
  obtain ⟨a1, x1, y1⟩ := kn_arr (htb _ ar_long) (fun C h => by cases h)
  obtain ⟨a2, x2, y2⟩ := kn_arrO (hts _ ao_X2)
  obtain ⟨a3, x3, y3⟩ := kn_arrO (hts _ ao_X4)
  obtain ⟨d0, j0, n0⟩ := u_known (C := RX0) (T := TX0) (N := 10) htb in_X0 (htb _ it_X0)
  obtain ⟨d1, j1, n1⟩ := u_known (C := RX1) (T := TX1) (N := 2) htb in_X1 (htb _ it_X1)
  obtain ⟨d2, j2, n2⟩ := u_known (C := RX2) (T := TX2) (N := 4) htb in_X2 (htb _ it_X2)
  obtain ⟨d3, j3, n3⟩ := u_known (C := RX3) (T := TX3) (N := 9) htb in_X3 (htb _ it_X3)
  obtain ⟨d4, j4, n4⟩ := u_known (C := RX4) (T := TX4) (N := 4) htb in_X4 (htb _ it_X4)
  obtain ⟨d5, j5, n5⟩ := u_known (C := RX5) (T := TX5) (N := 4) htb in_X5 (htb _ it_X5)
  obtain ⟨d6, j6, n6⟩ := u_known (C := RX6) (T := TX6) (N := 9) htb in_X6 (htb _ it_X6)
  obtain ⟨d7, j7, n7⟩ := u_known (C := RX7) (T := TX7) (N := 3) htb in_X7 (htb _ it_X7)
  obtain ⟨d8, j8, n8⟩ := u_known (C := RX8) (T := TX8) (N := 4) htb in_X8 (htb _ it_X8)
  obtain ⟨d9, j9, n9⟩ := u_known (C := RX9) (T := TX9) (N := 6) htb in_X9 (htb _ it_X9)
  obtain ⟨d10, j10, n10⟩ := u_known (C := RX10) (T := TX10) (N := 5) htb in_X10 (htb _ it_X10)
  obtain ⟨d11, j11, n11⟩ := u_known (C := RX11) (T := TX11) (N := 13) htb in_X11 (htb _ it_X11)
  obtain ⟨d12, j12, n12⟩ := u_known (C := RX12) (T := TX12) (N := 27) htb in_X12 (htb _ it_X12)
  refine ⟨(fun k => [d0, d1, d2, d3, d4, d5, d6, d7, d8, d9, d10, d11, d12].getD k d0, fun k => [j0, j1, j2, j3, j4, j5, j6, j7, j8, j9, j10, j11, j12].getD k j0), fun k => [a0, a1, a2, a3].getD k a0, ⟨?_, ?_⟩, ⟨va_Nw.of rfl (hts _ nl_X7_32), va_Nw.of rfl (hts _ nl_X9_49)⟩, va_Nw.of rfl (hts _ nl_X11_17), va_Nw.of rfl (hts _ nl_X11_37), va_Nw.of rfl (hts _ nl_X11_48), va_Nw.of rfl (hts _ nl_X11_81), va_Nw.of rfl (hts _ nl_X11_88), va_AO.of (hts _ ao_X2), va_AO.of (hts _ ao_X4)⟩
  · intro k q hq
    match k, hq with
    | 0, hq => cases hq; exact n0
    | 1, hq => cases hq; exact n1
    | 2, hq => cases hq; exact n2
    | 3, hq => cases hq; exact n3
    | 4, hq => cases hq; exact n4
    | 5, hq => cases hq; exact n5
    | 6, hq => cases hq; exact n6
    | 7, hq => cases hq; exact n7
    | 8, hq => cases hq; exact n8
    | 9, hq => cases hq; exact n9
    | 10, hq => cases hq; exact n10
    | 11, hq => cases hq; exact n11
    | 12, hq => cases hq; exact n12
    | k + 13, hq => simp [wcl] at hq
  · intro k q hq
    match k, hq with
    | 0, hq => cases hq; exact ⟨x0, y0⟩
    | 1, hq => cases hq; exact ⟨x1, y1⟩
    | 2, hq => cases hq; exact ⟨x2, y2⟩
    | 3, hq => cases hq; exact ⟨x3, y3⟩
    | k + 4, hq => simp [wtys] at hq
theorem kw_rot {D : va_G} {A : Nat → Prop} {H0 H : Heap} {locs : List Loc} {x : Nat × va_E} {bag : va_W} (w : kW D A H0 H locs (bag ++ [x])) : kW D A H0 H locs (x :: bag) := by
  obtain ⟨hP, hD, hS, hA⟩ := w
  have hx : (bag ++ [x])[bag.length + 0]? = some x := app_get_r rfl
  have key : ∀ (k : Nat) (q : Nat × va_E), (x :: bag)[k]? = some q → ∃ i, (bag ++ [x])[i]? = some q ∧ ((k = 0 ∧ i = bag.length) ∨ (k = i + 1 ∧ i < bag.length)) := by
    intro k q hk
    cases k with
    | zero => exact ⟨bag.length, by rw [List.getElem?_cons_zero] at hk; rw [← hk]; exact hx, Or.inl ⟨rfl, rfl⟩⟩
    | succ k =>
      rw [List.getElem?_cons_succ] at hk
      exact ⟨k, app_get_l hk, Or.inr ⟨rfl, (List.getElem?_eq_some_iff.mp hk).1⟩⟩
  refine ⟨fun k q hk => ?_, ⟨fun i j y z hy hz e => ?_, fun k q hk => ?_⟩, hS, hA⟩
  · obtain ⟨i, hi, _⟩ := key k q hk
    exact hP i q hi
  · obtain ⟨i', hi, ci⟩ := key i y hy
    obtain ⟨j', hj, cj⟩ := key j z hz
    have := hD.1 i' j' y z hi hj e
    omega
  · obtain ⟨i, hi, _⟩ := key k q hk
    exact hD.2 i q hi
set_option maxHeartbeats 4000000 in
set_option maxRecDepth 100000 in
/-- from the entry, for every script of at most 192 ints, the law comes to its end with true -/
theorem whole_start {p : Program} {e : Env} {s : State} {m : MethodId} {below : List Frame} {meth : Method} {c : Code} (l : Launch) (hflags : l.flags = flags0) {b L : Nat} {xs : Nat → Int32} (hL : L ≤ 192) (C0 : lw_At p s m meth c b L xs) : W p l e room_1 s m #[Value.ref b] below meth c s.heap [] 0 0 (lw_Z below #[Value.ref b] s) (entryFrame m ([Value.ref b] : List Value).toArray 4) := by
  obtain ⟨hx, hb, hr, hml, hown, hts, hX, hbl, hlocks, hgv⟩ := C0
  obtain ⟨D, cA, hE⟩ := kE_start hts
  have C0 : kC p s m #[Value.ref b] c code 4 RL D cA := ⟨hx, hb, hml, hown, fun w hw => hts w (List.mem_filter.mp hw).1, hE⟩
  have hl := lv_entry ([.ref b]) (n := 4) (Nat.le_of_ble_eq_true rfl)
  rw [lg_entry_eq]
  generalize (lg_sl ([.ref b]) ++ List.replicate (4 - (lg_sl ([.ref b])).length) Slot.unset).toArray = ls at hl ⊢
  have hl : lv_has ls 4 [(0, .ref b)] := hl
  have w : kW D (fun q => s.heap.size ≤ q) s.heap s.heap [] [] := ⟨fun k q h => by simp at h, ⟨fun i j p q h => by simp at h, fun k q h => by simp at h⟩, va_S.rf, fun _ h => h⟩
  refine kk_new (ci := 11) (fs := [.null, .null, .null, .null, .null, .null, .null, .null, .null, .null, .null, .null, .int (iI 0)]) C0 w rfl in_X11 tyX11_ok ck_L_7 it_X11 ini_X11 df_X11 (Nat.le_of_ble_eq_true rfl) (Nat.le_of_ble_eq_true rfl) dL_law_0 (fun qx H w => ?_)
  have w : kW D (fun q => s.heap.size ≤ q) s.heap H _ [(qx, .inr (11, [.null, .null, .null, .null, .null, .null, .null, .null, .null, .null, .null, .null, .int (iI 0)]))] := w
  refine lv_dup hx hb dL_law_3 rfl ?_
  refine kk_callI (n := 0) (wr := []) (wc := [(qx, .inr (11, [.null, .null, .null, .null, .null, .null, .null, .null, .null, .null, .null, .null, .int (iI 0)]))]) (As := []) (rest := [.ref qx]) C0 kn_X11 lk_L_9 cd_X11_init im_X11_init ini_X11 (by decide +kernel) rfl w rfl rfl (Nat.le_of_ble_eq_true rfl) ⟨(Nat.le_of_ble_eq_true rfl), (Nat.le_of_ble_eq_true rfl)⟩ hl.1 dL_law_4 ⟨(Nat.le_of_ble_eq_true rfl), (Nat.le_of_ble_eq_true rfl)⟩ (fun bag H locs hw w => ?_)
  obtain ⟨ad0, σ0, f26, f30, eq0, h26, h30, hin, hbag⟩ := hw
  have hbg : bagOf cA (ad0 0) ad0 σ0 bag := ⟨f26, f30, rfl, h26, h30, hbag⟩
  have w : kW D (fun q => s.heap.size ≤ q) s.heap H locs bag := w
  refine lv_astore_n (lv' := [(1, .ref qx), (0, .ref b)]) hx hb dL_law_7 rfl hl (by decide) rfl (fun ls hl => ?_)
  refine kk_new (ci := 12) (fs := [.null, .null, .null, .int (iI 0), .int (iI 0), .int (iI 0), .int (iI 0), .int (iI 0), .null, .int (iI 0), .null, .int (iI 0), .null, .null, .null, .null, .null, .null, .int (iI 0), .null, .null, .int (iI 0), .null, .int (iI 0), .int (iI 0), .int (iI 0), .null]) C0 w rfl in_X12 tyX12_ok ck_L_10 it_X12 ini_X12 df_X12 (Nat.le_of_ble_eq_true rfl) (Nat.le_of_ble_eq_true rfl) dL_law_8 (fun qm H w => ?_)
  have w := kw_rot w
  refine lv_dup hx hb dL_law_11 rfl ?_
  refine kk_callI (n := 0) (wr := []) (wc := (qm, .inr (12, [.null, .null, .null, .int (iI 0), .int (iI 0), .int (iI 0), .int (iI 0), .int (iI 0), .null, .int (iI 0), .null, .int (iI 0), .null, .null, .null, .null, .null, .null, .int (iI 0), .null, .null, .int (iI 0), .null, .int (iI 0), .int (iI 0), .int (iI 0), .null])) :: bag) (As := []) (rest := [.ref qm]) C0 (kn_X12 hbg hin) lk_L_12 cd_X12_init im_X12_init ini_X12 (by decide +kernel) rfl w rfl rfl (Nat.le_of_ble_eq_true rfl) ⟨(Nat.le_of_ble_eq_true rfl), (Nat.le_of_ble_eq_true rfl)⟩ hl.1 dL_law_12 ⟨(Nat.le_of_ble_eq_true rfl), (Nat.le_of_ble_eq_true rfl)⟩ (fun w1 H locs hw w => ?_)
  obtain ⟨ad, σ, e0, e65, hrel, hI, hw1⟩ := hw
  have w : kW D (fun q => s.heap.size ≤ q) s.heap H locs (wl cA ad σ) := by rw [← hw1]; exact w
  refine lv_astore_n (lv' := [(2, .ref qm), (1, .ref qx), (0, .ref b)]) hx hb dL_law_15 rfl hl (by decide) rfl (fun ls hl => ?_)
  refine lv_iconst (v := iI 0) hx hb dL_law_16 rfl ?_
  refine lv_istore_n (lv' := [(3, .int (iI 0)), (2, .ref qm), (1, .ref qx), (0, .ref b)]) hx hb dL_law_17 rfl hl (by decide) rfl (fun ls hl => ?_)
  have hl : lv_has ls 4 [(0, .ref b), (1, .ref (ad 0)), (2, .ref (ad 65)), (3, .int (iI 0))] := by rw [e0, eq0, e65]; exact lv_sub hl [3, 2, 1, 0] rfl
  exact law_loop C0 hr hlocks hI hX hbl hL ⟨(Nat.le_of_ble_eq_true rfl), (Nat.le_of_ble_eq_true rfl)⟩ ⟨(Nat.le_of_ble_eq_true rfl), (Nat.le_of_ble_eq_true rfl)⟩ (L + 1) 0 σ H locs ls (by omega) (by omega) (by omega) hrel w hl
