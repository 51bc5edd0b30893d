theorem oi_im : Cond.instanceMethod objectInit ∈ tb := tb_in 75 (by decide +kernel) rfl
theorem oi_cd : Cond.code objectInit ⟨#[0xb1]⟩ 1 none ∈ tb := tb_in 76 (by decide +kernel) rfl
theorem ck_L_7 : Cond.classLink RL 7 RX11 ∈ tb := tb_in 69 (by decide +kernel) rfl
theorem it_X11 : Cond.instantiable RX11 13 ∈ tb := tb_in 70 (by decide +kernel) rfl
theorem ck_X11_7 : Cond.classLink RX11 7 RX0 ∈ tb := tb_in 77 (by decide +kernel) rfl
theorem it_X0 : Cond.instantiable RX0 10 ∈ tb := tb_in 78 (by decide +kernel) rfl
theorem ar_int : Cond.arrayClass .int ∈ tb := tb_in 144 (by decide +kernel) rfl
theorem ck_X11_10 : Cond.classLink RX11 10 RX4 ∈ tb := tb_in 145 (by decide +kernel) rfl
theorem it_X4 : Cond.instantiable RX4 4 ∈ tb := tb_in 146 (by decide +kernel) rfl
theorem ck_X11_15 : Cond.classLink RX11 15 RX6 ∈ tb := tb_in 175 (by decide +kernel) rfl
theorem it_X6 : Cond.instantiable RX6 9 ∈ tb := tb_in 176 (by decide +kernel) rfl
theorem ck_X6_15 : Cond.classLink RX6 15 RX0 ∈ tb := tb_in 181 (by decide +kernel) rfl
theorem ck_X11_35 : Cond.classLink RX11 35 RX5 ∈ tb := tb_in 214 (by decide +kernel) rfl
theorem it_X5 : Cond.instantiable RX5 4 ∈ tb := tb_in 215 (by decide +kernel) rfl
theorem ar_long : Cond.arrayClass .long ∈ tb := tb_in 234 (by decide +kernel) rfl
theorem ck_X11_42 : Cond.classLink RX11 42 RX2 ∈ tb := tb_in 235 (by decide +kernel) rfl
theorem it_X2 : Cond.instantiable RX2 4 ∈ tb := tb_in 237 (by decide +kernel) rfl
theorem ck_X11_49 : Cond.classLink RX11 49 RX10 ∈ tb := tb_in 259 (by decide +kernel) rfl
theorem it_X10 : Cond.instantiable RX10 5 ∈ tb := tb_in 260 (by decide +kernel) rfl
theorem ck_X10_9 : Cond.classLink RX10 9 RX4 ∈ tb := tb_in 265 (by decide +kernel) rfl
theorem ck_X11_56 : Cond.classLink RX11 56 RX7 ∈ tb := tb_in 286 (by decide +kernel) rfl
theorem it_X7 : Cond.instantiable RX7 3 ∈ tb := tb_in 287 (by decide +kernel) rfl
theorem ck_X11_65 : Cond.classLink RX11 65 RX3 ∈ tb := tb_in 304 (by decide +kernel) rfl
theorem it_X3 : Cond.instantiable RX3 9 ∈ tb := tb_in 305 (by decide +kernel) rfl
theorem ck_X11_72 : Cond.classLink RX11 72 RX8 ∈ tb := tb_in 343 (by decide +kernel) rfl
theorem it_X8 : Cond.instantiable RX8 4 ∈ tb := tb_in 344 (by decide +kernel) rfl
theorem ck_X11_79 : Cond.classLink RX11 79 RX9 ∈ tb := tb_in 363 (by decide +kernel) rfl
theorem it_X9 : Cond.instantiable RX9 6 ∈ tb := tb_in 364 (by decide +kernel) rfl
theorem ck_X11_86 : Cond.classLink RX11 86 RX1 ∈ tb := tb_in 392 (by decide +kernel) rfl
theorem it_X1 : Cond.instantiable RX1 2 ∈ tb := tb_in 393 (by decide +kernel) rfl
theorem ck_L_10 : Cond.classLink RL 10 RX12 ∈ tb := tb_in 894 (by decide +kernel) rfl
theorem it_X12 : Cond.instantiable RX12 27 ∈ tb := tb_in 895 (by decide +kernel) rfl
theorem lk_L_9 : Cond.methodLink RL 9 yX11_init ∈ tb := tb_in 71 (by decide +kernel) rfl
theorem oi_X11 : Cond.methodLink RX11 1 objectInit ∈ tb := tb_in 74 (by decide +kernel) rfl
theorem lk_X11_9 : Cond.methodLink RX11 9 yX0_init ∈ tb := tb_in 79 (by decide +kernel) rfl
theorem oi_X0 : Cond.methodLink RX0 3 objectInit ∈ tb := tb_in 82 (by decide +kernel) rfl
theorem lk_X11_12 : Cond.methodLink RX11 12 yX4_init ∈ tb := tb_in 147 (by decide +kernel) rfl
theorem oi_X4 : Cond.methodLink RX4 3 objectInit ∈ tb := tb_in 150 (by decide +kernel) rfl
theorem oi_X6 : Cond.methodLink RX6 3 objectInit ∈ tb := tb_in 180 (by decide +kernel) rfl
theorem lk_X6_17 : Cond.methodLink RX6 17 yX0_init ∈ tb := tb_in 182 (by decide +kernel) rfl
theorem oi_X5 : Cond.methodLink RX5 3 objectInit ∈ tb := tb_in 219 (by decide +kernel) rfl
theorem oi_X2 : Cond.methodLink RX2 1 objectInit ∈ tb := tb_in 241 (by decide +kernel) rfl
theorem lk_X11_51 : Cond.methodLink RX11 51 yX10_init ∈ tb := tb_in 261 (by decide +kernel) rfl
theorem oi_X10 : Cond.methodLink RX10 3 objectInit ∈ tb := tb_in 264 (by decide +kernel) rfl
theorem lk_X10_24 : Cond.methodLink RX10 24 yX4_init ∈ tb := tb_in 267 (by decide +kernel) rfl
theorem lk_X11_58 : Cond.methodLink RX11 58 yX7_init ∈ tb := tb_in 288 (by decide +kernel) rfl
theorem oi_X7 : Cond.methodLink RX7 3 objectInit ∈ tb := tb_in 291 (by decide +kernel) rfl
theorem lk_X11_67 : Cond.methodLink RX11 67 yX3_init ∈ tb := tb_in 306 (by decide +kernel) rfl
theorem oi_X3 : Cond.methodLink RX3 3 objectInit ∈ tb := tb_in 309 (by decide +kernel) rfl
theorem lk_X11_74 : Cond.methodLink RX11 74 yX8_init ∈ tb := tb_in 345 (by decide +kernel) rfl
theorem oi_X8 : Cond.methodLink RX8 3 objectInit ∈ tb := tb_in 348 (by decide +kernel) rfl
theorem oi_X9 : Cond.methodLink RX9 3 objectInit ∈ tb := tb_in 368 (by decide +kernel) rfl
theorem oi_X1 : Cond.methodLink RX1 3 objectInit ∈ tb := tb_in 397 (by decide +kernel) rfl
theorem lk_L_12 : Cond.methodLink RL 12 yX12_init ∈ tb := tb_in 896 (by decide +kernel) rfl
theorem oi_X12 : Cond.methodLink RX12 1 objectInit ∈ tb := tb_in 899 (by decide +kernel) rfl
theorem nl_X11_17 : Cond.methodLinkNest RX11 17 yX6_init RX11 ∈ lw_tbl := List.mem_of_getElem? (i := 177) (by decide +kernel)
theorem nl_X11_37 : Cond.methodLinkNest RX11 37 yX5_init RX11 ∈ lw_tbl := List.mem_of_getElem? (i := 216) (by decide +kernel)
theorem nl_X11_48 : Cond.methodLinkNest RX11 48 yX2_init RX11 ∈ lw_tbl := List.mem_of_getElem? (i := 238) (by decide +kernel)
theorem nl_X11_81 : Cond.methodLinkNest RX11 81 yX9_init RX11 ∈ lw_tbl := List.mem_of_getElem? (i := 365) (by decide +kernel)
theorem nl_X11_88 : Cond.methodLinkNest RX11 88 yX1_init RX11 ∈ lw_tbl := List.mem_of_getElem? (i := 394) (by decide +kernel)
theorem nl_X7_32 : Cond.methodLinkNest RX7 32 yX11_wordOf RX11 ∈ lw_tbl := List.mem_of_getElem? (i := 736) (by decide +kernel)
theorem nl_X9_49 : Cond.methodLinkNest RX9 49 yX11_wordOf RX11 ∈ lw_tbl := List.mem_of_getElem? (i := 842) (by decide +kernel)
theorem ao_X2 : Cond.arrayOver (.object RX2) ∈ lw_tbl := List.mem_of_getElem? (i := 236) (by decide +kernel)
theorem ao_X4 : Cond.arrayOver (.object RX4) ∈ lw_tbl := List.mem_of_getElem? (i := 266) (by decide +kernel)
/-! ===== worlds that grow: rows for constructors ===== -/
def wN2 (U : State) : Prop := va_Nw (.methodLinkNest RX11 17 yX6_init RX11) U ∧ va_Nw (.methodLinkNest RX11 37 yX5_init RX11) U ∧ va_Nw (.methodLinkNest RX11 48 yX2_init RX11) U ∧ va_Nw (.methodLinkNest RX11 81 yX9_init RX11) U ∧ va_Nw (.methodLinkNest RX11 88 yX1_init RX11) U ∧ va_AO RX2 U ∧ va_AO RX4 U
def kE (D : va_G) (cA : Nat → ClassId) (U : State) : Prop := va_K D wcl (wtys cA) U ∧ wN U ∧ wN2 U
theorem kE.warm {D : va_G} {cA : Nat → ClassId} {s U : State} (hW : s.WarmedH U.vm) (h : kE D cA s) : kE D cA U := by
  obtain ⟨h1, h2, n1, n2, n3, n4, n5, n6, n7⟩ := h
  exact ⟨va_K.moved hW.alike h1, h2.warm hW, va_Nw.warmM hW n1, va_Nw.warmM hW n2, va_Nw.warmM hW n3, va_Nw.warmM hW n4, va_Nw.warmM hW n5, va_AO.moved hW.alike n6, va_AO.moved hW.alike n7⟩
theorem kE.same {D : va_G} {cA : Nat → ClassId} {U V : State} (e : U.vm = V.vm) (ha : U.vm.Alike V.vm) (h : kE D cA U) : kE D cA V := by
  obtain ⟨h1, ⟨m1, m2⟩, n1, n2, n3, n4, n5, n6, n7⟩ := h
  exact ⟨va_K.moved ha h1, ⟨va_Nw.same rfl e m1, va_Nw.same rfl e m2⟩, va_Nw.same rfl e n1, va_Nw.same rfl e n2, va_Nw.same rfl e n3, va_Nw.same rfl e n4, va_Nw.same rfl e n5, va_AO.moved ha n6, va_AO.moved ha n7⟩
def kC (p : Program) (s : State) (m : MethodId) (args : Array Value) (c : Code) (cc : ByteArray) (nL : Nat) (own : String) (D : va_G) (cA : Nat → ClassId) : Prop :=
  p.tables.exec = Jvm.exec ∧ c.code = cc ∧ c.maxLocals = nL ∧ s.vm.findClass own = some m.cls ∧ (∀ w ∈ tb, w.before args s = true) ∧ kE D cA s
def kW (D : va_G) (A : Nat → Prop) (H0 H : Heap) (locs : List Loc) (ws : va_W) : Prop := va_P D wcl ws H ∧ va_D A ws ∧ va_S A H0 H locs ∧ ∀ q, H0.size ≤ q → A q
def rmK (k mc ms : Nat) : Room := { frames := k, cells := mc, slots := ms, locals := 64 * k }
/-- a constructor's contract: its world, what it is behind it -/
def kM (l : Launch) (D : va_G) (cA : Nat → ClassId) (y : MethodName) (bytes : ByteArray) (maxL k mc ms : Nat) (av : List Value) (ws : va_W) (P : va_W → Prop) : Prop :=
  ∀ sz : Nat, Met l y (.code y bytes maxL none :: tb) (rmK k mc ms) (va_Pc av (fun U => U.heap.size = sz ∧ va_P D wcl ws U.heap ∧ kE D cA U ∧ va_D (fun _ => True) ws)) (va_Qv P (fun w t => va_P D wcl w t.heap ∧ va_D (va_A ws sz) w) (va_A ws sz)) mc ms (va_A ws sz)
theorem app_get_r {wr wc : va_W} {k : Nat} {q : Nat × va_E} (h : wc[k]? = some q) : (wr ++ wc)[wr.length + k]? = some q := by
  rw [List.getElem?_append_right (by omega), show wr.length + k - wr.length = k by omega]; exact h
theorem app_get_l {wr wc : va_W} {k : Nat} {q : Nat × va_E} (h : wr[k]? = some q) : (wr ++ wc)[k]? = some q := by
  rw [List.getElem?_append_left (List.getElem?_eq_some_iff.mp h).1]; exact h
theorem kjoin {A0 : Nat → Prop} {D : va_G} {cl : List vw_C} {wr wc w1 : va_W} {H H1 : Heap} (hP : va_P D cl (wr ++ wc) H) (hD : va_D A0 (wr ++ wc))
    (hk : ∀ q : Nat, q < H.size → ¬ va_A wc H.size q → H1[q]? = H[q]?) (hF : ∀ q, va_A wc H.size q → A0 q) (hP1 : va_P D cl w1 H1) (hD1 : va_D (va_A wc H.size) w1) : va_P D cl (wr ++ w1) H1 ∧ va_D A0 (wr ++ w1) := by
  have apart : ∀ (k : Nat) (q : Nat × va_E), wr[k]? = some q → q.1 < H.size ∧ ¬ va_A wc H.size q.1 := by
    intro k q hq
    have hl := (hP k q (app_get_l hq)).lt
    refine ⟨hl, fun h => ?_⟩
    rcases h with ⟨k2, e, h⟩ | h
    · have hij := hD.1 k (wr.length + k2) q (q.1, e) (app_get_l hq) (app_get_r h) rfl
      have := (List.getElem?_eq_some_iff.mp hq).1
      omega
    · omega
  refine ⟨va_P.app (fun k q hq => ?_) hP1, va_D.app ⟨fun i j x y hx hy e => hD.1 i j x y (app_get_l hx) (app_get_l hy) e, fun k q hq => hD.2 k q (app_get_l hq)⟩ (hD1.weaken (fun k q _ h => hF q.1 h)) (fun i j x y hx hy hxy => ?_)⟩
  · obtain ⟨g1, g2⟩ := apart k q hq
    exact (hP k q (app_get_l hq)).kept (hk q.1 g1 g2)
  · exact (apart i x hx).2 (by rw [hxy]; exact hD1.2 j y hy)
section KK
variable {p : Program} {l : Launch} {e : Env} {R : Room} {s : State} {m : MethodId} {args : Array Value} {below : List Frame} {meth : Method} {c : Code} {H : Heap} {locs : List Loc} {cells slots : Nat} {Q : State → Prop}
variable {cc : ByteArray} {pc : Nat} {ls : Array Slot} {rest : List Value} {D : va_G} {cA : Nat → ClassId} {nL : Nat} {own : String} {H0 : Heap} {A : Nat → Prop} {ws : va_W} {a : Nat}
theorem kk_of {y : MethodName} {bytes : ByteArray} {maxL k mc ms : Nat} {av : List Value} {P : va_W → Prop} (hy : plainName y.cls = true) (hn : y.name = "<init>") (hlen : (lg_sl av).length ≤ maxL)
    (body : ∀ (p : Program) (e : Env) (s : State) (m : MethodId) (below : List Frame) (meth : Method) (c : Code) (AA : Array Value) (A : Nat → Prop) (QQ : State → Prop) (ls : Array Slot), kC p s m AA c bytes maxL y.cls D cA → meth.name = "<init>" → kW D A s.heap s.heap [] ws → (∀ (w : va_W) (H : Heap) (locs : List Loc) (pc : Nat) (ls : Array Slot), P w → kW D A s.heap H locs w → decode bytes pc = .ok (.return_, 1) → W p l e (rmK k mc ms) s m AA below meth c H locs mc ms QQ (F0 m pc ls [])) → lv_has ls maxL (lv_args 0 av) → W p l e (rmK k mc ms) s m AA below meth c s.heap [] 0 0 QQ (F0 m 0 ls [])) :
    kM l D cA y bytes maxL k mc ms av ws P := by
  intro sz
  refine Met.ofW (cc := bytes) (maxL := maxL) (ret := none) hy rfl ?_
  intro p e s m args below meth c s₁ B hml hv
  obtain ⟨rfl, hsz, hP, hE, hD0⟩ := hv
  subst hsz
  have hin : meth.name = "<init>" := by rw [← hn]; exact (name_of_methodNamed B.named B.method).1
  have C0 : kC p s m av.toArray c bytes maxL y.cls D cA := ⟨B.exec, B.bytes, hml, findClass_of_methodNamed B.named, fun w h => atoms_spec (ws := .code y bytes maxL none :: tb) B.pre w (List.mem_cons_of_mem _ h), hE⟩
  have hl := lv_entry av (n := maxL) hlen
  rw [lg_entry_eq]
  exact body p e s m below meth c av.toArray (va_A ws s.heap.size) _ _ C0 hin ⟨hP, hD0.self (sz := s.heap.size), va_S.rf, fun q h => Or.inr h⟩ (fun w H locs pc ls hw hK hd => W.vret B.exec B.bytes B.returns (fun t ht hW => ⟨⟨w, rfl, hw, by rw [ht]; exact hK.1, hK.2.1⟩, hK.2.2.1.F ht⟩) hK.2.2.1.2.2 hd B.notSynchronized) hl
theorem kk_oi {idx : Nat} (C0 : kC p s m args c cc nL own D cA) (hsz : ls.size = nL) (hlk : Cond.methodLink own idx objectInit ∈ tb) (hR : 1 ≤ R.frames ∧ 12 ≤ R.locals) (hdg : decode cc pc = .ok (.invokespecial idx, 3))
    (kk : W p l e R s m args below meth c H locs cells slots Q (F0 m (pc + 3) ls [])) : W p l e R s m args below meth c H locs cells slots Q (F0 m pc ls [.ref a]) := by
  obtain ⟨hx, hb, hml, hown, htb, hE⟩ := C0
  exact W.objInit hx hb hown (htb _ hlk) (htb _ oi_im) (htb _ oi_cd) rfl (by rw [hml]; exact hsz) rfl hdg hR.1 (by show 2 * 0 + 0 + 12 ≤ R.locals; omega) (W.eq (g2 := F0 m (pc + 3) ls []) rfl kk)
theorem kk_ni {n : Int32} {N : Nat} (C0 : kC p s m args c cc nL own D cA) (w : kW D A H0 H locs ws) (hn : ¬ n < 0) (hN : n.toNatClampNeg = N) (hB : N ≤ 100000) (hc : cells + 1 ≤ R.cells) (hs : slots + N ≤ R.slots) (hdg : decode cc pc = .ok (.newarray .int, 2))
    (kk : ∀ (q : Nat) (H1 : Heap), kW D A H0 H1 locs (ws ++ [(q, .inl (cA 0, N, .inl (fun _ => iI 0)))]) → W p l e R s m args below meth c H1 locs (cells + 1) (slots + N) Q (F0 m (pc + 2) ls (.ref q :: rest))) : W p l e R s m args below meth c H locs cells slots Q (F0 m pc ls (.int n :: rest)) := by
  obtain ⟨hx, hb, hml, hown, htb, hK, hN1, hN2⟩ := C0
  obtain ⟨hP, hD, hS, hA⟩ := w
  refine va_newa (atype := .int) (ty := .int) hx hb (htb _ ar_int) rfl hK hP hD hS hA (a0 := (N, .inl (fun _ => iI 0))) (fun _ => rfl) hn hN (by show N * 4 ≤ 536870912; omega) hc hs hdg (fun q cB H1 hK1 hP1 hD1 hS1 => ?_)
  have e1 : s.vm.findClass ("[" ++ FieldType.int.toString) = some (cA 0) := (hK.2 0 (cA 0, .int) rfl).2
  have e2 : s.vm.findClass ("[" ++ FieldType.int.toString) = some cB := (hK1.2 4 (cB, .int) rfl).2
  have e3 : cB = cA 0 := Option.some.inj (e2.symm.trans e1)
  subst e3
  exact kk q H1 ⟨hP1, hD1, hS1, hA⟩
theorem kk_nl {n : Int32} {N : Nat} (C0 : kC p s m args c cc nL own D cA) (w : kW D A H0 H locs ws) (hn : ¬ n < 0) (hN : n.toNatClampNeg = N) (hB : N ≤ 100000) (hc : cells + 1 ≤ R.cells) (hs : slots + N ≤ R.slots) (hdg : decode cc pc = .ok (.newarray .long, 2))
    (kk : ∀ (q : Nat) (H1 : Heap), kW D A H0 H1 locs (ws ++ [(q, .inl (cA 1, N, .inr (.inl (fun _ => iL 0))))]) → W p l e R s m args below meth c H1 locs (cells + 1) (slots + N) Q (F0 m (pc + 2) ls (.ref q :: rest))) : W p l e R s m args below meth c H locs cells slots Q (F0 m pc ls (.int n :: rest)) := by
  obtain ⟨hx, hb, hml, hown, htb, hK, hN1, hN2⟩ := C0
  obtain ⟨hP, hD, hS, hA⟩ := w
  refine va_newa (atype := .long) (ty := .long) hx hb (htb _ ar_long) rfl hK hP hD hS hA (a0 := (N, .inr (.inl (fun _ => iL 0)))) (fun _ => rfl) hn hN (by show N * 8 ≤ 536870912; omega) hc hs hdg (fun q cB H1 hK1 hP1 hD1 hS1 => ?_)
  have e1 : s.vm.findClass ("[" ++ FieldType.long.toString) = some (cA 1) := (hK.2 1 (cA 1, .long) rfl).2
  have e2 : s.vm.findClass ("[" ++ FieldType.long.toString) = some cB := (hK1.2 4 (cB, .long) rfl).2
  have e3 : cB = cA 1 := Option.some.inj (e2.symm.trans e1)
  subst e3
  exact kk q H1 ⟨hP1, hD1, hS1, hA⟩
theorem kk_nq {n : Int32} {N idx j : Nat} {C : String} (C0 : kC p s m args c cc nL own D cA) (w : kW D A H0 H locs ws) (hj : (wtys cA)[j]? = some (cA j, .object C)) (hAO : va_AO C s) (hcl : Cond.classLink own idx C ∈ tb) (hn : ¬ n < 0) (hN : n.toNatClampNeg = N) (hB : N ≤ 100000) (hc : cells + 1 ≤ R.cells) (hs : slots + N ≤ R.slots) (hdg : decode cc pc = .ok (.anewarray idx, 3))
    (kk : ∀ (q : Nat) (H1 : Heap), kW D A H0 H1 locs (ws ++ [(q, .inl (cA j, N, .inr (.inr (.inr (.inr (fun _ => none))))))]) → W p l e R s m args below meth c H1 locs (cells + 1) (slots + N) Q (F0 m (pc + 3) ls (.ref q :: rest))) : W p l e R s m args below meth c H locs cells slots Q (F0 m pc ls (.int n :: rest)) := by
  obtain ⟨hx, hb, hml, hown, htb, hK, hN1, hN2⟩ := C0
  obtain ⟨hP, hD, hS, hA⟩ := w
  refine va_newq hx hb hown (htb _ hcl) hAO hK hP hD hS hA hn hN (by omega) hc hs hdg (fun q cB H1 hK1 hP1 hD1 hS1 => ?_)
  obtain ⟨_, _, _, _, _, e1⟩ := (hK.2 j _ hj).2
  obtain ⟨_, _, _, _, _, e2⟩ := (hK1.2 4 (cB, .object C) rfl).2
  have e3 : cB = cA j := Option.some.inj (e2.symm.trans e1)
  subst e3
  exact kk q H1 ⟨hP1, hD1, hS1, hA⟩
theorem kk_new {ci N idx : Nat} {C : String} {T : u_T} {ty : Nat → FieldType} {fs : List Value} (C0 : kC p s m args c cc nL own D cA) (w : kW D A H0 H locs ws) (hcl : wcl[ci]? = some (C, T, N)) (hin : ∀ w ∈ u_ws C T N, w ∈ tb) (hty : ∀ k, k < N → parseFieldDescriptor (T k).2.2.1 = some (ty k)) (hck : Cond.classLink own idx C ∈ tb) (hit : Cond.instantiable C N ∈ tb) (hini : Cond.initialized C ∈ tb) (hfs : ∀ j, j < N → defaultValue (ty j) = vp_V fs j) (hc : cells + 1 ≤ R.cells) (hs : slots + N ≤ R.slots) (hdg : decode cc pc = .ok (.new idx, 3))
    (kk : ∀ (q : Nat) (H1 : Heap), kW D A H0 H1 locs (ws ++ [(q, .inr (ci, fs))]) → W p l e R s m args below meth c H1 locs (cells + 1) (slots + N) Q (F0 m (pc + 3) ls (.ref q :: rest))) : W p l e R s m args below meth c H locs cells slots Q (F0 m pc ls rest) := by
  obtain ⟨hx, hb, hml, hown, htb, hK, hN1, hN2⟩ := C0
  obtain ⟨hP, hD, hS, hA⟩ := w
  exact va_new hx hb htb hin ty hty hown (htb _ hck) (htb _ hit) (htb _ hini) hK hP hD hS hA hcl hfs hc hs hdg (fun q H1 hP1 hD1 hS1 => kk q H1 ⟨hP1, hD1, hS1, hA⟩)
theorem kk_put {idx ci k N : Nat} {C : String} {T : u_T} {ty : Nat → FieldType} {fs : List Value} {v : Value} (C0 : kC p s m args c cc nL own D cA) (hf : wFl own idx ci k C T N ty) (hfin : (T k).2.2.2 = false) (w : kW D A H0 H locs ws) (q0 : Nat) (he : ws[q0]? = some (a, .inr (ci, fs))) (hn : narrow (ty k) v = v) (hfit : fits (ty k) v = true) (hl : k < fs.length) (hdg : decode cc pc = .ok (.putfield idx, 3))
    (kk : ∀ (H1 : Heap) (locs1 : List Loc), kW D A H0 H1 locs1 (ws.set q0 (a, .inr (ci, fs.set k v))) → W p l e R s m args below meth c H1 locs1 cells slots Q (F0 m (pc + 3) ls rest)) : W p l e R s m args below meth c H locs cells slots Q (F0 m pc ls (v :: .ref a :: rest)) := by
  obtain ⟨hx, hb, hml, hown, htb, hK, hN1, hN2⟩ := C0
  obtain ⟨hP, hD, hS, hA⟩ := w
  obtain ⟨f1, f2, f3, f4, f5, f6, f7⟩ := hf
  exact va_put hx hb htb f3 ty f6 f7 hown hK hP hD hS q0 he f1 k f2 (htb _ f4) (fun x h => by rw [f5] at h; exact h) hfin (f6 k f2) hn hfit hl hdg (fun H1 locs1 h1 h2 h3 => kk H1 locs1 ⟨h1, h2, h3, hA⟩)
theorem kk_putF {idx ci k N : Nat} {C : String} {T : u_T} {ty : Nat → FieldType} {fs : List Value} {v : Value} (C0 : kC p s m args c cc nL own D cA) (hf : wFl own idx ci k C T N ty) (hfin : (T k).2.2.2 = true) (hin2 : meth.name = "<init>") (hdecl : (T k).1 = own) (w : kW D A H0 H locs ws) (q0 : Nat) (he : ws[q0]? = some (a, .inr (ci, fs))) (hn : narrow (ty k) v = v) (hfit : fits (ty k) v = true) (hl : k < fs.length) (hdg : decode cc pc = .ok (.putfield idx, 3))
    (kk : ∀ (H1 : Heap) (locs1 : List Loc), kW D A H0 H1 locs1 (ws.set q0 (a, .inr (ci, fs.set k v))) → W p l e R s m args below meth c H1 locs1 cells slots Q (F0 m (pc + 3) ls rest)) : W p l e R s m args below meth c H locs cells slots Q (F0 m pc ls (v :: .ref a :: rest)) := by
  obtain ⟨hx, hb, hml, hown, htb, hK, hN1, hN2⟩ := C0
  obtain ⟨hP, hD, hS, hA⟩ := w
  obtain ⟨f1, f2, f3, f4, f5, f6, f7⟩ := hf
  exact va_putF hx hb htb f3 ty f6 f7 hown hK hP hD hS q0 he f1 k f2 (htb _ f4) (fun x h => by rw [f5] at h; exact h) hfin hin2 hdecl (f6 k f2) hn hfit hl hdg (fun H1 locs1 h1 h2 h3 => kk H1 locs1 ⟨h1, h2, h3, hA⟩)
theorem kk_get {idx ci k N : Nat} {C : String} {T : u_T} {ty : Nat → FieldType} {fs : List Value} {v : Value} (C0 : kC p s m args c cc nL own D cA) (hf : wFl own idx ci k C T N ty) (w : kW D A H0 H locs ws) (q0 : Nat) (he : ws[q0]? = some (a, .inr (ci, fs))) (hv : fs[k]? = some v) (hdg : decode cc pc = .ok (.getfield idx, 3))
    (kk : W p l e R s m args below meth c H locs cells slots Q (F0 m (pc + 3) ls (v :: rest))) : W p l e R s m args below meth c H locs cells slots Q (F0 m pc ls (.ref a :: rest)) := by
  obtain ⟨hx, hb, hml, hown, htb, hK, hN1, hN2⟩ := C0
  obtain ⟨f1, f2, f3, f4, f5, f6, f7⟩ := hf
  exact va_get hx hb htb f3 hown hK w.1 q0 he f1 k f2 (htb _ f4) (fun x h => by rw [f5] at h; exact h) hv hdg kk
theorem kk_ias {n : Nat} {i z : Int} {r : Nat → Int} (C0 : kC p s m args c cc nL own D cA) (w : kW D A H0 H locs ws) (q0 : Nat) (he : ws[q0]? = some (a, .inl (cA 0, n, .inl (fun j => iI (r j))))) (h0 : 0 ≤ i) (h1 : i < (n : Int)) (hn : n ≤ 1000000) (hdg : decode cc pc = .ok (.iastore, 1))
    (kk : ∀ (H1 : Heap) (locs1 : List Loc), kW D A H0 H1 locs1 (ws.set q0 (a, .inl (cA 0, n, .inl (fun j => iI (up1 r i.toNat z j))))) → W p l e R s m args below meth c H1 locs1 cells slots Q (F0 m (pc + 1) ls rest)) : W p l e R s m args below meth c H locs cells slots Q (F0 m pc ls (.int (iI z) :: .int (iI i) :: .ref a :: rest)) := by
  obtain ⟨hx, hb, hml, hown, htb, hK, hN1, hN2⟩ := C0
  obtain ⟨hP, hD, hS, hA⟩ := w
  refine va_iast hx hb hK hP hD hS q0 0 he rfl (iI_in h0 h1 hn) hdg (fun H1 locs1 q1 q2 q3 => kk H1 locs1 ⟨?_, ?_, q3, hA⟩)
  · rw [iI_cl h0 (by omega), up_iI] at q1; exact q1
  · rw [iI_cl h0 (by omega), up_iI] at q2; exact q2
theorem kk_aas {n v j qk ci : Nat} {i : Int} {rr : vw_C} {vs : List Value} {f : Nat → Option Nat} (C0 : kC p s m args c cc nL own D cA) (w : kW D A H0 H locs ws) (q0 : Nat) (he : ws[q0]? = some (a, .inl (cA j, n, .inr (.inr (.inr (.inr f)))))) (hj : (wtys cA)[j]? = some (cA j, .object rr.1)) (hv : ws[qk]? = some (v, .inr (ci, vs))) (hcl : wcl[ci]? = some rr) (h0 : 0 ≤ i) (h1 : i < (n : Int)) (hn : n ≤ 1000000) (hdg : decode cc pc = .ok (.aastore, 1))
    (kk : ∀ (H1 : Heap) (locs1 : List Loc), kW D A H0 H1 locs1 (ws.set q0 (a, .inl (cA j, n, .inr (.inr (.inr (.inr (va_up f i.toNat (some v)))))))) → W p l e R s m args below meth c H1 locs1 cells slots Q (F0 m (pc + 1) ls rest)) : W p l e R s m args below meth c H locs cells slots Q (F0 m pc ls (.ref v :: .int (iI i) :: .ref a :: rest)) := by
  obtain ⟨hx, hb, hml, hown, htb, hK, hN1, hN2⟩ := C0
  obtain ⟨hP, hD, hS, hA⟩ := w
  refine va_astq hx hb hK hP hD hS q0 j qk ci he hj hv hcl (iI_in h0 h1 hn) hdg (fun H1 locs1 q1 q2 q3 => kk H1 locs1 ⟨?_, ?_, q3, hA⟩)
  · rw [iI_cl h0 (by omega)] at q1; exact q1
  · rw [iI_cl h0 (by omega)] at q2; exact q2
theorem kk_pc {av : List Value} {sz : Nat} : FrameBlind (va_Pc av (fun U => U.heap.size = sz ∧ va_P D wcl ws U.heap ∧ kE D cA U ∧ va_D (fun _ => True) ws)) := fun a U g mk q => ⟨q.1, q.2.1, q.2.2.1, q.2.2.2.1.same (V := U.calling g mk a) rfl (Vm.Alike.refl U.vm), q.2.2.2.2⟩
theorem kk_good {y : MethodName} {bytes : ByteArray} {maxL : Nat} {ret : Option FieldType} (h : Cond.code y bytes maxL ret ∈ tb) : GoodIn tb (.code y bytes maxL ret :: tb) := fun w hw => by
  have hm : w ∈ tb := by
    rcases List.mem_cons.mp hw with h | h
    · rw [h]; assumption
    · exact h
  exact ⟨hm, good_of_word (List.mem_filter.mp hm).2⟩
theorem kk_free {wr wc : va_W} (w : kW D A H0 H locs (wr ++ wc)) : ∀ q, va_A wc H.size q → A q := by
  obtain ⟨hP, hD, hS, hA⟩ := w
  intro q h
  rcases h with ⟨k, e, h⟩ | h
  · exact hD.2 _ _ (app_get_r h)
  · exact hA q (Nat.le_trans hS.1 h)
theorem kk_callI {idx maxL n k mc ms b : Nat} {y : MethodName} {bytes : ByteArray} {As st : List Value} {P : va_W → Prop} {wr wc : va_W} (C0 : kC p s m args c cc nL own D cA) (hM : kM l D cA y bytes maxL k mc ms (.ref b :: As) wc P) (hlk : Cond.methodLink own idx y ∈ tb) (hcd : Cond.code y bytes maxL none ∈ tb) (him : Cond.instanceMethod y ∈ tb) (hini : Cond.initialized y.cls ∈ tb) (h4 : y.cls ≠ "java/lang/invoke/MethodHandle" ∧ y.cls ≠ "java/lang/invoke/VarHandle" ∧ (parseMethodDescriptor y.desc).map (fun d => d.parameters.length) = some n) (hy1 : y.name = "<init>")
    (w : kW D A H0 H locs (wr ++ wc)) (hn : As.length = n) (hst : st = As.reverse ++ .ref b :: rest) (hW : (rest.map fun v => v.category).sum ≤ 8) (hR : k + 1 ≤ R.frames ∧ 8 + (maxL + 11) + 64 * k ≤ R.locals) (hsz : ls.size = nL) (hdg : decode cc pc = .ok (.invokespecial idx, 3)) (hcs : cells + mc ≤ R.cells ∧ slots + ms ≤ R.slots)
    (kk : ∀ (w1 : va_W) (H1 : Heap) (locs1 : List Loc), P w1 → kW D A H0 H1 locs1 (wr ++ w1) → W p l e R s m args below meth c H1 locs1 (cells + mc) (slots + ms) Q (F0 m (pc + 3) ls rest)) : W p l e R s m args below meth c H locs cells slots Q (F0 m pc ls st) := by
  have hFc := kk_free w
  obtain ⟨hx, hb, hml, hown, htb, hE⟩ := C0
  obtain ⟨hP, hD, hS, hA⟩ := w
  refine va_callv (va_runI (Ts := tb) (As := As) (rest := rest) ⟨hx, hb, hml, hown, htb⟩ (hM H.size) ⟨callB_of (Ts := tb) n htb (kk_good hcd) rfl rfl rfl (htb _ hini) (htb _ hlk) h4 hR, hy1, htb _ him⟩ ⟨kk_pc, fun U hU hW => ⟨rfl, by rw [hU], by rw [hU]; exact fun k q h => hP _ q (app_get_r h), hE.warm hW, ⟨fun i j x y hx hy e => by have := hD.1 _ _ x y (app_get_r hx) (app_get_r hy) e; omega, fun _ _ _ => trivial⟩⟩⟩ rfl hn hsz hst (lv_room hW) hdg hcs) hS (fun q _ h => hFc q h) hFc (fun u t H1 locs1 ht hvm hw hB hz1 hk1 hS1 => ?_)
  obtain ⟨j1, j2⟩ := kjoin hP hD hk1 hFc (by rw [← ht]; exact hB.1) hB.2
  exact kk u H1 locs1 hw ⟨j1, j2, hS1, hA⟩
theorem kk_callIN {idx maxL n k mc ms b : Nat} {host : String} {y : MethodName} {bytes : ByteArray} {As st : List Value} {P : va_W → Prop} {wr wc : va_W} (C0 : kC p s m args c cc nL own D cA) (hM : kM l D cA y bytes maxL k mc ms (.ref b :: As) wc P) (hlk : va_Nw (.methodLinkNest own idx y host) s) (hcd : Cond.code y bytes maxL none ∈ tb) (him : Cond.instanceMethod y ∈ tb) (hini : Cond.initialized y.cls ∈ tb) (h4 : y.cls ≠ "java/lang/invoke/MethodHandle" ∧ y.cls ≠ "java/lang/invoke/VarHandle" ∧ (parseMethodDescriptor y.desc).map (fun d => d.parameters.length) = some n) (hy1 : y.name = "<init>")
    (w : kW D A H0 H locs (wr ++ wc)) (hn : As.length = n) (hst : st = As.reverse ++ .ref b :: rest) (hW : (rest.map fun v => v.category).sum ≤ 8) (hR : k + 1 ≤ R.frames ∧ 8 + (maxL + 11) + 64 * k ≤ R.locals) (hsz : ls.size = nL) (hdg : decode cc pc = .ok (.invokespecial idx, 3)) (hcs : cells + mc ≤ R.cells ∧ slots + ms ≤ R.slots)
    (kk : ∀ (w1 : va_W) (H1 : Heap) (locs1 : List Loc), P w1 → kW D A H0 H1 locs1 (wr ++ w1) → W p l e R s m args below meth c H1 locs1 (cells + mc) (slots + ms) Q (F0 m (pc + 3) ls rest)) : W p l e R s m args below meth c H locs cells slots Q (F0 m pc ls st) := by
  have hFc := kk_free w
  obtain ⟨hx, hb, hml, hown, htb, hE⟩ := C0
  obtain ⟨hP, hD, hS, hA⟩ := w
  refine va_callv (va_runIN (Ts := tb) (As := As) (rest := rest) ⟨hx, hb, hml, hown, htb⟩ (hM H.size) ⟨va_cnB (Ts := tb) n htb (kk_good hcd) rfl rfl rfl hlk (htb _ hini) h4 hR, hy1, htb _ him⟩ ⟨kk_pc, fun U hU hW => ⟨rfl, by rw [hU], by rw [hU]; exact fun k q h => hP _ q (app_get_r h), hE.warm hW, ⟨fun i j x y hx hy e => by have := hD.1 _ _ x y (app_get_r hx) (app_get_r hy) e; omega, fun _ _ _ => trivial⟩⟩⟩ rfl hn hsz hst (lv_room hW) hdg hcs) hS (fun q _ h => hFc q h) hFc (fun u t H1 locs1 ht hvm hw hB hz1 hk1 hS1 => ?_)
  obtain ⟨j1, j2⟩ := kjoin hP hD hk1 hFc (by rw [← ht]; exact hB.1) hB.2
  exact kk u H1 locs1 hw ⟨j1, j2, hS1, hA⟩
end KK
