/-! THE CLAIM OUT OF ONE WALK OF THE LAW'S BODY. Your part is whole_start (and what it stands on); all else here is the same for every law, but numbers. -/
def R_law : String := "WarmPlaceLaw"
def lw_P (b : Addr) (xs : List Int32) (args : Array Value) (s : State) : Prop := args = #[.ref b] ∧ s.IntsAt b xs ∧ xs.length ≤ 192 ∧ (Jvm.Cond.and given_1 narrow_1).before args s = true
def lw_Q (_ : Array Value) (s : State) (o : Outcome) (t : State) : Prop := o = .returned (some (.int 1)) ∧ Framed s o t [] 600000 7302250
def lw_Z (below : List Frame) (a : Array Value) (s : State) : State → Prop := fun t => ∃ o, t.status = .running ∧ Ended t below o ∧ lw_Q a s o t
/-- the law's own end, with 1 on the stack, nothing written that was there before, its room as the claim has it -/
theorem lw_ret {p : Program} {l : Launch} {e : Env} {s : State} {m : MethodId} {below : List Frame} {meth : Method} {c : Code} {b : Nat} (hx : p.tables.exec = Jvm.exec) (hb : c.code = code) (hr : meth.sig.returnType = ret) (hlocks : meth.locks = false) {pc : Nat} {H : Heap} {ls : Array Slot} (hdg : decode code pc = .ok (.ireturn, 1)) : W p l e room_1 s m #[Value.ref b] below meth c H [] 600000 7302250 (lw_Z below #[Value.ref b] s) (F0 m pc ls [.int 1]) := by
  intro T hT X
  obtain ⟨fs, hret, hrun, hended, hW, hframe⟩ := X.leave (v := some (.int 1)) (hlocks := hlocks) (fun h => by rw [hr] at h; cases h)
  have hmeth' : T.vm.method? m = some meth := X.method'
  refine ⟨T.setFrames fs, ?_, .returned (some (.int 1)), hrun, hended, rfl, ⟨_, rfl⟩, hW, hframe⟩
  jvm_step X.here [X.here.top, hx, hb, hdg, hmeth', hr, ret, narrow_b1]
  (try refine ⟨rfl, ?_⟩); (try refine ⟨rfl, ?_⟩)
  first | (intro acts; rw [hret _ acts rfl rfl rfl]) | rw [hret _ _ rfl rfl rfl]
  exact Steps.refl _
/-- what holds at the law's entry: the machine, the code, the tables' words (any of lw_tbl by 'hts w (by decide +kernel)'), the script of L ints xs at the cell b, what the Statement gives of the start (any of its parts by flat_of_before) -/
def lw_At (p : Program) (s : State) (m : MethodId) (meth : Method) (c : Code) (b L : Nat) (xs : Nat → Int32) : Prop :=
  p.tables.exec = Jvm.exec ∧ c.code = code ∧ meth.sig.returnType = ret ∧ c.maxLocals = 4 ∧ s.vm.findClass R_law = some m.cls ∧ (∀ w ∈ lw_tbl, w.before #[Value.ref b] s = true) ∧ va_X b L xs s s.heap ∧ b < s.heap.size ∧ meth.locks = false ∧ (Jvm.Cond.and given_1 narrow_1).before #[Value.ref b] s = true
/-! ===== rows for the law ===== -/
section LK
variable {p : Program} {l : Launch} {e : Env} {R : Room} {s : State} {m : MethodId} {args : Array Value} {below : List Frame} {meth : Method} {c : Code} {H : Heap} {locs : List Loc} {cells slots : Nat} {Q : State → Prop}
variable {cc : ByteArray} {pc : Nat} {ls : Array Slot} {rest : List Value} {D : va_G} {cA : Nat → ClassId} {nL : Nat} {own : String} {H0 : Heap} {A : Nat → Prop} {ad : Nat → Nat} {σ : Mem} {ws : va_W}
theorem kk_sld {b L : Nat} {xs : Nat → Int32} {i : Int} (C0 : kC p s m args c cc nL own D cA) (hX : va_X b L xs s H0) (hbl : b < H0.size) (hbA : ¬ A b) (w : kW D A H0 H locs ws) (h0 : 0 ≤ i) (h1 : i < (L : Int)) (hL : L ≤ 192) (hdg : decode cc pc = .ok (.iaload, 1))
    (kk : W p l e R s m args below meth c H locs cells slots Q (F0 m (pc + 1) ls (.int (iI (xs i.toNat).toInt) :: rest))) : W p l e R s m args below meth c H locs cells slots Q (F0 m pc ls (.int (iI i) :: .ref b :: rest)) := by
  refine va_sld C0.1 C0.2.1 hX hbl hbA w.2.2.1 (iI_in h0 h1 (by omega)) hdg ?_
  rw [iI_cl h0 (by omega)]
  rw [iI_of] at kk
  exact kk
theorem kk_wi {j idx maxL n cl ci N : Nat} {T : u_T} {ks : List Nat} {y : MethodName} {bytes : ByteArray} {ret : Option FieldType} {As st : List Value} {P : Int → Mem → Prop} (C0 : kC p s m args c cc nL own D cA) (hI : wI ad) (hcl : wCv own idx y bytes maxL ret n) (hM : wMi l D cA ad y bytes maxL ret j (.ref (ad cl) :: As) σ P) (w : kW D A H0 H locs (wl cA ad σ)) (hc : cl < 81) (hsh : wsh cl = .inr (ci, ks)) (hcc : wcl[ci]? = some (y.cls, T, N)) (hn : As.length = n) (hst : st = As.reverse ++ .ref (ad cl) :: rest) (hW : (rest.map fun v => v.category).sum ≤ 8) (hR : j + 1 ≤ R.frames ∧ 8 + (maxL + 11) + 64 * j ≤ R.locals) (hsz : ls.size = nL) (hdg : decode cc pc = .ok (.invokevirtual idx, 3)) (hcs : cells ≤ R.cells ∧ slots ≤ R.slots)
    (kk : ∀ (z : Int) (u : Mem) (H1 : Heap) (locs1 : List Loc), P z u → kW D A H0 H1 locs1 (wl cA ad u) → W p l e R s m args below meth c H1 locs1 cells slots Q (F0 m (pc + 3) ls (.int (iI z) :: rest))) : W p l e R s m args below meth c H locs cells slots Q (F0 m pc ls st) := by
  have hwA := w.wA
  refine va_calli (wk_callV (C0.wC hI) hcl hM w.1 hc hsh hcc hn hst hW hR hsz hdg hcs) w.2.2.1 (fun q _ h => hwA q h) hwA (fun r u t H1 locs1 ht hvm hw hB hz1 hk1 hS1 => ?_)
  obtain ⟨z, rfl, hw⟩ := hw
  exact kk z u H1 locs1 hw ⟨by rw [← ht]; exact hB.1, ⟨(wl_D hI).1, fun k q hk => hwA _ ((wl_D (σ := u) (cA := cA) hI).2 k q hk)⟩, hS1, w.2.2.2⟩
end LK
