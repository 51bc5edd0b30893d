/-! ===== numbers: ints and longs of the machine as whole numbers ===== -/
def iI (z : Int) : Int32 := Int32.ofInt z
def iL (z : Int) : Int64 := Int64.ofInt z
def inR (z : Int) : Prop := -2147483648 ≤ z ∧ z ≤ 2147483647
def inL (z : Int) : Prop := -9223372036854775808 ≤ z ∧ z ≤ 9223372036854775807
theorem iI_toInt {z : Int} (h : inR z) : (iI z).toInt = z := Int32.toInt_ofInt_of_le (by have := h.1; omega) (by have := h.2; omega)
theorem iL_toInt {z : Int} (h : inL z) : (iL z).toInt = z := Int64.toInt_ofInt_of_le (by have := h.1; omega) (by have := h.2; omega)
theorem iI_of (x : Int32) : iI x.toInt = x := Int32.ofInt_toInt x
theorem iL_of (x : Int64) : iL x.toInt = x := Int64.ofInt_toInt x
theorem inR_of (x : Int32) : inR x.toInt := ⟨by have := Int32.le_toInt x; omega, by have := Int32.toInt_lt x; omega⟩
theorem inL_of (x : Int64) : inL x.toInt := ⟨by have := Int64.le_toInt x; omega, by have := Int64.toInt_lt x; omega⟩
theorem iI_add (a b : Int) : iI a + iI b = iI (a + b) := (Int32.ofInt_add a b).symm
theorem iI_sub (a b : Int) : iI a - iI b = iI (a - b) := (Int32.ofInt_sub a b).symm
theorem iI_mul (a b : Int) : iI a * iI b = iI (a * b) := (Int32.ofInt_mul a b).symm
theorem iI_neg (a : Int) : - iI a = iI (-a) := (Int32.ofInt_neg a).symm
theorem iL_add (a b : Int) : iL a + iL b = iL (a + b) := (Int64.ofInt_add a b).symm
theorem iL_mul (a b : Int) : iL a * iL b = iL (a * b) := (Int64.ofInt_mul a b).symm
theorem iI_lt {a b : Int} (ha : inR a) (hb : inR b) : iI a < iI b ↔ a < b := by rw [Int32.lt_iff_toInt_lt, iI_toInt ha, iI_toInt hb]
theorem iI_le {a b : Int} (ha : inR a) (hb : inR b) : iI a ≤ iI b ↔ a ≤ b := by rw [Int32.le_iff_toInt_le, iI_toInt ha, iI_toInt hb]
theorem iI_eq {a b : Int} (ha : inR a) (hb : inR b) : iI a = iI b ↔ a = b := ⟨fun h => by rw [← iI_toInt ha, ← iI_toInt hb, h], fun h => h ▸ rfl⟩
theorem inR_0 : inR 0 := ⟨by decide, by decide⟩
theorem iI_0 : (0 : Int32) = iI 0 := rfl
theorem iI_div {a b : Int} (ha : inR a) (hb : inR b) : iI a / iI b = iI (a.tdiv b) := (Int32.ofInt_tdiv ha.1 ha.2 hb.1 hb.2).symm
theorem iI_rem {a b : Int} (ha : inR a) (hb : inR b) : iI a - iI a / iI b * iI b = iI (a.tmod b) := by
  rw [iI_div ha hb, iI_mul, iI_sub]
  congr 1
  have := Int.tmod_def a b
  rw [this, Int.mul_comm]
theorem iL_div {a b : Int} (ha : inL a) (hb : inL b) : iL a / iL b = iL (a.tdiv b) := (Int64.ofInt_tdiv ha.1 ha.2 hb.1 hb.2).symm
theorem iL_sub (a b : Int) : iL a - iL b = iL (a - b) := (Int64.ofInt_sub a b).symm
theorem iL_rem {a b : Int} (ha : inL a) (hb : inL b) : iL a - iL a / iL b * iL b = iL (a.tmod b) := by
  rw [iL_div ha hb, iL_mul, iL_sub]
  congr 1
  have := Int.tmod_def a b
  rw [this, Int.mul_comm]
theorem iI_i2l {a : Int} (ha : inR a) : (iI a).toInt64 = iL a := Int32.toInt64_ofInt ha.1 ha.2
theorem iL_l2i (a : Int) : (iL a).toInt32 = iI a := Int64.toInt32_ofInt
theorem iI_nz {b : Int} (hb : inR b) (h : b ≠ 0) : ¬ iI b = 0 := fun q => h ((iI_eq hb inR_0).mp q)
theorem iL_nz {b : Int} (hb : inL b) (h : b ≠ 0) : ¬ iL b = 0 := fun q => h (by rw [← iL_toInt hb, q]; rfl)
theorem iL_lt {a b : Int} (ha : inL a) (hb : inL b) : iL a < iL b ↔ a < b := by rw [Int64.lt_iff_toInt_lt, iL_toInt ha, iL_toInt hb]
theorem iL_eq {a b : Int} (ha : inL a) (hb : inL b) : iL a = iL b ↔ a = b := ⟨fun h => by rw [← iL_toInt ha, ← iL_toInt hb, h], fun h => h ▸ rfl⟩
def zand (a b : Int) : Int := (iI a &&& iI b).toInt
def zor (a b : Int) : Int := (iI a ||| iI b).toInt
def zxor (a b : Int) : Int := (iI a ^^^ iI b).toInt
def zshl (a b : Int) : Int := (iI a <<< (iI b &&& 31)).toInt
def zshr (a b : Int) : Int := (iI a >>> (iI b &&& 31)).toInt
def zushr (a b : Int) : Int := (((iI a).toUInt32 >>> ((iI b).toUInt32 &&& Int32.toUInt32 31)).toInt32).toInt
def yand (a b : Int) : Int := (iL a &&& iL b).toInt
def yor (a b : Int) : Int := (iL a ||| iL b).toInt
def yshl (a b : Int) : Int := (iL a <<< ((iI b).toInt64 &&& 63)).toInt
def yshr (a b : Int) : Int := (iL a >>> ((iI b).toInt64 &&& 63)).toInt
theorem iI_in {z : Int} {n : Nat} (h0 : 0 ≤ z) (h1 : z < (n : Int)) (hn : n ≤ 1000000) : vp_in (iI z) n := by
  rw [vp_in_iff, iI_toInt ⟨by omega, by omega⟩]
  exact ⟨h0, h1⟩
theorem iI_cl {z : Int} (h0 : 0 ≤ z) (h1 : z ≤ 2147483647) : (iI z).toNatClampNeg = z.toNat := by
  show (iI z).toInt.toNat = z.toNat
  rw [iI_toInt ⟨by omega, h1⟩]
/-! ===== the state: cells by number, places in a cell by number ===== -/
abbrev Mem : Type := Nat → Nat → Int
def up1 (r : Nat → Int) (k : Nat) (v : Int) : Nat → Int := fun j => if j = k then v else r j
def upr (σ : Mem) (c : Nat) (r : Nat → Int) : Mem := fun d => if d = c then r else σ d
def up2 (σ : Mem) (c k : Nat) (v : Int) : Mem := upr σ c (up1 (σ c) k v)
def tb : List Cond := lw_tbl.filter goodWord
theorem tb_in {w : Cond} (i : Nat) (h : lw_tbl[i]? = some w) (g : goodWord w = true) : w ∈ tb := List.mem_filter.mpr ⟨List.mem_of_getElem? h, g⟩
theorem tb_ws {ws : List Cond} (ps : List Nat) (hp : ws = ps.filterMap (fun i => lw_tbl[i]?)) (h : ws.all goodWord = true) : ∀ w ∈ ws, w ∈ tb := by
  intro w hw
  have h1 := List.all_eq_true.mp h w hw
  rw [hp] at hw
  obtain ⟨i, -, hi⟩ := List.mem_filterMap.mp hw
  exact tb_in i hi h1
abbrev wSh : Type := (Nat × Nat) ⊕ (Nat × List Nat)
def wcl : List vw_C := [(RX0, TX0, 10), (RX1, TX1, 2), (RX2, TX2, 4), (RX3, TX3, 9), (RX4, TX4, 4), (RX5, TX5, 4), (RX6, TX6, 9), (RX7, TX7, 3), (RX8, TX8, 4), (RX9, TX9, 6), (RX10, TX10, 5), (RX11, TX11, 13), (RX12, TX12, 27)]
def wV (ad : Nat → Nat) (kd : Nat) (z : Int) : Value := match kd with
  | 0 => .int (iI z)
  | 1 => .long (iL z)
  | n + 2 => .ref (ad n)
def wFs (ad : Nat → Nat) : List Nat → Nat → (Nat → Int) → List Value
  | [], _, _ => []
  | kd :: ks, i, r => wV ad kd (r i) :: wFs ad ks (i + 1) r
theorem wFs_get {ad : Nat → Nat} {r : Nat → Int} {kd : Nat} : ∀ (ks : List Nat) (i k : Nat), ks[k]? = some kd → (wFs ad ks i r)[k]? = some (wV ad kd (r (i + k)))
  | [], i, k, h => by simp at h
  | a :: ks, i, 0, h => by
    simp only [List.getElem?_cons_zero, Option.some.injEq] at h
    subst h
    rfl
  | a :: ks, i, k + 1, h => by
    rw [List.getElem?_cons_succ] at h
    have := wFs_get (ad := ad) (r := r) ks (i + 1) k h
    rw [wFs, List.getElem?_cons_succ, this]
    congr 3
    omega
theorem wFs_len {ad : Nat → Nat} {r : Nat → Int} : ∀ (ks : List Nat) (i : Nat), (wFs ad ks i r).length = ks.length
  | [], i => rfl
  | a :: ks, i => by rw [wFs, List.length_cons, List.length_cons, wFs_len ks (i + 1)]
theorem wFs_off {ad : Nat → Nat} {r : Nat → Int} {k : Nat} {z : Int} : ∀ (ks : List Nat) (i : Nat), k < i → wFs ad ks i (up1 r k z) = wFs ad ks i r
  | [], i, _ => rfl
  | a :: ks, i, h => by
    rw [wFs, wFs, wFs_off ks (i + 1) (by omega)]
    simp [up1, Nat.ne_of_gt h]
theorem wFs_set {ad : Nat → Nat} {r : Nat → Int} {kd : Nat} {z : Int} : ∀ (ks : List Nat) (i k : Nat), ks[k]? = some kd → (wFs ad ks i r).set k (wV ad kd z) = wFs ad ks i (up1 r (i + k) z)
  | [], i, k, h => by simp at h
  | a :: ks, i, 0, h => by
    simp only [List.getElem?_cons_zero, Option.some.injEq] at h
    subst h
    rw [wFs, List.set_cons_zero, wFs, Nat.add_zero, wFs_off ks (i + 1) (by omega)]
    simp [up1]
  | a :: ks, i, k + 1, h => by
    rw [List.getElem?_cons_succ] at h
    rw [wFs, List.set_cons_succ, wFs_set ks (i + 1) k h, wFs]
    have e : i + 1 + k = i + (k + 1) := by omega
    rw [e]
    congr 1
    simp [up1]
def wE (cA : Nat → ClassId) (ad : Nat → Nat) (sh : wSh) (r : Nat → Int) : va_E := match sh with
  | .inr (ci, ks) => .inr (ci, wFs ad ks 0 r)
  | .inl (0, n) => .inl (cA 0, n, .inl (fun j => iI (r j)))
  | .inl (1, n) => .inl (cA 1, n, .inr (.inl (fun j => iL (r j))))
  | .inl (2, n) => .inl (cA 2, n, .inr (.inr (.inr (.inr (fun j => some (ad (27 + j)))))))
  | .inl (_, n) => .inl (cA 3, n, .inr (.inr (.inr (.inr (fun j => some (ad (33 + 3 * j)))))))
def wNs (c : Nat) : List wSh := [.inr (4, [3, c + 3, c + 4, 0]), .inl (0, 6), .inl (0, 6)]
def wBs (c : Nat) : List wSh := [.inr (0, [0, 0, 0, 0, c + 3, c + 4, c + 5, c + 6, c + 7, c + 8]), .inl (0, 6), .inl (0, 6), .inl (0, 6), .inl (0, 6), .inl (0, 6), .inl (0, 8)]
def wShL : List wSh :=
  [.inr (11, [10, 3, 19, 22, 25, 28, 31, 53, 54, 60, 62, 65, 0])] ++ wBs 1 ++ [.inr (6, [11, 12, 0, 0, 0, 0, 0, 0, 0]), .inl (0, 200)] ++ wBs 10 ++ wNs 17 ++ wNs 20 ++ [.inr (5, [26, 27, 0, 0]), .inl (1, 30), .inl (0, 30), .inl (2, 2), .inr (2, [0, 1, 0, 0]), .inr (2, [0, 1, 0, 0]), .inr (10, [32, 33, 34, 0, 0]), .inl (3, 6), .inl (0, 5), .inl (0, 5)] ++ wNs 33 ++ wNs 36 ++ wNs 39 ++ wNs 42 ++ wNs 45 ++ wNs 48 ++ [.inr (7, [22, 0, 0]), .inr (3, [22, 55, 56, 57, 0, 0, 58, 59, 0]), .inl (0, 6), .inl (0, 6), .inl (0, 6), .inl (0, 6), .inl (0, 36), .inr (8, [22, 61, 0, 0]), .inl (1, 201), .inr (9, [63, 64, 0, 0, 0, 0]), .inl (0, 6), .inl (0, 6), .inr (1, [66, 0]), .inl (0, 20), .inr (12, [68, 69, 70, 0, 0, 0, 0, 0, 71, 0, 72, 0, 73, 74, 75, 76, 77, 78, 0, 79, 80, 0, 81, 0, 0, 0, 82]), .inl (0, 44), .inl (0, 44), .inl (0, 200), .inl (0, 13), .inl (0, 6), .inl (0, 390), .inl (0, 13), .inl (0, 6), .inl (0, 6), .inl (0, 6), .inl (0, 2412), .inl (0, 6), .inl (0, 6), .inl (0, 20), .inl (0, 30)]
def wsh (c : Nat) : wSh := wShL.getD c (.inl (0, 0))
theorem wShL_len : wShL.length = 81 := rfl
def wl (cA : Nat → ClassId) (ad : Nat → Nat) (σ : Mem) : va_W := (List.range 81).map (fun c => (ad c, wE cA ad (wsh c) (σ c)))
def wtys (cA : Nat → ClassId) : List (ClassId × FieldType) := [(cA 0, .int), (cA 1, .long), (cA 2, .object RX2), (cA 3, .object RX4)]
def wA (ad : Nat → Nat) : Nat → Prop := fun q => ∃ c, c < 81 ∧ q = ad c
def wI (ad : Nat → Nat) : Prop := ∀ i j, i < 81 → j < 81 → ad i = ad j → i = j
def wP (D : va_G) (cA : Nat → ClassId) (ad : Nat → Nat) (σ : Mem) (H : Heap) : Prop := va_P D wcl (wl cA ad σ) H
theorem wl_at {cA : Nat → ClassId} {ad : Nat → Nat} {σ : Mem} {c : Nat} (h : c < 81) : (wl cA ad σ)[c]? = some (ad c, wE cA ad (wsh c) (σ c)) := by
  simp [wl, List.getElem?_map, List.getElem?_range h]
theorem wl_inv {cA : Nat → ClassId} {ad : Nat → Nat} {σ : Mem} {c : Nat} {q : Nat × va_E} (h : (wl cA ad σ)[c]? = some q) : c < 81 ∧ q = (ad c, wE cA ad (wsh c) (σ c)) := by
  have hc : c < 81 := by
    have := (List.getElem?_eq_some_iff.mp h).1
    simpa [wl] using this
  rw [wl_at hc] at h
  exact ⟨hc, (Option.some.inj h).symm⟩
theorem wl_D {cA : Nat → ClassId} {ad : Nat → Nat} {σ : Mem} (hI : wI ad) : va_D (wA ad) (wl cA ad σ) := by
  refine ⟨fun i j p q hi hj e => ?_, fun k q hk => ?_⟩
  · obtain ⟨h1, rfl⟩ := wl_inv hi
    obtain ⟨h2, rfl⟩ := wl_inv hj
    exact hI i j h1 h2 e
  · obtain ⟨h1, rfl⟩ := wl_inv hk
    exact ⟨k, h1, rfl⟩
theorem wl_set {cA : Nat → ClassId} {ad : Nat → Nat} {σ : Mem} {c : Nat} {e : va_E} {r : Nat → Int} (h : c < 81) (he : e = wE cA ad (wsh c) r) : (wl cA ad σ).set c (ad c, e) = wl cA ad (upr σ c r) := by
  subst he
  apply List.ext_getElem?
  intro i
  by_cases hi : i < 81
  · rw [wl_at hi, List.getElem?_set]
    by_cases hc : c = i
    · subst hc
      simp [wl, upr, h]
    · simp [hc, wl_at hi, upr, Ne.symm hc]
  · have l1 : (wl cA ad (upr σ c (r))).length = 81 := by simp [wl]
    have l2 : ((wl cA ad σ).set c (ad c, wE cA ad (wsh c) r)).length = 81 := by simp [wl]
    rw [List.getElem?_eq_none (by omega), List.getElem?_eq_none (by omega)]
def wN (U : State) : Prop := va_Nw (.methodLinkNest RX7 32 yX11_wordOf RX11) U ∧ va_Nw (.methodLinkNest RX9 49 yX11_wordOf RX11) U
theorem wN.warm {s U : State} (hW : s.WarmedH U.vm) (h : wN s) : wN U := ⟨va_Nw.warmM hW h.1, va_Nw.warmM hW h.2⟩
def wB (D : va_G) (cA : Nat → ClassId) (ad : Nat → Nat) (σ : Mem) (U : State) : Prop := wP D cA ad σ U.heap ∧ va_K D wcl (wtys cA) U ∧ wN U
def wC (p : Program) (s : State) (m : MethodId) (args : Array Value) (c : Code) (cc : ByteArray) (nL : Nat) (own : String) (D : va_G) (cA : Nat → ClassId) (ad : Nat → Nat) : Prop :=
  p.tables.exec = Jvm.exec ∧ c.code = cc ∧ c.maxLocals = nL ∧ s.vm.findClass own = some m.cls ∧ (∀ w ∈ tb, w.before args s = true) ∧ va_K D wcl (wtys cA) s ∧ wI ad ∧ wN s
def rmL (k : Nat) : Room := { frames := k, cells := 0, slots := 0, locals := 64 * k }
/-! ===== what a field's link says, what a call's link says ===== -/
def wFl (own : String) (idx ci k : Nat) (C : String) (T : u_T) (N : Nat) (ty : Nat → FieldType) : Prop :=
  wcl[ci]? = some (C, T, N) ∧ k < N ∧ (∀ w ∈ u_ws C T N, w ∈ tb) ∧ Cond.fieldLink own idx C (T k).2.1 (T k).2.2.1 ∈ tb ∧ (T k).1 = C ∧ (∀ k, k < N → parseFieldDescriptor (T k).2.2.1 = some (ty k)) ∧ (∀ a, a < N → ∀ b, b < N → a ≠ b → (T a).2.1 ≠ (T b).2.1)
def wCl (own : String) (idx : Nat) (y : MethodName) (bytes : ByteArray) (maxL : Nat) (ret : Option FieldType) (n : Nat) : Prop :=
  Cond.methodLink own idx y ∈ tb ∧ Cond.code y bytes maxL ret ∈ tb ∧ Cond.initialized y.cls ∈ tb ∧ (y.cls ≠ "java/lang/invoke/MethodHandle" ∧ y.cls ≠ "java/lang/invoke/VarHandle" ∧ (parseMethodDescriptor y.desc).map (fun d => d.parameters.length) = some n)
def wCv (own : String) (idx : Nat) (y : MethodName) (bytes : ByteArray) (maxL : Nat) (ret : Option FieldType) (n : Nat) : Prop := wCl own idx y bytes maxL ret n ∧ Cond.instanceMethod y ∈ tb ∧ Cond.selects y.cls y y ∈ tb
def wCs (own : String) (idx : Nat) (y : MethodName) (bytes : ByteArray) (maxL : Nat) (ret : Option FieldType) (n : Nat) : Prop := wCl own idx y bytes maxL ret n ∧ Cond.static y ∈ tb
def wMi (l : Launch) (D : va_G) (cA : Nat → ClassId) (ad : Nat → Nat) (y : MethodName) (bytes : ByteArray) (maxL : Nat) (ret : Option FieldType) (j : Nat) (av : List Value) (σ : Mem) (Q : Int → Mem → Prop) : Prop :=
  Met l y (.code y bytes maxL ret :: tb) (rmL j) (va_Pc av (wB D cA ad σ)) (va_Qi (fun (r : Int32) (u : Mem) => ∃ z, r = iI z ∧ Q z u) (wB D cA ad) (wA ad)) 0 0 (wA ad)
def wMl (l : Launch) (D : va_G) (cA : Nat → ClassId) (ad : Nat → Nat) (y : MethodName) (bytes : ByteArray) (maxL : Nat) (ret : Option FieldType) (j : Nat) (av : List Value) (σ : Mem) (Q : Int → Mem → Prop) : Prop :=
  Met l y (.code y bytes maxL ret :: tb) (rmL j) (va_Pc av (wB D cA ad σ)) (va_Ql (fun (r : Int64) (u : Mem) => ∃ z, r = iL z ∧ Q z u) (wB D cA ad) (wA ad)) 0 0 (wA ad)
def wMv (l : Launch) (D : va_G) (cA : Nat → ClassId) (ad : Nat → Nat) (y : MethodName) (bytes : ByteArray) (maxL : Nat) (ret : Option FieldType) (j : Nat) (av : List Value) (σ : Mem) (Q : Mem → Prop) : Prop :=
  Met l y (.code y bytes maxL ret :: tb) (rmL j) (va_Pc av (wB D cA ad σ)) (va_Qv (fun (u : Mem) => Q u) (wB D cA ad) (wA ad)) 0 0 (wA ad)
section WK
variable {p : Program} {l : Launch} {e : Env} {R : Room} {s : State} {m : MethodId} {args : Array Value} {below : List Frame} {meth : Method} {c : Code} {H : Heap} {locs : List Loc} {cells slots : Nat} {Q : State → Prop}
variable {cc : ByteArray} {pc : Nat} {ls : Array Slot} {rest : List Value} {D : va_G} {cA : Nat → ClassId} {ad : Nat → Nat} {σ : Mem} {nL : Nat} {own : String} {H0 : Heap}
theorem wk_iadd (hx : p.tables.exec = Jvm.exec) (hb : c.code = cc) {x y : Int} (hdg : decode cc pc = .ok (.iadd, 1)) (k : W p l e R s m args below meth c H locs cells slots Q (F0 m (pc + 1) ls (.int (iI (x + y)) :: rest))) : W p l e R s m args below meth c H locs cells slots Q (F0 m pc ls (.int (iI y) :: .int (iI x) :: rest)) := lv_iadd hx hb hdg (by rw [iI_add]; exact k)
theorem wk_isub (hx : p.tables.exec = Jvm.exec) (hb : c.code = cc) {x y : Int} (hdg : decode cc pc = .ok (.isub, 1)) (k : W p l e R s m args below meth c H locs cells slots Q (F0 m (pc + 1) ls (.int (iI (x - y)) :: rest))) : W p l e R s m args below meth c H locs cells slots Q (F0 m pc ls (.int (iI y) :: .int (iI x) :: rest)) := lv_isub hx hb hdg (by rw [iI_sub]; exact k)
theorem wk_imul (hx : p.tables.exec = Jvm.exec) (hb : c.code = cc) {x y : Int} (hdg : decode cc pc = .ok (.imul, 1)) (k : W p l e R s m args below meth c H locs cells slots Q (F0 m (pc + 1) ls (.int (iI (x * y)) :: rest))) : W p l e R s m args below meth c H locs cells slots Q (F0 m pc ls (.int (iI y) :: .int (iI x) :: rest)) := lv_imul hx hb hdg (by rw [iI_mul]; exact k)
theorem wk_ineg (hx : p.tables.exec = Jvm.exec) (hb : c.code = cc) {x : Int} (hdg : decode cc pc = .ok (.ineg, 1)) (k : W p l e R s m args below meth c H locs cells slots Q (F0 m (pc + 1) ls (.int (iI (-x)) :: rest))) : W p l e R s m args below meth c H locs cells slots Q (F0 m pc ls (.int (iI x) :: rest)) := lv_ineg hx hb hdg (by first | (rw [iI_neg]; exact k) | (rw [show (0 : Int32) - iI x = iI (-x) by rw [← iI_neg]; simp]; exact k))
theorem wk_iand (hx : p.tables.exec = Jvm.exec) (hb : c.code = cc) {x y : Int} (hdg : decode cc pc = .ok (.iand, 1)) (k : W p l e R s m args below meth c H locs cells slots Q (F0 m (pc + 1) ls (.int (iI (zand x y)) :: rest))) : W p l e R s m args below meth c H locs cells slots Q (F0 m pc ls (.int (iI y) :: .int (iI x) :: rest)) := lv_iand hx hb hdg (by rw [zand, iI_of] at k; exact k)
theorem wk_ior (hx : p.tables.exec = Jvm.exec) (hb : c.code = cc) {x y : Int} (hdg : decode cc pc = .ok (.ior, 1)) (k : W p l e R s m args below meth c H locs cells slots Q (F0 m (pc + 1) ls (.int (iI (zor x y)) :: rest))) : W p l e R s m args below meth c H locs cells slots Q (F0 m pc ls (.int (iI y) :: .int (iI x) :: rest)) := lv_ior hx hb hdg (by rw [zor, iI_of] at k; exact k)
theorem wk_ixor (hx : p.tables.exec = Jvm.exec) (hb : c.code = cc) {x y : Int} (hdg : decode cc pc = .ok (.ixor, 1)) (k : W p l e R s m args below meth c H locs cells slots Q (F0 m (pc + 1) ls (.int (iI (zxor x y)) :: rest))) : W p l e R s m args below meth c H locs cells slots Q (F0 m pc ls (.int (iI y) :: .int (iI x) :: rest)) := lv_ixor hx hb hdg (by rw [zxor, iI_of] at k; exact k)
theorem wk_ishl (hx : p.tables.exec = Jvm.exec) (hb : c.code = cc) {x y : Int} (hdg : decode cc pc = .ok (.ishl, 1)) (k : W p l e R s m args below meth c H locs cells slots Q (F0 m (pc + 1) ls (.int (iI (zshl x y)) :: rest))) : W p l e R s m args below meth c H locs cells slots Q (F0 m pc ls (.int (iI y) :: .int (iI x) :: rest)) := lv_ishl hx hb hdg (by rw [zshl, iI_of] at k; exact k)
theorem wk_ishr (hx : p.tables.exec = Jvm.exec) (hb : c.code = cc) {x y : Int} (hdg : decode cc pc = .ok (.ishr, 1)) (k : W p l e R s m args below meth c H locs cells slots Q (F0 m (pc + 1) ls (.int (iI (zshr x y)) :: rest))) : W p l e R s m args below meth c H locs cells slots Q (F0 m pc ls (.int (iI y) :: .int (iI x) :: rest)) := lv_ishr hx hb hdg (by rw [zshr, iI_of] at k; exact k)
theorem wk_iushr (hx : p.tables.exec = Jvm.exec) (hb : c.code = cc) {x y : Int} (hdg : decode cc pc = .ok (.iushr, 1)) (k : W p l e R s m args below meth c H locs cells slots Q (F0 m (pc + 1) ls (.int (iI (zushr x y)) :: rest))) : W p l e R s m args below meth c H locs cells slots Q (F0 m pc ls (.int (iI y) :: .int (iI x) :: rest)) := lv_iushr (v := iI (zushr x y)) hx hb hdg (by rw [zushr, iI_of]) k
theorem wk_idiv (hx : p.tables.exec = Jvm.exec) (hb : c.code = cc) {x y : Int} (h1 : inR x) (h2 : inR y) (h3 : y ≠ 0) (hdg : decode cc pc = .ok (.idiv, 1)) (k : W p l e R s m args below meth c H locs cells slots Q (F0 m (pc + 1) ls (.int (iI (x.tdiv y)) :: rest))) : W p l e R s m args below meth c H locs cells slots Q (F0 m pc ls (.int (iI y) :: .int (iI x) :: rest)) := lv_idiv hx hb hdg (iI_nz h2 h3) (by rw [iI_div h1 h2]; exact k)
theorem wk_irem (hx : p.tables.exec = Jvm.exec) (hb : c.code = cc) {x y : Int} (h1 : inR x) (h2 : inR y) (h3 : y ≠ 0) (hdg : decode cc pc = .ok (.irem, 1)) (k : W p l e R s m args below meth c H locs cells slots Q (F0 m (pc + 1) ls (.int (iI (x.tmod y)) :: rest))) : W p l e R s m args below meth c H locs cells slots Q (F0 m pc ls (.int (iI y) :: .int (iI x) :: rest)) := lv_irem hx hb hdg (iI_nz h2 h3) (by rw [iI_rem h1 h2]; exact k)
theorem wk_ladd (hx : p.tables.exec = Jvm.exec) (hb : c.code = cc) {x y : Int} (hdg : decode cc pc = .ok (.ladd, 1)) (k : W p l e R s m args below meth c H locs cells slots Q (F0 m (pc + 1) ls (.long (iL (x + y)) :: rest))) : W p l e R s m args below meth c H locs cells slots Q (F0 m pc ls (.long (iL y) :: .long (iL x) :: rest)) := lv_ladd hx hb hdg (by rw [iL_add]; exact k)
theorem wk_lmul (hx : p.tables.exec = Jvm.exec) (hb : c.code = cc) {x y : Int} (hdg : decode cc pc = .ok (.lmul, 1)) (k : W p l e R s m args below meth c H locs cells slots Q (F0 m (pc + 1) ls (.long (iL (x * y)) :: rest))) : W p l e R s m args below meth c H locs cells slots Q (F0 m pc ls (.long (iL y) :: .long (iL x) :: rest)) := lv_lmul hx hb hdg (by rw [iL_mul]; exact k)
theorem wk_land (hx : p.tables.exec = Jvm.exec) (hb : c.code = cc) {x y : Int} (hdg : decode cc pc = .ok (.land, 1)) (k : W p l e R s m args below meth c H locs cells slots Q (F0 m (pc + 1) ls (.long (iL (yand x y)) :: rest))) : W p l e R s m args below meth c H locs cells slots Q (F0 m pc ls (.long (iL y) :: .long (iL x) :: rest)) := lv_land hx hb hdg (by rw [yand, iL_of] at k; exact k)
theorem wk_lor (hx : p.tables.exec = Jvm.exec) (hb : c.code = cc) {x y : Int} (hdg : decode cc pc = .ok (.lor, 1)) (k : W p l e R s m args below meth c H locs cells slots Q (F0 m (pc + 1) ls (.long (iL (yor x y)) :: rest))) : W p l e R s m args below meth c H locs cells slots Q (F0 m pc ls (.long (iL y) :: .long (iL x) :: rest)) := lv_lor hx hb hdg (by rw [yor, iL_of] at k; exact k)
theorem wk_lshl (hx : p.tables.exec = Jvm.exec) (hb : c.code = cc) {x y : Int} (hdg : decode cc pc = .ok (.lshl, 1)) (k : W p l e R s m args below meth c H locs cells slots Q (F0 m (pc + 1) ls (.long (iL (yshl x y)) :: rest))) : W p l e R s m args below meth c H locs cells slots Q (F0 m pc ls (.int (iI y) :: .long (iL x) :: rest)) := lv_lshl (v := iL (yshl x y)) hx hb hdg (by rw [yshl, iL_of]) k
theorem wk_lshr (hx : p.tables.exec = Jvm.exec) (hb : c.code = cc) {x y : Int} (hdg : decode cc pc = .ok (.lshr, 1)) (k : W p l e R s m args below meth c H locs cells slots Q (F0 m (pc + 1) ls (.long (iL (yshr x y)) :: rest))) : W p l e R s m args below meth c H locs cells slots Q (F0 m pc ls (.int (iI y) :: .long (iL x) :: rest)) := lv_lshr (v := iL (yshr x y)) hx hb hdg (by rw [yshr, iL_of]) k
theorem wk_ldiv (hx : p.tables.exec = Jvm.exec) (hb : c.code = cc) {x y : Int} (h1 : inL x) (h2 : inL y) (h3 : y ≠ 0) (hdg : decode cc pc = .ok (.ldiv, 1)) (k : W p l e R s m args below meth c H locs cells slots Q (F0 m (pc + 1) ls (.long (iL (x.tdiv y)) :: rest))) : W p l e R s m args below meth c H locs cells slots Q (F0 m pc ls (.long (iL y) :: .long (iL x) :: rest)) := lv_ldiv hx hb hdg (iL_nz h2 h3) (by rw [iL_div h1 h2]; exact k)
theorem wk_lrem (hx : p.tables.exec = Jvm.exec) (hb : c.code = cc) {x y : Int} (h1 : inL x) (h2 : inL y) (h3 : y ≠ 0) (hdg : decode cc pc = .ok (.lrem, 1)) (k : W p l e R s m args below meth c H locs cells slots Q (F0 m (pc + 1) ls (.long (iL (x.tmod y)) :: rest))) : W p l e R s m args below meth c H locs cells slots Q (F0 m pc ls (.long (iL y) :: .long (iL x) :: rest)) := lv_lrem hx hb hdg (iL_nz h2 h3) (by rw [iL_rem h1 h2]; exact k)
theorem wk_i2l (hx : p.tables.exec = Jvm.exec) (hb : c.code = cc) {x : Int} (h1 : inR x) (hdg : decode cc pc = .ok (.i2l, 1)) (k : W p l e R s m args below meth c H locs cells slots Q (F0 m (pc + 1) ls (.long (iL x) :: rest))) : W p l e R s m args below meth c H locs cells slots Q (F0 m pc ls (.int (iI x) :: rest)) := lv_i2l hx hb hdg (iI_i2l h1) k
theorem wk_l2i (hx : p.tables.exec = Jvm.exec) (hb : c.code = cc) {x : Int} (hdg : decode cc pc = .ok (.l2i, 1)) (k : W p l e R s m args below meth c H locs cells slots Q (F0 m (pc + 1) ls (.int (iI x) :: rest))) : W p l e R s m args below meth c H locs cells slots Q (F0 m pc ls (.long (iL x) :: rest)) := lv_l2i hx hb hdg (iL_l2i x) k
theorem wk_iinc (hx : p.tables.exec = Jvm.exec) (hb : c.code = cc) {i nL k : Nat} {n x : Int} {lv : List (Nat × Value)} {lv' : Int → List (Nat × Value)} (hdg : decode cc pc = .ok (.iinc i n, 3)) (h : lv_has ls nL lv) (hk : lv[k]? = some (i, .int (iI x))) (hn : i < nL) (hl : ∀ y : Int, (i, Value.int (iI y)) :: lv.filter (fun q => !(q.1 == i) && !(q.1 + 1 == i && q.2.category == 2)) = lv' y)
    (kk : ∀ (y : Int) (ls' : Array Slot), y = x + n → lv_has ls' nL (lv' y) → W p l e R s m args below meth c H locs cells slots Q (F0 m (pc + 3) ls' rest)) : W p l e R s m args below meth c H locs cells slots Q (F0 m pc ls rest) := lv_iinc (v := iI (x + n)) (lv' := lv' (x + n)) hx hb hdg h hk (iI_add x n) hn (hl _) (fun ls' h' => kk _ ls' rfl h')
theorem wk_top {z : Int} (k : ∀ x : Int, x = z → W p l e R s m args below meth c H locs cells slots Q (F0 m pc ls (.int (iI x) :: rest))) : W p l e R s m args below meth c H locs cells slots Q (F0 m pc ls (.int (iI z) :: rest)) := k z rfl
theorem wk_topl {z : Int} (k : ∀ x : Int, x = z → W p l e R s m args below meth c H locs cells slots Q (F0 m pc ls (.long (iL x) :: rest))) : W p l e R s m args below meth c H locs cells slots Q (F0 m pc ls (.long (iL z) :: rest)) := k z rfl
theorem wk_icmp_eq (hx : p.tables.exec = Jvm.exec) (hb : c.code = cc) {x y : Int} (h1 : inR x) (h2 : inR y) {off : Int} {tgt : Nat} (hdg : decode cc pc = .ok (.if_icmp .eq off, 3)) (ht : (pc : Int) + off = (tgt : Int))
    (kt : x = y → W p l e R s m args below meth c H locs cells slots Q (F0 m tgt ls rest)) (kf : ¬ x = y → W p l e R s m args below meth c H locs cells slots Q (F0 m (pc + 3) ls rest)) : W p l e R s m args below meth c H locs cells slots Q (F0 m pc ls (.int (iI y) :: .int (iI x) :: rest)) :=
  lv_icmp_eq hx hb hdg ht (fun h => kt (by exact (iI_eq h1 h2).mp h)) (fun h => kf (by exact fun q => h ((iI_eq h1 h2).mpr q)))
theorem wk_if_eq (hx : p.tables.exec = Jvm.exec) (hb : c.code = cc) {x : Int} (h1 : inR x) {off : Int} {tgt : Nat} (hdg : decode cc pc = .ok (.ifCond .eq off, 3)) (ht : (pc : Int) + off = (tgt : Int))
    (kt : x = 0 → W p l e R s m args below meth c H locs cells slots Q (F0 m tgt ls rest)) (kf : ¬ x = 0 → W p l e R s m args below meth c H locs cells slots Q (F0 m (pc + 3) ls rest)) : W p l e R s m args below meth c H locs cells slots Q (F0 m pc ls (.int (iI x) :: rest)) :=
  lv_if_eq hx hb hdg ht (fun h => kt (by rw [iI_0] at h; exact (iI_eq h1 inR_0).mp h)) (fun h => kf (by rw [iI_0] at h; exact fun q => h ((iI_eq h1 inR_0).mpr q)))
theorem wk_icmp_ne (hx : p.tables.exec = Jvm.exec) (hb : c.code = cc) {x y : Int} (h1 : inR x) (h2 : inR y) {off : Int} {tgt : Nat} (hdg : decode cc pc = .ok (.if_icmp .ne off, 3)) (ht : (pc : Int) + off = (tgt : Int))
    (kt : ¬ x = y → W p l e R s m args below meth c H locs cells slots Q (F0 m tgt ls rest)) (kf : x = y → W p l e R s m args below meth c H locs cells slots Q (F0 m (pc + 3) ls rest)) : W p l e R s m args below meth c H locs cells slots Q (F0 m pc ls (.int (iI y) :: .int (iI x) :: rest)) :=
  lv_icmp_ne hx hb hdg ht (fun h => kt (by exact fun q => h ((iI_eq h1 h2).mpr q))) (fun h => kf (by exact (iI_eq h1 h2).mp h))
theorem wk_if_ne (hx : p.tables.exec = Jvm.exec) (hb : c.code = cc) {x : Int} (h1 : inR x) {off : Int} {tgt : Nat} (hdg : decode cc pc = .ok (.ifCond .ne off, 3)) (ht : (pc : Int) + off = (tgt : Int))
    (kt : ¬ x = 0 → W p l e R s m args below meth c H locs cells slots Q (F0 m tgt ls rest)) (kf : x = 0 → W p l e R s m args below meth c H locs cells slots Q (F0 m (pc + 3) ls rest)) : W p l e R s m args below meth c H locs cells slots Q (F0 m pc ls (.int (iI x) :: rest)) :=
  lv_if_ne hx hb hdg ht (fun h => kt (by rw [iI_0] at h; exact fun q => h ((iI_eq h1 inR_0).mpr q))) (fun h => kf (by rw [iI_0] at h; exact (iI_eq h1 inR_0).mp h))
theorem wk_icmp_lt (hx : p.tables.exec = Jvm.exec) (hb : c.code = cc) {x y : Int} (h1 : inR x) (h2 : inR y) {off : Int} {tgt : Nat} (hdg : decode cc pc = .ok (.if_icmp .lt off, 3)) (ht : (pc : Int) + off = (tgt : Int))
    (kt : x < y → W p l e R s m args below meth c H locs cells slots Q (F0 m tgt ls rest)) (kf : ¬ x < y → W p l e R s m args below meth c H locs cells slots Q (F0 m (pc + 3) ls rest)) : W p l e R s m args below meth c H locs cells slots Q (F0 m pc ls (.int (iI y) :: .int (iI x) :: rest)) :=
  lv_icmp_lt hx hb hdg ht (fun h => kt (by exact (iI_lt h1 h2).mp h)) (fun h => kf (by exact fun q => h ((iI_lt h1 h2).mpr q)))
theorem wk_if_lt (hx : p.tables.exec = Jvm.exec) (hb : c.code = cc) {x : Int} (h1 : inR x) {off : Int} {tgt : Nat} (hdg : decode cc pc = .ok (.ifCond .lt off, 3)) (ht : (pc : Int) + off = (tgt : Int))
    (kt : x < 0 → W p l e R s m args below meth c H locs cells slots Q (F0 m tgt ls rest)) (kf : ¬ x < 0 → W p l e R s m args below meth c H locs cells slots Q (F0 m (pc + 3) ls rest)) : W p l e R s m args below meth c H locs cells slots Q (F0 m pc ls (.int (iI x) :: rest)) :=
  lv_if_lt hx hb hdg ht (fun h => kt (by rw [iI_0] at h; exact (iI_lt h1 inR_0).mp h)) (fun h => kf (by rw [iI_0] at h; exact fun q => h ((iI_lt h1 inR_0).mpr q)))
theorem wk_icmp_le (hx : p.tables.exec = Jvm.exec) (hb : c.code = cc) {x y : Int} (h1 : inR x) (h2 : inR y) {off : Int} {tgt : Nat} (hdg : decode cc pc = .ok (.if_icmp .le off, 3)) (ht : (pc : Int) + off = (tgt : Int))
    (kt : x ≤ y → W p l e R s m args below meth c H locs cells slots Q (F0 m tgt ls rest)) (kf : ¬ x ≤ y → W p l e R s m args below meth c H locs cells slots Q (F0 m (pc + 3) ls rest)) : W p l e R s m args below meth c H locs cells slots Q (F0 m pc ls (.int (iI y) :: .int (iI x) :: rest)) :=
  lv_icmp_le hx hb hdg ht (fun h => kt (by exact (iI_le h1 h2).mp h)) (fun h => kf (by exact fun q => h ((iI_le h1 h2).mpr q)))
theorem wk_if_le (hx : p.tables.exec = Jvm.exec) (hb : c.code = cc) {x : Int} (h1 : inR x) {off : Int} {tgt : Nat} (hdg : decode cc pc = .ok (.ifCond .le off, 3)) (ht : (pc : Int) + off = (tgt : Int))
    (kt : x ≤ 0 → W p l e R s m args below meth c H locs cells slots Q (F0 m tgt ls rest)) (kf : ¬ x ≤ 0 → W p l e R s m args below meth c H locs cells slots Q (F0 m (pc + 3) ls rest)) : W p l e R s m args below meth c H locs cells slots Q (F0 m pc ls (.int (iI x) :: rest)) :=
  lv_if_le hx hb hdg ht (fun h => kt (by rw [iI_0] at h; exact (iI_le h1 inR_0).mp h)) (fun h => kf (by rw [iI_0] at h; exact fun q => h ((iI_le h1 inR_0).mpr q)))
theorem wk_icmp_gt (hx : p.tables.exec = Jvm.exec) (hb : c.code = cc) {x y : Int} (h1 : inR x) (h2 : inR y) {off : Int} {tgt : Nat} (hdg : decode cc pc = .ok (.if_icmp .gt off, 3)) (ht : (pc : Int) + off = (tgt : Int))
    (kt : y < x → W p l e R s m args below meth c H locs cells slots Q (F0 m tgt ls rest)) (kf : ¬ y < x → W p l e R s m args below meth c H locs cells slots Q (F0 m (pc + 3) ls rest)) : W p l e R s m args below meth c H locs cells slots Q (F0 m pc ls (.int (iI y) :: .int (iI x) :: rest)) :=
  lv_icmp_gt hx hb hdg ht (fun h => kt (by exact (iI_lt h2 h1).mp h)) (fun h => kf (by exact fun q => h ((iI_lt h2 h1).mpr q)))
theorem wk_if_gt (hx : p.tables.exec = Jvm.exec) (hb : c.code = cc) {x : Int} (h1 : inR x) {off : Int} {tgt : Nat} (hdg : decode cc pc = .ok (.ifCond .gt off, 3)) (ht : (pc : Int) + off = (tgt : Int))
    (kt : 0 < x → W p l e R s m args below meth c H locs cells slots Q (F0 m tgt ls rest)) (kf : ¬ 0 < x → W p l e R s m args below meth c H locs cells slots Q (F0 m (pc + 3) ls rest)) : W p l e R s m args below meth c H locs cells slots Q (F0 m pc ls (.int (iI x) :: rest)) :=
  lv_if_gt hx hb hdg ht (fun h => kt (by rw [iI_0] at h; exact (iI_lt inR_0 h1).mp h)) (fun h => kf (by rw [iI_0] at h; exact fun q => h ((iI_lt inR_0 h1).mpr q)))
theorem wk_icmp_ge (hx : p.tables.exec = Jvm.exec) (hb : c.code = cc) {x y : Int} (h1 : inR x) (h2 : inR y) {off : Int} {tgt : Nat} (hdg : decode cc pc = .ok (.if_icmp .ge off, 3)) (ht : (pc : Int) + off = (tgt : Int))
    (kt : y ≤ x → W p l e R s m args below meth c H locs cells slots Q (F0 m tgt ls rest)) (kf : ¬ y ≤ x → W p l e R s m args below meth c H locs cells slots Q (F0 m (pc + 3) ls rest)) : W p l e R s m args below meth c H locs cells slots Q (F0 m pc ls (.int (iI y) :: .int (iI x) :: rest)) :=
  lv_icmp_ge hx hb hdg ht (fun h => kt (by exact (iI_le h2 h1).mp h)) (fun h => kf (by exact fun q => h ((iI_le h2 h1).mpr q)))
theorem wk_if_ge (hx : p.tables.exec = Jvm.exec) (hb : c.code = cc) {x : Int} (h1 : inR x) {off : Int} {tgt : Nat} (hdg : decode cc pc = .ok (.ifCond .ge off, 3)) (ht : (pc : Int) + off = (tgt : Int))
    (kt : 0 ≤ x → W p l e R s m args below meth c H locs cells slots Q (F0 m tgt ls rest)) (kf : ¬ 0 ≤ x → W p l e R s m args below meth c H locs cells slots Q (F0 m (pc + 3) ls rest)) : W p l e R s m args below meth c H locs cells slots Q (F0 m pc ls (.int (iI x) :: rest)) :=
  lv_if_ge hx hb hdg ht (fun h => kt (by rw [iI_0] at h; exact (iI_le inR_0 h1).mp h)) (fun h => kf (by rw [iI_0] at h; exact fun q => h ((iI_le inR_0 h1).mpr q)))
def iL_c (x y : Int) : Int := if y < x then 1 else if x = y then 0 else -1
theorem iL_cmp {x y : Int} (h1 : inL x) (h2 : inL y) : lg_cmp (iL x) (iL y) = iI (iL_c x y) := by
  unfold lg_cmp iL_c
  by_cases h : y < x
  · rw [if_pos h, if_pos ((iL_lt h2 h1).mpr h)]; rfl
  · rw [if_neg h, if_neg (fun q => h ((iL_lt h2 h1).mp q))]
    by_cases h' : x = y
    · rw [if_pos h', if_pos ((iL_eq h1 h2).mpr h')]; rfl
    · rw [if_neg h', if_neg (fun q => h' ((iL_eq h1 h2).mp q))]; rfl
theorem iL_cmpR (x y : Int) : inR (iL_c x y) := by
  unfold iL_c inR
  split
  · omega
  · split <;> omega
theorem wk_lcmp_eq (hx : p.tables.exec = Jvm.exec) (hb : c.code = cc) {x y : Int} (h1 : inL x) (h2 : inL y) {off : Int} {tgt : Nat} (hd0 : decode cc pc = .ok (.lcmp, 1)) (hdg : decode cc (pc + 1) = .ok (.ifCond .eq off, 3)) (ht : ((pc + 1 : Nat) : Int) + off = (tgt : Int))
    (kt : x = y → W p l e R s m args below meth c H locs cells slots Q (F0 m tgt ls rest)) (kf : ¬ x = y → W p l e R s m args below meth c H locs cells slots Q (F0 m (pc + 1 + 3) ls rest)) : W p l e R s m args below meth c H locs cells slots Q (F0 m pc ls (.long (iL y) :: .long (iL x) :: rest)) := by
  refine W.lcmp hx hb hd0 ?_
  rw [iL_cmp h1 h2]
  refine wk_if_eq hx hb (iL_cmpR x y) hdg ht (fun h => kt ?_) (fun h => kf ?_)
  all_goals (unfold iL_c at h; split at h <;> first | omega | (split at h <;> omega))
theorem wk_lcmp_ne (hx : p.tables.exec = Jvm.exec) (hb : c.code = cc) {x y : Int} (h1 : inL x) (h2 : inL y) {off : Int} {tgt : Nat} (hd0 : decode cc pc = .ok (.lcmp, 1)) (hdg : decode cc (pc + 1) = .ok (.ifCond .ne off, 3)) (ht : ((pc + 1 : Nat) : Int) + off = (tgt : Int))
    (kt : ¬ x = y → W p l e R s m args below meth c H locs cells slots Q (F0 m tgt ls rest)) (kf : x = y → W p l e R s m args below meth c H locs cells slots Q (F0 m (pc + 1 + 3) ls rest)) : W p l e R s m args below meth c H locs cells slots Q (F0 m pc ls (.long (iL y) :: .long (iL x) :: rest)) := by
  refine W.lcmp hx hb hd0 ?_
  rw [iL_cmp h1 h2]
  refine wk_if_ne hx hb (iL_cmpR x y) hdg ht (fun h => kt ?_) (fun h => kf ?_)
  all_goals (unfold iL_c at h; split at h <;> first | omega | (split at h <;> omega))
theorem wk_lcmp_lt (hx : p.tables.exec = Jvm.exec) (hb : c.code = cc) {x y : Int} (h1 : inL x) (h2 : inL y) {off : Int} {tgt : Nat} (hd0 : decode cc pc = .ok (.lcmp, 1)) (hdg : decode cc (pc + 1) = .ok (.ifCond .lt off, 3)) (ht : ((pc + 1 : Nat) : Int) + off = (tgt : Int))
    (kt : x < y → W p l e R s m args below meth c H locs cells slots Q (F0 m tgt ls rest)) (kf : ¬ x < y → W p l e R s m args below meth c H locs cells slots Q (F0 m (pc + 1 + 3) ls rest)) : W p l e R s m args below meth c H locs cells slots Q (F0 m pc ls (.long (iL y) :: .long (iL x) :: rest)) := by
  refine W.lcmp hx hb hd0 ?_
  rw [iL_cmp h1 h2]
  refine wk_if_lt hx hb (iL_cmpR x y) hdg ht (fun h => kt ?_) (fun h => kf ?_)
  all_goals (unfold iL_c at h; split at h <;> first | omega | (split at h <;> omega))
theorem wk_lcmp_le (hx : p.tables.exec = Jvm.exec) (hb : c.code = cc) {x y : Int} (h1 : inL x) (h2 : inL y) {off : Int} {tgt : Nat} (hd0 : decode cc pc = .ok (.lcmp, 1)) (hdg : decode cc (pc + 1) = .ok (.ifCond .le off, 3)) (ht : ((pc + 1 : Nat) : Int) + off = (tgt : Int))
    (kt : x ≤ y → W p l e R s m args below meth c H locs cells slots Q (F0 m tgt ls rest)) (kf : ¬ x ≤ y → W p l e R s m args below meth c H locs cells slots Q (F0 m (pc + 1 + 3) ls rest)) : W p l e R s m args below meth c H locs cells slots Q (F0 m pc ls (.long (iL y) :: .long (iL x) :: rest)) := by
  refine W.lcmp hx hb hd0 ?_
  rw [iL_cmp h1 h2]
  refine wk_if_le hx hb (iL_cmpR x y) hdg ht (fun h => kt ?_) (fun h => kf ?_)
  all_goals (unfold iL_c at h; split at h <;> first | omega | (split at h <;> omega))
theorem wk_lcmp_gt (hx : p.tables.exec = Jvm.exec) (hb : c.code = cc) {x y : Int} (h1 : inL x) (h2 : inL y) {off : Int} {tgt : Nat} (hd0 : decode cc pc = .ok (.lcmp, 1)) (hdg : decode cc (pc + 1) = .ok (.ifCond .gt off, 3)) (ht : ((pc + 1 : Nat) : Int) + off = (tgt : Int))
    (kt : y < x → W p l e R s m args below meth c H locs cells slots Q (F0 m tgt ls rest)) (kf : ¬ y < x → W p l e R s m args below meth c H locs cells slots Q (F0 m (pc + 1 + 3) ls rest)) : W p l e R s m args below meth c H locs cells slots Q (F0 m pc ls (.long (iL y) :: .long (iL x) :: rest)) := by
  refine W.lcmp hx hb hd0 ?_
  rw [iL_cmp h1 h2]
  refine wk_if_gt hx hb (iL_cmpR x y) hdg ht (fun h => kt ?_) (fun h => kf ?_)
  all_goals (unfold iL_c at h; split at h <;> first | omega | (split at h <;> omega))
theorem wk_lcmp_ge (hx : p.tables.exec = Jvm.exec) (hb : c.code = cc) {x y : Int} (h1 : inL x) (h2 : inL y) {off : Int} {tgt : Nat} (hd0 : decode cc pc = .ok (.lcmp, 1)) (hdg : decode cc (pc + 1) = .ok (.ifCond .ge off, 3)) (ht : ((pc + 1 : Nat) : Int) + off = (tgt : Int))
    (kt : y ≤ x → W p l e R s m args below meth c H locs cells slots Q (F0 m tgt ls rest)) (kf : ¬ y ≤ x → W p l e R s m args below meth c H locs cells slots Q (F0 m (pc + 1 + 3) ls rest)) : W p l e R s m args below meth c H locs cells slots Q (F0 m pc ls (.long (iL y) :: .long (iL x) :: rest)) := by
  refine W.lcmp hx hb hd0 ?_
  rw [iL_cmp h1 h2]
  refine wk_if_ge hx hb (iL_cmpR x y) hdg ht (fun h => kt ?_) (fun h => kf ?_)
  all_goals (unfold iL_c at h; split at h <;> first | omega | (split at h <;> omega))
/-! heap -/
theorem wk_get {idx ci k N kd cell : Nat} {C : String} {T : u_T} {ty : Nat → FieldType} {ks : List Nat} (C0 : wC p s m args c cc nL own D cA ad) (hf : wFl own idx ci k C T N ty) (hP : wP D cA ad σ H) (hc : cell < 81) (hsh : wsh cell = .inr (ci, ks)) (hkd : ks[k]? = some kd) (hdg : decode cc pc = .ok (.getfield idx, 3))
    (kk : W p l e R s m args below meth c H locs cells slots Q (F0 m (pc + 3) ls (wV ad kd (σ cell k) :: rest))) : W p l e R s m args below meth c H locs cells slots Q (F0 m pc ls (.ref (ad cell) :: rest)) := by
  obtain ⟨hx, hb, hml, hown, htb, hK, hI, hN⟩ := C0
  obtain ⟨f1, f2, f3, f4, f5, f6, f7⟩ := hf
  have he : (wl cA ad σ)[cell]? = some (ad cell, .inr (ci, wFs ad ks 0 (σ cell))) := by rw [wl_at hc, hsh]; rfl
  have hv := wFs_get (ad := ad) (r := σ cell) ks 0 k hkd
  rw [Nat.zero_add] at hv
  exact va_get hx hb htb f3 hown hK hP cell he f1 k f2 (htb _ f4) (fun x h => by rw [f5] at h; exact h) hv hdg kk
theorem wk_put {idx ci k N kd cell : Nat} {C : String} {T : u_T} {ty : Nat → FieldType} {ks : List Nat} {z : Int} (C0 : wC p s m args c cc nL own D cA ad) (hf : wFl own idx ci k C T N ty) (hfin : (T k).2.2.2 = false) (hP : wP D cA ad σ H) (hS : va_S (wA ad) H0 H locs) (hc : cell < 81) (hsh : wsh cell = .inr (ci, ks)) (hkd : ks[k]? = some kd) (hn : narrow (ty k) (wV ad kd z) = wV ad kd z) (hfit : fits (ty k) (wV ad kd z) = true) (hdg : decode cc pc = .ok (.putfield idx, 3))
    (kk : ∀ (u : Mem) (H1 : Heap) (locs1 : List Loc), u = up2 σ cell k z → wP D cA ad u H1 → va_S (wA ad) H0 H1 locs1 → W p l e R s m args below meth c H1 locs1 cells slots Q (F0 m (pc + 3) ls rest)) : W p l e R s m args below meth c H locs cells slots Q (F0 m pc ls (wV ad kd z :: .ref (ad cell) :: rest)) := by
  obtain ⟨hx, hb, hml, hown, htb, hK, hI, hN⟩ := C0
  obtain ⟨f1, f2, f3, f4, f5, f6, f7⟩ := hf
  have he : (wl cA ad σ)[cell]? = some (ad cell, .inr (ci, wFs ad ks 0 (σ cell))) := by rw [wl_at hc, hsh]; rfl
  have hlen : k < (wFs ad ks 0 (σ cell)).length := by rw [wFs_len]; exact (List.getElem?_eq_some_iff.mp hkd).1
  refine va_put hx hb htb f3 ty f6 f7 hown hK hP (wl_D hI) hS cell he f1 k f2 (htb _ f4) (fun x h => by rw [f5] at h; exact h) hfin (f6 k f2) hn hfit hlen hdg (fun H1 locs1 h1 h2 h3 => kk _ H1 locs1 rfl ?_ h3)
  have e := wFs_set (ad := ad) (r := σ cell) (z := z) ks 0 k hkd
  rw [Nat.zero_add] at e
  rw [e, wl_set (r := up1 (σ cell) k z) hc (by rw [hsh]; rfl)] at h1
  exact h1
theorem narrow_b {z : Int} (h : z = 0 ∨ z = 1) : narrow .boolean (.int (iI z)) = .int (iI z) ∧ fits .boolean (.int (iI z)) = true := by
  rcases h with rfl | rfl <;> exact ⟨by decide +kernel, by decide +kernel⟩
theorem wk_getI {idx ci k N cell : Nat} {C : String} {T : u_T} {ty : Nat → FieldType} {ks : List Nat} (C0 : wC p s m args c cc nL own D cA ad) (hf : wFl own idx ci k C T N ty) (hP : wP D cA ad σ H) (hc : cell < 81) (hsh : wsh cell = .inr (ci, ks)) (hkd : ks[k]? = some 0) (hdg : decode cc pc = .ok (.getfield idx, 3))
    (kk : W p l e R s m args below meth c H locs cells slots Q (F0 m (pc + 3) ls (.int (iI (σ cell k)) :: rest))) : W p l e R s m args below meth c H locs cells slots Q (F0 m pc ls (.ref (ad cell) :: rest)) := wk_get C0 hf hP hc hsh hkd hdg kk
theorem wk_getJ {idx ci k N cell : Nat} {C : String} {T : u_T} {ty : Nat → FieldType} {ks : List Nat} (C0 : wC p s m args c cc nL own D cA ad) (hf : wFl own idx ci k C T N ty) (hP : wP D cA ad σ H) (hc : cell < 81) (hsh : wsh cell = .inr (ci, ks)) (hkd : ks[k]? = some 1) (hdg : decode cc pc = .ok (.getfield idx, 3))
    (kk : W p l e R s m args below meth c H locs cells slots Q (F0 m (pc + 3) ls (.long (iL (σ cell k)) :: rest))) : W p l e R s m args below meth c H locs cells slots Q (F0 m pc ls (.ref (ad cell) :: rest)) := wk_get C0 hf hP hc hsh hkd hdg kk
theorem wk_getR {idx ci k N cell : Nat} {C : String} {T : u_T} {ty : Nat → FieldType} {ks : List Nat} (tgt : Nat) (C0 : wC p s m args c cc nL own D cA ad) (hf : wFl own idx ci k C T N ty) (hP : wP D cA ad σ H) (hc : cell < 81) (hsh : wsh cell = .inr (ci, ks)) (hkd : ks[k]? = some (tgt + 2)) (hdg : decode cc pc = .ok (.getfield idx, 3))
    (kk : W p l e R s m args below meth c H locs cells slots Q (F0 m (pc + 3) ls (.ref (ad tgt) :: rest))) : W p l e R s m args below meth c H locs cells slots Q (F0 m pc ls (.ref (ad cell) :: rest)) := wk_get C0 hf hP hc hsh hkd hdg kk
theorem wk_putI {idx ci k N cell : Nat} {C : String} {T : u_T} {ty : Nat → FieldType} {ks : List Nat} {z : Int} (C0 : wC p s m args c cc nL own D cA ad) (hf : wFl own idx ci k C T N ty) (hfin : (T k).2.2.2 = false) (hty : ty k = .int) (hP : wP D cA ad σ H) (hS : va_S (wA ad) H0 H locs) (hc : cell < 81) (hsh : wsh cell = .inr (ci, ks)) (hkd : ks[k]? = some 0) (hdg : decode cc pc = .ok (.putfield idx, 3))
    (kk : ∀ (u : Mem) (H1 : Heap) (locs1 : List Loc), u = up2 σ cell k z → wP D cA ad u H1 → va_S (wA ad) H0 H1 locs1 → W p l e R s m args below meth c H1 locs1 cells slots Q (F0 m (pc + 3) ls rest)) : W p l e R s m args below meth c H locs cells slots Q (F0 m pc ls (.int (iI z) :: .ref (ad cell) :: rest)) := wk_put (kd := 0) C0 hf hfin hP hS hc hsh hkd (by rw [hty]; rfl) (by rw [hty]; rfl) hdg kk
theorem wk_putZ {idx ci k N cell : Nat} {C : String} {T : u_T} {ty : Nat → FieldType} {ks : List Nat} {z : Int} (C0 : wC p s m args c cc nL own D cA ad) (hf : wFl own idx ci k C T N ty) (hfin : (T k).2.2.2 = false) (hty : ty k = .boolean) (hz : z = 0 ∨ z = 1) (hP : wP D cA ad σ H) (hS : va_S (wA ad) H0 H locs) (hc : cell < 81) (hsh : wsh cell = .inr (ci, ks)) (hkd : ks[k]? = some 0) (hdg : decode cc pc = .ok (.putfield idx, 3))
    (kk : ∀ (u : Mem) (H1 : Heap) (locs1 : List Loc), u = up2 σ cell k z → wP D cA ad u H1 → va_S (wA ad) H0 H1 locs1 → W p l e R s m args below meth c H1 locs1 cells slots Q (F0 m (pc + 3) ls rest)) : W p l e R s m args below meth c H locs cells slots Q (F0 m pc ls (.int (iI z) :: .ref (ad cell) :: rest)) := wk_put (kd := 0) C0 hf hfin hP hS hc hsh hkd (by rw [hty]; exact (narrow_b hz).1) (by rw [hty]; exact (narrow_b hz).2) hdg kk
theorem wk_putJ {idx ci k N cell : Nat} {C : String} {T : u_T} {ty : Nat → FieldType} {ks : List Nat} {z : Int} (C0 : wC p s m args c cc nL own D cA ad) (hf : wFl own idx ci k C T N ty) (hfin : (T k).2.2.2 = false) (hty : ty k = .long) (hP : wP D cA ad σ H) (hS : va_S (wA ad) H0 H locs) (hc : cell < 81) (hsh : wsh cell = .inr (ci, ks)) (hkd : ks[k]? = some 1) (hdg : decode cc pc = .ok (.putfield idx, 3))
    (kk : ∀ (u : Mem) (H1 : Heap) (locs1 : List Loc), u = up2 σ cell k z → wP D cA ad u H1 → va_S (wA ad) H0 H1 locs1 → W p l e R s m args below meth c H1 locs1 cells slots Q (F0 m (pc + 3) ls rest)) : W p l e R s m args below meth c H locs cells slots Q (F0 m pc ls (.long (iL z) :: .ref (ad cell) :: rest)) := wk_put (kd := 1) C0 hf hfin hP hS hc hsh hkd (by rw [hty]; rfl) (by rw [hty]; rfl) hdg kk
theorem wk_iald {n cell : Nat} {i : Int} (C0 : wC p s m args c cc nL own D cA ad) (hP : wP D cA ad σ H) (hc : cell < 81) (hsh : wsh cell = .inl (0, n)) (h0 : 0 ≤ i) (h1 : i < (n : Int)) (hn : n ≤ 1000000) (hdg : decode cc pc = .ok (.iaload, 1))
    (kk : W p l e R s m args below meth c H locs cells slots Q (F0 m (pc + 1) ls (.int (iI (σ cell i.toNat)) :: rest))) : W p l e R s m args below meth c H locs cells slots Q (F0 m pc ls (.int (iI i) :: .ref (ad cell) :: rest)) := by
  obtain ⟨hx, hb, hml, hown, htb, hK, hI, hN⟩ := C0
  have he : (wl cA ad σ)[cell]? = some (ad cell, .inl (cA 0, n, .inl (fun j => iI (σ cell j)))) := by rw [wl_at hc, hsh]; rfl
  refine va_iald hx hb hK hP cell 0 he rfl (iI_in h0 h1 hn) hdg ?_
  rw [iI_cl h0 (by omega)]
  exact kk
theorem wk_lald {n cell : Nat} {i : Int} (C0 : wC p s m args c cc nL own D cA ad) (hP : wP D cA ad σ H) (hc : cell < 81) (hsh : wsh cell = .inl (1, n)) (h0 : 0 ≤ i) (h1 : i < (n : Int)) (hn : n ≤ 1000000) (hdg : decode cc pc = .ok (.laload, 1))
    (kk : W p l e R s m args below meth c H locs cells slots Q (F0 m (pc + 1) ls (.long (iL (σ cell i.toNat)) :: rest))) : W p l e R s m args below meth c H locs cells slots Q (F0 m pc ls (.int (iI i) :: .ref (ad cell) :: rest)) := by
  obtain ⟨hx, hb, hml, hown, htb, hK, hI, hN⟩ := C0
  have he : (wl cA ad σ)[cell]? = some (ad cell, .inl (cA 1, n, .inr (.inl (fun j => iL (σ cell j))))) := by rw [wl_at hc, hsh]; rfl
  refine va_lald hx hb hK hP cell 1 he rfl (iI_in h0 h1 hn) hdg ?_
  rw [iI_cl h0 (by omega)]
  exact kk
theorem wk_aaldI {i : Int} (C0 : wC p s m args c cc nL own D cA ad) (hP : wP D cA ad σ H) (h0 : 0 ≤ i) (h1 : i < 2) (hdg : decode cc pc = .ok (.aaload, 1))
    (kk : W p l e R s m args below meth c H locs cells slots Q (F0 m (pc + 1) ls (.ref (ad (27 + i.toNat)) :: rest))) : W p l e R s m args below meth c H locs cells slots Q (F0 m pc ls (.int (iI i) :: .ref (ad 26) :: rest)) := by
  obtain ⟨hx, hb, hml, hown, htb, hK, hI, hN⟩ := C0
  have he : (wl cA ad σ)[26]? = some (ad 26, .inl (cA 2, 2, .inr (.inr (.inr (.inr (fun j => some (ad (27 + j)))))))) := by rw [wl_at (by decide)]; rfl
  refine va_aldq hx hb hK hP 26 2 he rfl (iI_in h0 (by omega) (by omega)) hdg ?_
  rw [iI_cl h0 (by omega)]
  exact kk
theorem wk_aaldN {i : Int} (C0 : wC p s m args c cc nL own D cA ad) (hP : wP D cA ad σ H) (h0 : 0 ≤ i) (h1 : i < 6) (hdg : decode cc pc = .ok (.aaload, 1))
    (kk : W p l e R s m args below meth c H locs cells slots Q (F0 m (pc + 1) ls (.ref (ad (33 + 3 * i.toNat)) :: rest))) : W p l e R s m args below meth c H locs cells slots Q (F0 m pc ls (.int (iI i) :: .ref (ad 30) :: rest)) := by
  obtain ⟨hx, hb, hml, hown, htb, hK, hI, hN⟩ := C0
  have he : (wl cA ad σ)[30]? = some (ad 30, .inl (cA 3, 6, .inr (.inr (.inr (.inr (fun j => some (ad (33 + 3 * j)))))))) := by rw [wl_at (by decide)]; rfl
  refine va_aldq hx hb hK hP 30 3 he rfl (iI_in h0 (by omega) (by omega)) hdg ?_
  rw [iI_cl h0 (by omega)]
  exact kk
theorem up_iI (r : Nat → Int) (k : Nat) (z : Int) : upd (fun j => iI (r j)) k (iI z) = fun j => iI (up1 r k z j) := by
  funext j
  simp only [upd, up1]
  split <;> rfl
theorem up_iL (r : Nat → Int) (k : Nat) (z : Int) : vp_updL (fun j => iL (r j)) k (iL z) = fun j => iL (up1 r k z j) := by
  funext j
  simp only [vp_updL, up1]
  split <;> rfl
theorem wk_iast {n cell : Nat} {i z : Int} (C0 : wC p s m args c cc nL own D cA ad) (hP : wP D cA ad σ H) (hS : va_S (wA ad) H0 H locs) (hc : cell < 81) (hsh : wsh cell = .inl (0, n)) (h0 : 0 ≤ i) (h1 : i < (n : Int)) (hn : n ≤ 1000000) (hdg : decode cc pc = .ok (.iastore, 1))
    (kk : ∀ (u : Mem) (H1 : Heap) (locs1 : List Loc), u = up2 σ cell i.toNat z → wP D cA ad u H1 → va_S (wA ad) H0 H1 locs1 → W p l e R s m args below meth c H1 locs1 cells slots Q (F0 m (pc + 1) ls rest)) : W p l e R s m args below meth c H locs cells slots Q (F0 m pc ls (.int (iI z) :: .int (iI i) :: .ref (ad cell) :: rest)) := by
  obtain ⟨hx, hb, hml, hown, htb, hK, hI, hN⟩ := C0
  have he : (wl cA ad σ)[cell]? = some (ad cell, .inl (cA 0, n, .inl (fun j => iI (σ cell j)))) := by rw [wl_at hc, hsh]; rfl
  refine va_iast hx hb hK hP (wl_D hI) hS cell 0 he rfl (iI_in h0 h1 hn) hdg (fun H1 locs1 q1 q2 q3 => kk _ H1 locs1 rfl ?_ q3)
  rw [iI_cl h0 (by omega), up_iI, wl_set (r := up1 (σ cell) i.toNat z) hc (by rw [hsh]; rfl)] at q1
  exact q1
theorem wk_last {n cell : Nat} {i z : Int} (C0 : wC p s m args c cc nL own D cA ad) (hP : wP D cA ad σ H) (hS : va_S (wA ad) H0 H locs) (hc : cell < 81) (hsh : wsh cell = .inl (1, n)) (h0 : 0 ≤ i) (h1 : i < (n : Int)) (hn : n ≤ 1000000) (hdg : decode cc pc = .ok (.lastore, 1))
    (kk : ∀ (u : Mem) (H1 : Heap) (locs1 : List Loc), u = up2 σ cell i.toNat z → wP D cA ad u H1 → va_S (wA ad) H0 H1 locs1 → W p l e R s m args below meth c H1 locs1 cells slots Q (F0 m (pc + 1) ls rest)) : W p l e R s m args below meth c H locs cells slots Q (F0 m pc ls (.long (iL z) :: .int (iI i) :: .ref (ad cell) :: rest)) := by
  obtain ⟨hx, hb, hml, hown, htb, hK, hI, hN⟩ := C0
  have he : (wl cA ad σ)[cell]? = some (ad cell, .inl (cA 1, n, .inr (.inl (fun j => iL (σ cell j))))) := by rw [wl_at hc, hsh]; rfl
  refine va_last hx hb hK hP (wl_D hI) hS cell 1 he rfl (iI_in h0 h1 hn) hdg (fun H1 locs1 q1 q2 q3 => kk _ H1 locs1 rfl ?_ q3)
  rw [iI_cl h0 (by omega), up_iL, wl_set (r := up1 (σ cell) i.toNat z) hc (by rw [hsh]; rfl)] at q1
  exact q1
theorem cpy_iI (f g : Nat → Int) (n : Nat) : va_cpy (fun j => iI (f j)) (fun j => iI (g j)) 0 0 n = fun j => iI (if j < n then f j else g j) := by
  funext j
  simp only [va_cpy]
  by_cases h : j < n
  · rw [if_pos ⟨by omega, by omega⟩, if_pos h]; congr 2; omega
  · rw [if_neg (by omega), if_neg h]
theorem wk_copy {n0 n1 idx c0 c1 : Nat} {n : Int} (C0 : wC p s m args c cc nL own D cA ad) (hsz : ls.size = nL) (hlk : Cond.methodLink own idx arraycopyName ∈ tb) (hnat : Cond.native arraycopyName ∈ tb) (hstat : Cond.static arraycopyName ∈ tb) (hini : Cond.initialized "java/lang/System" ∈ tb) (hP : wP D cA ad σ H) (hS : va_S (wA ad) H0 H locs) (hc0 : c0 < 81) (hc1 : c1 < 81) (hs0 : wsh c0 = .inl (0, n0)) (hs1 : wsh c1 = .inl (0, n1)) (h0 : 0 ≤ n) (h1 : n ≤ (n0 : Int)) (h2 : n ≤ (n1 : Int)) (hn : n0 ≤ 1000000)
    (hframes : 1 ≤ R.frames) (hlocals : (rest.map fun v => v.category).sum + (nativeFrameWords "java/lang/System" "arraycopy" 5 + 11) ≤ R.locals) (hdg : decode cc pc = .ok (.invokestatic idx, 3))
    (kk : ∀ (u : Mem) (H1 : Heap) (locs1 : List Loc), u = upr σ c1 (fun j => if j < n.toNat then σ c0 j else σ c1 j) → wP D cA ad u H1 → va_S (wA ad) H0 H1 locs1 → W p l e R s m args below meth c H1 locs1 cells slots Q (F0 m (pc + 3) ls rest)) : W p l e R s m args below meth c H locs cells slots Q (F0 m pc ls (.int (iI n) :: .int (iI 0) :: .ref (ad c1) :: .int (iI 0) :: .ref (ad c0) :: rest)) := by
  obtain ⟨hx, hb, hml, hown, htb, hK, hI, hN⟩ := C0
  have he0 : (wl cA ad σ)[c0]? = some (ad c0, .inl (cA 0, n0, .inl (fun j => iI (σ c0 j)))) := by rw [wl_at hc0, hs0]; rfl
  have he1 : (wl cA ad σ)[c1]? = some (ad c1, .inl (cA 0, n1, .inl (fun j => iI (σ c1 j)))) := by rw [wl_at hc1, hs1]; rfl
  have z0 : (iI 0).toNatClampNeg = 0 := by rw [iI_cl (by omega) (by omega)]; rfl
  have zn : (iI n).toNatClampNeg = n.toNat := iI_cl h0 (by omega)
  have nz : ¬ iI 0 < 0 := by rw [iI_0, iI_lt inR_0 inR_0]; omega
  have nn : ¬ iI n < 0 := by rw [iI_0, iI_lt ⟨by omega, by omega⟩ inR_0]; omega
  refine va_copyi hx hb (by rw [hml, hsz]) hown (htb _ hlk) (htb _ hnat) (htb _ hstat) (htb _ hini) hK hP (wl_D hI) hS c0 c1 0 0 he0 he1 rfl rfl rfl nz nz nn (by rw [z0, zn]; omega) (by rw [z0, zn]; omega) (fun i _ => rfl) hframes hlocals hdg (fun H1 locs1 q1 q2 q3 => kk _ H1 locs1 rfl ?_ q3)
  rw [z0, zn, cpy_iI, wl_set (r := fun j => if j < n.toNat then σ c0 j else σ c1 j) hc1 (by rw [hs1]; rfl)] at q1
  exact q1
/-! calls -/
theorem wB_blind {av : List Value} : FrameBlind (va_Pc av (wB D cA ad σ)) := fun a U g mk q => ⟨q.1, q.2.1, va_K.moved (u := U) (U := U.calling g mk a) (Vm.Alike.refl U.vm) q.2.2.1, va_Nw.same rfl (rfl : U.vm = (U.calling g mk a).vm) q.2.2.2.1, va_Nw.same rfl (rfl : U.vm = (U.calling g mk a).vm) q.2.2.2.2⟩
theorem wk_callB {j idx maxL n : Nat} {y : MethodName} {bytes : ByteArray} {ret : Option FieldType} (C0 : wC p s m args c cc nL own D cA ad) (hcl : wCl own idx y bytes maxL ret n) (hR : j + 1 ≤ R.frames ∧ 8 + (maxL + 11) + 64 * j ≤ R.locals) : CallB R s args own idx y bytes maxL ret (.code y bytes maxL ret :: tb) (rmL j) 0 0 n := by
  obtain ⟨hx, hb, hml, hown, htb, hK, hI, hN⟩ := C0
  obtain ⟨q1, q2, q3, q4⟩ := hcl
  refine callB_of (Ts := tb) n htb (fun w hw => ?_) rfl rfl rfl (htb _ q3) (htb _ q1) q4 hR
  have hm : w ∈ tb := by
    rcases List.mem_cons.mp hw with h | h
    · rw [h]; exact q2
    · exact h
  exact ⟨hm, good_of_word (List.mem_filter.mp hm).2⟩
theorem wk_callV {j idx maxL n cl ci N : Nat} {T : u_T} {ks : List Nat} {y : MethodName} {bytes : ByteArray} {ret : Option FieldType} {As st : List Value} {Qc : Array Value → State → Outcome → State → Prop} (C0 : wC p s m args c cc nL own D cA ad) (hcl : wCv own idx y bytes maxL ret n)
    (hM : Met l y (.code y bytes maxL ret :: tb) (rmL j) (va_Pc (.ref (ad cl) :: As) (wB D cA ad σ)) Qc 0 0 (wA ad)) (hP : wP D cA ad σ H) (hc : cl < 81) (hsh : wsh cl = .inr (ci, ks)) (hcc : wcl[ci]? = some (y.cls, T, N)) (hn : As.length = n) (hst : st = As.reverse ++ .ref (ad cl) :: rest) (hW : (rest.map fun v => v.category).sum ≤ 8) (hR : j + 1 ≤ R.frames ∧ 8 + (maxL + 11) + 64 * j ≤ R.locals) (hsz : ls.size = nL) (hdg : decode cc pc = .ok (.invokevirtual idx, 3)) (hcs : cells ≤ R.cells ∧ slots ≤ R.slots) :
    va_Run p l e R s m args below meth c H locs cells slots 0 0 (F0 m pc ls st) rest (Qc (Value.ref (ad cl) :: As).toArray) (wA ad) := by
  have hB := wk_callB (R := R) (j := j) C0 hcl.1 hR
  obtain ⟨hx, hb, hml, hown, htb, hK, hI, hN⟩ := C0
  have he : (wl cA ad σ)[cl]? = some (ad cl, .inr (ci, wFs ad ks 0 (σ cl))) := by rw [wl_at hc, hsh]; rfl
  refine va_runV (Ts := tb) (C := y.cls) (As := As) (rest := rest) ⟨hx, hb, hml, hown, htb⟩ hM ⟨hB, htb _ hcl.2.1, htb _ hcl.2.2⟩ ⟨wB_blind, va_recv hK hP hcc he, fun U hU hW => ⟨rfl, by rw [hU]; exact hP, va_K.moved hW.alike hK, hN.warm hW⟩⟩ rfl hn hsz hst (lv_room hW) hdg hcs
theorem wk_callS {j idx maxL n : Nat} {y : MethodName} {bytes : ByteArray} {ret : Option FieldType} {As st : List Value} {Qc : Array Value → State → Outcome → State → Prop} (C0 : wC p s m args c cc nL own D cA ad) (hcl : wCs own idx y bytes maxL ret n)
    (hM : Met l y (.code y bytes maxL ret :: tb) (rmL j) (va_Pc As (wB D cA ad σ)) Qc 0 0 (wA ad)) (hP : wP D cA ad σ H) (hn : As.length = n) (hst : st = As.reverse ++ rest) (hW : (rest.map fun v => v.category).sum ≤ 8) (hR : j + 1 ≤ R.frames ∧ 8 + (maxL + 11) + 64 * j ≤ R.locals) (hsz : ls.size = nL) (hdg : decode cc pc = .ok (.invokestatic idx, 3)) (hcs : cells ≤ R.cells ∧ slots ≤ R.slots) :
    va_Run p l e R s m args below meth c H locs cells slots 0 0 (F0 m pc ls st) rest (Qc As.toArray) (wA ad) := by
  have hB := wk_callB (R := R) (j := j) C0 hcl.1 hR
  obtain ⟨hx, hb, hml, hown, htb, hK, hI, hN⟩ := C0
  refine va_runS (Ts := tb) (As := As) (rest := rest) ⟨hx, hb, hml, hown, htb⟩ hM ⟨hB, htb _ hcl.2⟩ ⟨wB_blind, fun U hU hW => ⟨rfl, by rw [hU]; exact hP, va_K.moved hW.alike hK, hN.warm hW⟩⟩ rfl hn hsz hst (lv_room hW) hdg hcs
theorem wk_callSN {j idx maxL n : Nat} {host : String} {y : MethodName} {bytes : ByteArray} {ret : Option FieldType} {As st : List Value} {Qc : Array Value → State → Outcome → State → Prop} (C0 : wC p s m args c cc nL own D cA ad) (hl : va_Nw (.methodLinkNest own idx y host) s) (h2 : Cond.code y bytes maxL ret ∈ tb) (h3 : Cond.initialized y.cls ∈ tb) (h5 : Cond.static y ∈ tb) (h4 : y.cls ≠ "java/lang/invoke/MethodHandle" ∧ y.cls ≠ "java/lang/invoke/VarHandle" ∧ (parseMethodDescriptor y.desc).map (fun d => d.parameters.length) = some n)
    (hM : Met l y (.code y bytes maxL ret :: tb) (rmL j) (va_Pc As (wB D cA ad σ)) Qc 0 0 (wA ad)) (hP : wP D cA ad σ H) (hn : As.length = n) (hst : st = As.reverse ++ rest) (hW : (rest.map fun v => v.category).sum ≤ 8) (hR : j + 1 ≤ R.frames ∧ 8 + (maxL + 11) + 64 * j ≤ R.locals) (hsz : ls.size = nL) (hdg : decode cc pc = .ok (.invokestatic idx, 3)) (hcs : cells ≤ R.cells ∧ slots ≤ R.slots) :
    va_Run p l e R s m args below meth c H locs cells slots 0 0 (F0 m pc ls st) rest (Qc As.toArray) (wA ad) := by
  obtain ⟨hx, hb, hml, hown, htb, hK, hI, hN⟩ := C0
  refine va_runSN (Ts := tb) (As := As) (rest := rest) ⟨hx, hb, hml, hown, htb⟩ hM ⟨va_cnB (Ts := tb) n htb (fun w hw => ?_) rfl rfl rfl hl (htb _ h3) h4 hR, htb _ h5, trivial⟩ ⟨wB_blind, fun U hU hW => ⟨rfl, by rw [hU]; exact hP, va_K.moved hW.alike hK, hN.warm hW⟩⟩ rfl hn hsz hst (lv_room hW) hdg hcs
  have hm : w ∈ tb := by
    rcases List.mem_cons.mp hw with h | h
    · rw [h]; exact h2
    · exact h
  exact ⟨hm, good_of_word (List.mem_filter.mp hm).2⟩
theorem wk_ri {st : List Value} {a : Array Value} {P : Int → Mem → Prop} (hr : va_Run p l e R s m args below meth c H locs cells slots 0 0 (F0 m pc ls st) rest (va_Qi (fun (r : Int32) (u : Mem) => ∃ z, r = iI z ∧ P z u) (wB D cA ad) (wA ad) a) (wA ad)) (hS : va_S (wA ad) H0 H locs)
    (kk : ∀ (z : Int) (u : Mem) (H1 : Heap) (locs1 : List Loc), P z u → wP D cA ad u H1 → va_S (wA ad) H0 H1 locs1 → W p l e R s m args below meth c H1 locs1 cells slots Q (F0 m (pc + 3) ls (.int (iI z) :: rest))) : W p l e R s m args below meth c H locs cells slots Q (F0 m pc ls st) :=
  va_calli hr hS (fun _ _ h => h) (fun _ h => h) (fun r u t H1 locs1 ht hvm hw hB hz1 hk1 hS1 => by
    obtain ⟨z, rfl, hw⟩ := hw
    exact kk z u H1 locs1 hw (by rw [← ht]; exact hB.1) hS1)
theorem wk_rip {st : List Value} {a : Array Value} {P : Int → Prop} (hr : va_Run p l e R s m args below meth c H locs cells slots 0 0 (F0 m pc ls st) rest (va_Qi (fun (r : Int32) (u : Mem) => ∃ z, r = iI z ∧ u = σ ∧ P z) (wB D cA ad) (wA ad) a) (wA ad)) (hS : va_S (wA ad) H0 H locs)
    (kk : ∀ (z : Int) (H1 : Heap) (locs1 : List Loc), P z → wP D cA ad σ H1 → va_S (wA ad) H0 H1 locs1 → W p l e R s m args below meth c H1 locs1 cells slots Q (F0 m (pc + 3) ls (.int (iI z) :: rest))) : W p l e R s m args below meth c H locs cells slots Q (F0 m pc ls st) :=
  va_calli hr hS (fun _ _ h => h) (fun _ h => h) (fun r u t H1 locs1 ht hvm hw hB hz1 hk1 hS1 => by
    obtain ⟨z, rfl, hu, hw⟩ := hw
    subst hu
    exact kk z H1 locs1 hw (by rw [← ht]; exact hB.1) hS1)
theorem wk_rlp {st : List Value} {a : Array Value} {P : Int → Prop} (hr : va_Run p l e R s m args below meth c H locs cells slots 0 0 (F0 m pc ls st) rest (va_Ql (fun (r : Int64) (u : Mem) => ∃ z, r = iL z ∧ u = σ ∧ P z) (wB D cA ad) (wA ad) a) (wA ad)) (hS : va_S (wA ad) H0 H locs)
    (kk : ∀ (z : Int) (H1 : Heap) (locs1 : List Loc), P z → wP D cA ad σ H1 → va_S (wA ad) H0 H1 locs1 → W p l e R s m args below meth c H1 locs1 cells slots Q (F0 m (pc + 3) ls (.long (iL z) :: rest))) : W p l e R s m args below meth c H locs cells slots Q (F0 m pc ls st) :=
  va_calll hr hS (fun _ _ h => h) (fun _ h => h) (fun r u t H1 locs1 ht hvm hw hB hz1 hk1 hS1 => by
    obtain ⟨z, rfl, hu, hw⟩ := hw
    subst hu
    exact kk z H1 locs1 hw (by rw [← ht]; exact hB.1) hS1)
theorem wk_rv {st : List Value} {a : Array Value} {P : Mem → Prop} (hr : va_Run p l e R s m args below meth c H locs cells slots 0 0 (F0 m pc ls st) rest (va_Qv (fun (u : Mem) => P u) (wB D cA ad) (wA ad) a) (wA ad)) (hS : va_S (wA ad) H0 H locs)
    (kk : ∀ (u : Mem) (H1 : Heap) (locs1 : List Loc), P u → wP D cA ad u H1 → va_S (wA ad) H0 H1 locs1 → W p l e R s m args below meth c H1 locs1 cells slots Q (F0 m (pc + 3) ls rest)) : W p l e R s m args below meth c H locs cells slots Q (F0 m pc ls st) :=
  va_callv hr hS (fun _ _ h => h) (fun _ h => h) (fun u t H1 locs1 ht hvm hw hB hz1 hk1 hS1 => kk u H1 locs1 hw (by rw [← ht]; exact hB.1) hS1)
/-! ends -/
theorem wk_iret {z : Int} {P : Int → Mem → Prop} (C0 : wC p s m args c cc nL own D cA ad) (hr : meth.sig.returnType = some .int) (hlocks : meth.locks = false) (hq : P z σ) (hP : wP D cA ad σ H) (hS : va_S (wA ad) s.heap H locs) (hdg : decode cc pc = .ok (.ireturn, 1)) :
    W p l e R s m args below meth c H locs cells slots (MQ below (va_Qi (fun (r : Int32) (u : Mem) => ∃ z, r = iI z ∧ P z u) (wB D cA ad) (wA ad)) args s cells slots (wA ad)) (F0 m pc ls [.int (iI z)]) :=
  W.iret C0.1 C0.2.1 hr (fun t ht hW => ⟨⟨iI z, σ, rfl, ⟨z, rfl, hq⟩, by rw [ht]; exact hP, va_K.moved hW.alike C0.2.2.2.2.2.1, C0.2.2.2.2.2.2.2.warm hW⟩, hS.F ht⟩) hS.2.2 hdg hlocks
theorem wk_zret {z : Int} {P : Int → Mem → Prop} (C0 : wC p s m args c cc nL own D cA ad) (hr : meth.sig.returnType = some .boolean) (hlocks : meth.locks = false) (hz : z = 0 ∨ z = 1) (hq : P z σ) (hP : wP D cA ad σ H) (hS : va_S (wA ad) s.heap H locs) (hdg : decode cc pc = .ok (.ireturn, 1)) :
    W p l e R s m args below meth c H locs cells slots (MQ below (va_Qi (fun (r : Int32) (u : Mem) => ∃ z, r = iI z ∧ P z u) (wB D cA ad) (wA ad)) args s cells slots (wA ad)) (F0 m pc ls [.int (iI z)]) :=
  W.zret C0.1 C0.2.1 hr (narrow_b hz).1 (fun t ht hW => ⟨⟨iI z, σ, rfl, ⟨z, rfl, hq⟩, by rw [ht]; exact hP, va_K.moved hW.alike C0.2.2.2.2.2.1, C0.2.2.2.2.2.2.2.warm hW⟩, hS.F ht⟩) hS.2.2 hdg hlocks
theorem wk_lret {z : Int} {P : Int → Mem → Prop} (C0 : wC p s m args c cc nL own D cA ad) (hr : meth.sig.returnType = some .long) (hlocks : meth.locks = false) (hq : P z σ) (hP : wP D cA ad σ H) (hS : va_S (wA ad) s.heap H locs) (hdg : decode cc pc = .ok (.lreturn, 1)) :
    W p l e R s m args below meth c H locs cells slots (MQ below (va_Ql (fun (r : Int64) (u : Mem) => ∃ z, r = iL z ∧ P z u) (wB D cA ad) (wA ad)) args s cells slots (wA ad)) (F0 m pc ls [.long (iL z)]) :=
  W.lret C0.1 C0.2.1 hr (fun t ht hW => ⟨⟨iL z, σ, rfl, ⟨z, rfl, hq⟩, by rw [ht]; exact hP, va_K.moved hW.alike C0.2.2.2.2.2.1, C0.2.2.2.2.2.2.2.warm hW⟩, hS.F ht⟩) hS.2.2 hdg hlocks
theorem wk_vret {P : Mem → Prop} (C0 : wC p s m args c cc nL own D cA ad) (hr : meth.sig.returnType = none) (hlocks : meth.locks = false) (hq : P σ) (hP : wP D cA ad σ H) (hS : va_S (wA ad) s.heap H locs) (hdg : decode cc pc = .ok (.return_, 1)) :
    W p l e R s m args below meth c H locs cells slots (MQ below (va_Qv (fun (u : Mem) => P u) (wB D cA ad) (wA ad)) args s cells slots (wA ad)) (F0 m pc ls []) :=
  W.vret C0.1 C0.2.1 hr (fun t ht hW => ⟨⟨σ, rfl, hq, by rw [ht]; exact hP, va_K.moved hW.alike C0.2.2.2.2.2.1, C0.2.2.2.2.2.2.2.warm hW⟩, hS.F ht⟩) hS.2.2 hdg hlocks
theorem wk_room {k j maxL : Nat} (h : j + 1 ≤ k) (hm : maxL ≤ 40) : j + 1 ≤ (rmL k).frames ∧ 8 + (maxL + 11) + 64 * j ≤ (rmL k).locals := by
  simp only [rmL]
  omega
theorem wk_ofI {y : MethodName} {bytes : ByteArray} {maxL j : Nat} {av : List Value} {P : Int → Mem → Prop} (hy : plainName y.cls = true) (hI : wI ad) (hlen : (lg_sl av).length ≤ maxL)
    (body : ∀ (p : Program) (e : Env) (s : State) (m : MethodId) (below : List Frame) (meth : Method) (c : Code) (A : Array Value) (QQ : State → Prop) (ls : Array Slot), wC p s m A c bytes maxL y.cls D cA ad → (∀ (z : Int) (σ : Mem) (H : Heap) (locs : List Loc) (pc : Nat) (ls : Array Slot), P z σ → wP D cA ad σ H → va_S (wA ad) s.heap H locs → decode bytes pc = .ok (.ireturn, 1) → W p l e (rmL j) s m A below meth c H locs 0 0 QQ (F0 m pc ls [.int (iI z)])) → lv_has ls maxL (lv_args 0 av) → wP D cA ad σ s.heap → W p l e (rmL j) s m A below meth c s.heap [] 0 0 QQ (F0 m 0 ls [])) :
    wMi l D cA ad y bytes maxL (some .int) j av σ P := by
  refine Met.ofW (cc := bytes) (maxL := maxL) (ret := some .int) hy rfl ?_
  intro p e s m args below meth c s₁ B hml hv
  obtain ⟨rfl, hP, hK, hN⟩ := hv
  have C0 : wC p s m av.toArray c bytes maxL y.cls D cA ad := ⟨B.exec, B.bytes, hml, findClass_of_methodNamed B.named, fun w h => atoms_spec (ws := .code y bytes maxL (some .int) :: tb) B.pre w (List.mem_cons_of_mem _ h), hK, hI, hN⟩
  have hl := lv_entry av (n := maxL) hlen
  rw [lg_entry_eq]
  exact body p e s m below meth c av.toArray _ _ C0 (fun z σ H locs pc ls hq hP hS hd => wk_iret C0 B.returns B.notSynchronized hq hP hS hd) hl hP
theorem wk_ofZ {y : MethodName} {bytes : ByteArray} {maxL j : Nat} {av : List Value} {P : Int → Mem → Prop} (hy : plainName y.cls = true) (hI : wI ad) (hlen : (lg_sl av).length ≤ maxL)
    (body : ∀ (p : Program) (e : Env) (s : State) (m : MethodId) (below : List Frame) (meth : Method) (c : Code) (A : Array Value) (QQ : State → Prop) (ls : Array Slot), wC p s m A c bytes maxL y.cls D cA ad → (∀ (z : Int) (σ : Mem) (H : Heap) (locs : List Loc) (pc : Nat) (ls : Array Slot), (z = 0 ∨ z = 1) → P z σ → wP D cA ad σ H → va_S (wA ad) s.heap H locs → decode bytes pc = .ok (.ireturn, 1) → W p l e (rmL j) s m A below meth c H locs 0 0 QQ (F0 m pc ls [.int (iI z)])) → lv_has ls maxL (lv_args 0 av) → wP D cA ad σ s.heap → W p l e (rmL j) s m A below meth c s.heap [] 0 0 QQ (F0 m 0 ls [])) :
    wMi l D cA ad y bytes maxL (some .boolean) j av σ P := by
  refine Met.ofW (cc := bytes) (maxL := maxL) (ret := some .boolean) hy rfl ?_
  intro p e s m args below meth c s₁ B hml hv
  obtain ⟨rfl, hP, hK, hN⟩ := hv
  have C0 : wC p s m av.toArray c bytes maxL y.cls D cA ad := ⟨B.exec, B.bytes, hml, findClass_of_methodNamed B.named, fun w h => atoms_spec (ws := .code y bytes maxL (some .boolean) :: tb) B.pre w (List.mem_cons_of_mem _ h), hK, hI, hN⟩
  have hl := lv_entry av (n := maxL) hlen
  rw [lg_entry_eq]
  exact body p e s m below meth c av.toArray _ _ C0 (fun z σ H locs pc ls hz hq hP hS hd => wk_zret C0 B.returns B.notSynchronized hz hq hP hS hd) hl hP
theorem wk_ofL {y : MethodName} {bytes : ByteArray} {maxL j : Nat} {av : List Value} {P : Int → Mem → Prop} (hy : plainName y.cls = true) (hI : wI ad) (hlen : (lg_sl av).length ≤ maxL)
    (body : ∀ (p : Program) (e : Env) (s : State) (m : MethodId) (below : List Frame) (meth : Method) (c : Code) (A : Array Value) (QQ : State → Prop) (ls : Array Slot), wC p s m A c bytes maxL y.cls D cA ad → (∀ (z : Int) (σ : Mem) (H : Heap) (locs : List Loc) (pc : Nat) (ls : Array Slot), P z σ → wP D cA ad σ H → va_S (wA ad) s.heap H locs → decode bytes pc = .ok (.lreturn, 1) → W p l e (rmL j) s m A below meth c H locs 0 0 QQ (F0 m pc ls [.long (iL z)])) → lv_has ls maxL (lv_args 0 av) → wP D cA ad σ s.heap → W p l e (rmL j) s m A below meth c s.heap [] 0 0 QQ (F0 m 0 ls [])) :
    wMl l D cA ad y bytes maxL (some .long) j av σ P := by
  refine Met.ofW (cc := bytes) (maxL := maxL) (ret := some .long) hy rfl ?_
  intro p e s m args below meth c s₁ B hml hv
  obtain ⟨rfl, hP, hK, hN⟩ := hv
  have C0 : wC p s m av.toArray c bytes maxL y.cls D cA ad := ⟨B.exec, B.bytes, hml, findClass_of_methodNamed B.named, fun w h => atoms_spec (ws := .code y bytes maxL (some .long) :: tb) B.pre w (List.mem_cons_of_mem _ h), hK, hI, hN⟩
  have hl := lv_entry av (n := maxL) hlen
  rw [lg_entry_eq]
  exact body p e s m below meth c av.toArray _ _ C0 (fun z σ H locs pc ls hq hP hS hd => wk_lret C0 B.returns B.notSynchronized hq hP hS hd) hl hP
theorem wk_ofV {y : MethodName} {bytes : ByteArray} {maxL j : Nat} {av : List Value} {P : Mem → Prop} (hy : plainName y.cls = true) (hI : wI ad) (hlen : (lg_sl av).length ≤ maxL)
    (body : ∀ (p : Program) (e : Env) (s : State) (m : MethodId) (below : List Frame) (meth : Method) (c : Code) (A : Array Value) (QQ : State → Prop) (ls : Array Slot), wC p s m A c bytes maxL y.cls D cA ad → (∀ (σ : Mem) (H : Heap) (locs : List Loc) (pc : Nat) (ls : Array Slot), P σ → wP D cA ad σ H → va_S (wA ad) s.heap H locs → decode bytes pc = .ok (.return_, 1) → W p l e (rmL j) s m A below meth c H locs 0 0 QQ (F0 m pc ls [])) → lv_has ls maxL (lv_args 0 av) → wP D cA ad σ s.heap → W p l e (rmL j) s m A below meth c s.heap [] 0 0 QQ (F0 m 0 ls [])) :
    wMv l D cA ad y bytes maxL none j av σ P := by
  refine Met.ofW (cc := bytes) (maxL := maxL) (ret := none) hy rfl ?_
  intro p e s m args below meth c s₁ B hml hv
  obtain ⟨rfl, hP, hK, hN⟩ := hv
  have C0 : wC p s m av.toArray c bytes maxL y.cls D cA ad := ⟨B.exec, B.bytes, hml, findClass_of_methodNamed B.named, fun w h => atoms_spec (ws := .code y bytes maxL none :: tb) B.pre w (List.mem_cons_of_mem _ h), hK, hI, hN⟩
  have hl := lv_entry av (n := maxL) hlen
  rw [lg_entry_eq]
  exact body p e s m below meth c av.toArray _ _ C0 (fun σ H locs pc ls hq hP hS hd => wk_vret C0 B.returns B.notSynchronized hq hP hS hd) hl hP
end WK
def isN (c : Nat) : Prop := c = 17 ∨ c = 20 ∨ c = 33 ∨ c = 36 ∨ c = 39 ∨ c = 42 ∨ c = 45 ∨ c = 48
theorem isN_sh {c : Nat} (h : isN c) : c + 2 < 81 ∧ wsh c = .inr (4, [3, c + 3, c + 4, 0]) ∧ wsh (c + 1) = .inl (0, 6) ∧ wsh (c + 2) = .inl (0, 6) := by
  rcases h with rfl | rfl | rfl | rfl | rfl | rfl | rfl | rfl <;> exact ⟨by decide, rfl, rfl, rfl⟩
theorem isN_i {i : Int} (h0 : 0 ≤ i) (h1 : i < 6) : isN (33 + 3 * i.toNat) := by unfold isN; omega
theorem isI_sh {i : Int} (h0 : 0 ≤ i) (h1 : i < 2) : wsh (27 + i.toNat) = .inr (2, [0, 1, 0, 0]) ∧ 27 + i.toNat < 81 := by
  have : i = 0 ∨ i = 1 := by omega
  rcases this with rfl | rfl <;> exact ⟨rfl, by decide⟩
theorem isN_17 : isN 17 := Or.inl rfl
theorem isN_20 : isN 20 := Or.inr (Or.inl rfl)
def isG (c : Nat) : Prop := c = 27 ∨ c = 28
theorem isG_sh {c : Nat} (h : isG c) : c < 81 ∧ wsh c = .inr (2, [0, 1, 0, 0]) := by
  rcases h with rfl | rfl <;> exact ⟨by decide, rfl⟩
theorem isG_i {i : Int} (h0 : 0 ≤ i) (h1 : i < 2) : isG (27 + i.toNat) := by unfold isG; omega
