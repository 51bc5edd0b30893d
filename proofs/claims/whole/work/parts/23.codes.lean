/-! ===== longs that hold a night ===== -/
theorem iL_nat {z : Int} (h0 : 0 ≤ z) (h1 : z < 9223372036854775808) : (iL z).toBitVec.toNat = z.toNat := by
  show (BitVec.ofInt 64 z).toNat = z.toNat
  rw [BitVec.toNat_ofInt]
  congr 1
  exact Int.emod_eq_of_lt h0 (by omega)
theorem nat_iL {x : Int64} (h : x.toBitVec.toNat < 9223372036854775808) : x.toInt = (x.toBitVec.toNat : Int) := by
  show x.toBitVec.toInt = _
  exact BitVec.toInt_eq_toNat_of_lt (by omega)
theorem yshl10 {y : Int} (h0 : 0 ≤ y) (h1 : y < 1125899906842624) : yshl y 10 = y * 1024 := by
  unfold yshl
  rw [show ((iI 10).toInt64 &&& 63) = (10 : Int64) by decide +kernel]
  have e : (iL y <<< (10 : Int64)).toBitVec.toNat = y.toNat * 1024 := by
    show ((iL y).toBitVec <<< ((10 : Int64).toBitVec.smod 64).toNat).toNat = _
    rw [show ((10 : Int64).toBitVec.smod 64).toNat = 10 by decide +kernel, BitVec.toNat_shiftLeft, Nat.shiftLeft_eq, iL_nat h0 (by omega)]
    omega
  rw [nat_iL (by rw [e]; omega), e]
  omega
theorem yor_add {y v : Int} (h0 : 0 ≤ y) (h1 : y < 1125899906842624) (g0 : 0 ≤ v) (g1 : v < 1024) : yor (y * 1024) v = y * 1024 + v := by
  unfold yor
  have e : (iL (y * 1024) ||| iL v).toBitVec.toNat = y.toNat * 1024 + v.toNat := by
    show ((iL (y * 1024)).toBitVec ||| (iL v).toBitVec).toNat = _
    rw [BitVec.toNat_or, iL_nat (by omega) (by omega), iL_nat g0 (by omega)]
    have := Nat.two_pow_add_eq_or_of_lt (i := 10) (b := v.toNat) (by omega) y.toNat
    rw [show (y * 1024).toNat = 2 ^ 10 * y.toNat by omega, ← this]
    omega
  rw [nat_iL (by rw [e]; omega), e]
  omega
theorem yand_m {y m : Int} (k : Nat) (h0 : 0 ≤ y) (h1 : y < 1152921504606846976) (hm : m.toNat = 2 ^ k - 1) (g0 : 0 ≤ m) (g1 : m < 1152921504606846976) : yand y m = ((y.toNat % 2 ^ k : Nat) : Int) := by
  unfold yand
  have e : (iL y &&& iL m).toBitVec.toNat = y.toNat % 2 ^ k := by
    show ((iL y).toBitVec &&& (iL m).toBitVec).toNat = _
    rw [BitVec.toNat_and, iL_nat h0 (by omega), iL_nat g0 (by omega), hm, Nat.and_two_pow_sub_one_eq_mod]
  have h2 : y.toNat % 2 ^ k ≤ y.toNat := Nat.mod_le _ _
  rw [nat_iL (by rw [e]; omega), e]
theorem yand7 {y : Int} (h0 : 0 ≤ y) (h1 : y < 1152921504606846976) : yand y 7 = y % 8 := by
  rw [yand_m 3 h0 h1 rfl (by omega) (by omega)]; omega
theorem yand127 {y : Int} (h0 : 0 ≤ y) (h1 : y < 1152921504606846976) : yand y 127 = y % 128 := by
  rw [yand_m 7 h0 h1 rfl (by omega) (by omega)]; omega
theorem yshr_k {y s : Int} (k : Nat) (h0 : 0 ≤ y) (h1 : y < 1152921504606846976) (q : Int64) (hs : ((iI s).toInt64 &&& 63) = q) (hq : (q.toBitVec.smod 64).toNat = k) : yshr y s = y / 2 ^ k := by
  unfold yshr
  rw [hs]
  show ((iL y).toBitVec.sshiftRight (q.toBitVec.smod 64).toNat).toInt = _
  rw [hq, BitVec.toInt_sshiftRight]
  show (iL y).toInt >>> k = _
  rw [iL_toInt ⟨by omega, by omega⟩, Int.shiftRight_eq_div_pow]
  rfl
theorem yshr3 {y : Int} (h0 : 0 ≤ y) (h1 : y < 1152921504606846976) : yshr y 3 = y / 8 := yshr_k 3 h0 h1 3 (by decide +kernel) (by decide +kernel)
theorem yshr10 {y : Int} (h0 : 0 ≤ y) (h1 : y < 1152921504606846976) : yshr y 10 = y / 1024 := yshr_k 10 h0 h1 10 (by decide +kernel) (by decide +kernel)
theorem zpack0 : ∀ (w : Fin 128) (x : Fin 8), zor (zshl (w.val : Int) 3) (x.val : Int) = (w.val : Int) * 8 + (x.val : Int) := by decide +kernel
theorem zpack {w x : Int} (h0 : 0 ≤ w) (h1 : w ≤ 99) (g0 : -1 ≤ x) (g1 : x < 6) : zor (zshl w 3) (x + 1) = w * 8 + (x + 1) := by
  have := zpack0 ⟨w.toNat, by omega⟩ ⟨(x + 1).toNat, by omega⟩
  simp only [Int.toNat_of_nonneg h0, Int.toNat_of_nonneg (show 0 ≤ x + 1 by omega)] at this
  exact this
def codeN (r : Nat → Int) : Nat → Int
  | 0 => 0
  | n + 1 => codeN r n * 1024 + (warmOf r (n : Int) * 8 + (whoOf r (n : Int) + 1))
theorem codeN_in {b r : Nat → Int} (ok : BedOk b) (nk : NightOk b r) : ∀ n : Nat, n ≤ 6 → 0 ≤ codeN r n ∧ codeN r n < 1024 ^ n
  | 0, _ => ⟨by unfold codeN; omega, by unfold codeN; decide⟩
  | n + 1, h => by
    have ih := codeN_in ok nk n (by omega)
    have hs := ok.s6
    have h1 := nk.1 (n : Int) (by omega) (by omega)
    unfold codeN
    rw [Int.pow_succ]
    omega
theorem codeN_lt {b r : Nat → Int} (ok : BedOk b) (nk : NightOk b r) (n : Nat) (h : n ≤ 6) : 0 ≤ codeN r n ∧ codeN r n < 1152921504606846976 := by
  have h1 := codeN_in ok nk n h
  have h2 : (1024 : Int) ^ n ≤ 1152921504606846976 := by
    have : n = 0 ∨ n = 1 ∨ n = 2 ∨ n = 3 ∨ n = 4 ∨ n = 5 ∨ n = 6 := by omega
    rcases this with rfl | rfl | rfl | rfl | rfl | rfl | rfl <;> decide
  omega
theorem codeN_lt5 {b r : Nat → Int} (ok : BedOk b) (nk : NightOk b r) (n : Nat) (h : n ≤ 5) : 0 ≤ codeN r n ∧ codeN r n < 1125899906842624 := by
  have h1 := codeN_in ok nk n (by omega)
  have h2 : (1024 : Int) ^ n ≤ 1125899906842624 := by
    have : n = 0 ∨ n = 1 ∨ n = 2 ∨ n = 3 ∨ n = 4 ∨ n = 5 := by omega
    rcases this with rfl | rfl | rfl | rfl | rfl | rfl <;> decide
  omega
theorem codeN_un {b r : Nat → Int} (ok : BedOk b) (nk : NightOk b r) {n : Nat} (h : n < 6) : codeN r (n + 1) % 8 - 1 = whoOf r (n : Int) ∧ codeN r (n + 1) / 8 % 128 = warmOf r (n : Int) ∧ codeN r (n + 1) / 1024 = codeN r n := by
  have hs := ok.s6
  have h1 := nk.1 (n : Int) (by omega) (by omega)
  rw [codeN]
  omega
theorem codeN_inj {b r b' r' : Nat → Int} (ok : BedOk b) (nk : NightOk b r) (ok' : BedOk b') (nk' : NightOk b' r') : ∀ n : Nat, n ≤ 6 → (codeN r n = codeN r' n ↔ ∀ p : Int, 0 ≤ p → p < (n : Int) → whoOf r p = whoOf r' p ∧ warmOf r p = warmOf r' p)
  | 0, _ => ⟨fun _ p h0 h1 => by omega, fun _ => rfl⟩
  | n + 1, h => by
    have ih := codeN_inj ok nk ok' nk' n (by omega)
    have u := codeN_un ok nk (n := n) (by omega)
    have u' := codeN_un ok' nk' (n := n) (by omega)
    constructor
    · intro e p h0 h1
      rw [e] at u
      by_cases hp : p = (n : Int)
      · rw [hp]; omega
      · exact (ih.mp (by omega)) p h0 (by omega)
    · intro e
      have e1 := e (n : Int) (by omega) (by omega)
      have e2 := ih.mpr (fun p h0 h1 => e p h0 (by omega))
      rw [codeN, codeN, e1.1, e1.2, e2]
