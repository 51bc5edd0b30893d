/-! ===== staying, n hours at once ===== -/
def WA (t u : Nat → Int) : Prop := ∀ p : Int, 0 ≤ p → p < 6 → whoOf t p = whoOf u p
theorem plN_wa {t u : Nat → Int} (h : WA t u) (s : Int) : ∀ n : Nat, n ≤ 6 → plN t s n = plN u s n
  | 0, _ => rfl
  | n + 1, hn => by
    rw [plN, plN, plN_wa h s n (by omega), h (n : Int) (by omega) (by omega)]
theorem plOf_wa {b t u : Nat → Int} (hb : b 0 ≤ 6) (h : WA t u) (s : Int) : plOf b t s = plOf b u s := plN_wa h s _ (by omega)
theorem dl_wa {b t u : Nat → Int} (ok : BedOk b) (h : WA t u) (s : Int) : dl b t s = dl b u s := by
  have hn := ok.n6
  have e := plOf_wa (b := b) hn.2 h s
  unfold dl
  rw [e]
  rcases plOf_spec (b := b) (r := u) hn.1 s with ⟨g1, g2, g3⟩ | ⟨g1, g2⟩
  · have e1 : ahead b t (plOf b u s) = ahead b u (plOf b u s) := by
      unfold ahead
      by_cases c1 : plOf b u s ≤ 0
      · rw [if_pos c1, if_pos c1]
        by_cases c2 : b 1 = 1
        · rw [if_pos c2, if_pos c2]
          by_cases c3 : b 0 ≤ 2
          · rw [if_pos c3, if_pos c3]
          · rw [if_neg c3, if_neg c3]; exact h _ (by omega) (by omega)
        · rw [if_neg c2, if_neg c2]
      · rw [if_neg c1, if_neg c1]; exact h _ (by omega) (by omega)
    have e2 : behind_ b t (plOf b u s) = behind_ b u (plOf b u s) := by
      unfold behind_
      by_cases c1 : b 0 - 1 ≤ plOf b u s
      · rw [if_pos c1, if_pos c1]
        by_cases c2 : b 1 = 1
        · rw [if_pos c2, if_pos c2]
          by_cases c3 : b 0 ≤ 2
          · rw [if_pos c3, if_pos c3]
          · rw [if_neg c3, if_neg c3]; exact h _ (by omega) (by omega)
        · rw [if_neg c2, if_neg c2]
      · rw [if_neg c1, if_neg c1]; exact h _ (by omega) (by omega)
    rw [e1, e2]
  · rw [if_pos g1, if_pos g1]
theorem inS_wa {b t u : Nat → Int} (hb : b 0 ≤ 6) (h : WA t u) (s : Int) : inS b t s = inS b u s := by unfold inS; rw [plOf_wa hb h s]
theorem coldN_wa {b t u : Nat → Int} (hb : b 0 ≤ 6) (h : WA t u) (g : ∀ s : Int, 0 ≤ s → s < 6 → warmOf t s = warmOf u s) : ∀ n : Nat, n ≤ 6 → coldN b t n = coldN b u n
  | 0, _ => rfl
  | n + 1, hn => by
    have e : moreOf b t (n : Int) = moreOf b u (n : Int) := by unfold moreOf; rw [g (n : Int) (by omega) (by omega)]
    rw [coldN, coldN, coldN_wa hb h g n (by omega), inS_wa hb h, e]
theorem clamp_more {x y d : Int} (h0 : 0 ≤ x) (h1 : x ≤ 99) (h2 : 0 ≤ d → 0 ≤ y) (h3 : d ≤ 0 → y ≤ 0) : clamp (clamp (x + y) + d) = clamp (x + (y + d)) := by
  have hd : ∀ z : Int, (z < 0 ∧ clamp z = 0) ∨ (0 ≤ z ∧ z ≤ 99 ∧ clamp z = z) ∨ (99 < z ∧ clamp z = 99) := by
    intro z
    unfold clamp
    by_cases c1 : 0 ≤ z
    · by_cases c2 : z ≤ 99
      · rw [if_pos c1, if_pos c2]; omega
      · rw [if_pos c1, if_neg c2]; omega
    · rw [if_neg c1]; omega
  have a := hd (x + y)
  have b := hd (clamp (x + y) + d)
  have c := hd (x + (y + d))
  omega
def zw : Nat → Int := fun _ => 0
theorem stay_it {b t : Nat → Int} (ok : BedOk b) (nk : NightOk b t) : ∀ n : Nat, (∀ p : Int, 0 ≤ p → p < 6 → whoOf (itB b zw t n) p = whoOf t p) ∧ ∀ s : Int, 0 ≤ s → s < 6 → warmOf (itB b zw t n) s = if s < b 2 then clamp (warmOf t s + (n : Int) * dl b t s) else warmOf t s
  | 0 => by
    refine ⟨fun _ _ _ => rfl, fun s h0 h1 => ?_⟩
    have hw := (nk.1 s h0 h1).2.2
    show warmOf t s = _
    by_cases c : s < b 2
    · rw [if_pos c]
      have : ((0 : Nat) : Int) * dl b t s = 0 := Int.zero_mul _
      rw [this, Int.add_zero]
      unfold clamp
      rw [if_pos hw.1, if_pos hw.2]
    · rw [if_neg c]
  | n + 1 => by
    have hn := ok.n6
    obtain ⟨i1, i2⟩ := stay_it ok nk n
    have e : itB b zw t (n + 1) = up1 (warmR b (itB b zw t n) 1) 0 (itB b zw t n 0 + 1) := goes_0 b _
    rw [e]
    refine ⟨fun p h0 h1 => ?_, fun s h0 h1 => ?_⟩
    · rw [whoOf_up0 h0, whoOf_warmR h0 h1]; exact i1 p h0 h1
    · have hw := (nk.1 s h0 h1).2.2
      rw [warmOf_up0 h0, warmOf_warmR h0, i2 s h0 h1, dl_wa (t := itB b zw t n) (u := t) ok i1 s]
      by_cases c : s < b 2
      · rw [if_pos c, if_pos c, if_pos c, Int.one_mul, clamp_more hw.1 hw.2 (fun q => Int.mul_nonneg (by omega) q) (fun q => Int.mul_nonpos_of_nonneg_of_nonpos (by omega) q)]
        congr 2
        rw [show ((n + 1 : Nat) : Int) = (n : Int) + 1 by omega, Int.add_mul, Int.one_mul]
      · rw [if_neg c, if_neg c, if_neg c]
theorem cold_stay {b t : Nat → Int} (ok : BedOk b) (nk : NightOk b t) (n : Nat) : coldV b (itB b zw t n) = coldV b (warmR b t (n : Int)) := by
  have hn := ok.n6
  have h6 := ok.s6
  obtain ⟨i1, i2⟩ := stay_it ok nk n
  refine coldN_wa hn.2 (fun p h0 h1 => by rw [i1 p h0 h1, whoOf_warmR h0 h1]) (fun s h0 h1 => ?_) _ (by omega)
  rw [i2 s h0 h1, warmOf_warmR h0]
/-! ===== orders ===== -/
def dq (n p : Nat) : Nat → Int := fun k => ((p / 6 ^ (n - 1 - k) % 6 : Nat) : Int)
theorem dq_in (n p k : Nat) : 0 ≤ dq n p k ∧ dq n p k < 6 := by
  unfold dq
  have := Nat.mod_lt (p / 6 ^ (n - 1 - k)) (show 0 < 6 by decide)
  omega
theorem dq_same {n d p p' : Nat} (hd : d ≤ n) (h : p / 6 ^ (n - d) = p' / 6 ^ (n - d)) {k : Nat} (hk : k < d) : dq n p k = dq n p' k := by
  unfold dq
  have e : n - 1 - k = (n - d) + (d - 1 - k) := by omega
  rw [e, Nat.pow_add, ← Nat.div_div_eq_div_mul, ← Nat.div_div_eq_div_mul, h]
def pv6 (ds : Nat → Nat) : Nat → Nat
  | 0 => 0
  | d + 1 => 6 * pv6 ds d + ds d
theorem pv6_div {ds : Nat → Nat} (h : ∀ k, ds k < 6) (m : Nat) : ∀ j : Nat, pv6 ds (m + j) / 6 ^ j = pv6 ds m
  | 0 => by rw [Nat.pow_zero, Nat.div_one, Nat.add_zero]
  | j + 1 => by
    have hd := h (m + j)
    rw [Nat.pow_succ, Nat.mul_comm, ← Nat.div_div_eq_div_mul, ← Nat.add_assoc, pv6, show (6 * pv6 ds (m + j) + ds (m + j)) / 6 = pv6 ds (m + j) by omega]
    exact pv6_div h m j
theorem pv6_lt {ds : Nat → Nat} (h : ∀ k, ds k < 6) : ∀ n : Nat, pv6 ds n < 6 ^ n
  | 0 => by show 0 < 1; decide
  | n + 1 => by
    have ih := pv6_lt h n
    have hd := h n
    rw [pv6, Nat.pow_succ]
    omega
theorem pv6_dq {ds : Nat → Nat} (h : ∀ k, ds k < 6) {n k : Nat} (hk : k < n) : dq n (pv6 ds n) k = (ds k : Int) := by
  unfold dq
  have e := pv6_div h (k + 1) (n - 1 - k)
  rw [show k + 1 + (n - 1 - k) = n by omega] at e
  have hd := h k
  rw [e, pv6]
  omega
def unN (ds : Nat → Int) : Nat → Int → Bool
  | 0 => fun _ => false
  | m + 1 => fun t => unN ds m t || decide (t = ds m)
theorem unN_iff {ds : Nat → Int} {t : Int} : ∀ m : Nat, unN ds m t = true ↔ ∃ k : Nat, k < m ∧ ds k = t
  | 0 => ⟨fun h => Bool.noConfusion h, fun ⟨k, hk, _⟩ => by omega⟩
  | m + 1 => by
    have ih := unN_iff (ds := ds) (t := t) m
    rw [unN, Bool.or_eq_true, ih, decide_eq_true_iff]
    constructor
    · rintro (⟨k, hk, e⟩ | e)
      · exact ⟨k, by omega, e⟩
      · exact ⟨m, by omega, e.symm⟩
    · rintro ⟨k, hk, e⟩
      by_cases c : k = m
      · rw [c] at e; exact Or.inr e.symm
      · exact Or.inl ⟨k, by omega, e⟩
theorem unN_congr {ds ds' : Nat → Int} (m : Nat) (h : ∀ k : Nat, k < m → ds k = ds' k) (t : Int) : unN ds m t = unN ds' m t := by
  refine Bool.eq_iff_iff.mpr ?_
  rw [unN_iff, unN_iff]
  constructor
  · rintro ⟨k, hk, e⟩; exact ⟨k, hk, by rw [← h k hk]; exact e⟩
  · rintro ⟨k, hk, e⟩; exact ⟨k, hk, by rw [h k hk]; exact e⟩
def unR (ds : Nat → Int) (n : Nat) : Nat → Int → Bool
  | 0 => fun _ => false
  | m + 1 => fun t => unR ds n m t || decide (t = ds (n - 1 - m))
theorem unR_iff {ds : Nat → Int} {n : Nat} {t : Int} : ∀ m : Nat, m ≤ n → (unR ds n m t = true ↔ ∃ k : Nat, n - m ≤ k ∧ k < n ∧ ds k = t)
  | 0, _ => ⟨fun h => Bool.noConfusion h, fun ⟨k, h0, h1, _⟩ => by omega⟩
  | m + 1, hm => by
    have ih := unR_iff (ds := ds) (n := n) (t := t) m (by omega)
    rw [unR, Bool.or_eq_true, ih, decide_eq_true_iff]
    constructor
    · rintro (⟨k, h0, hk, e⟩ | e)
      · exact ⟨k, by omega, hk, e⟩
      · exact ⟨n - 1 - m, by omega, by omega, e.symm⟩
    · rintro ⟨k, h0, hk, e⟩
      by_cases c : k = n - 1 - m
      · rw [c] at e; exact Or.inr e.symm
      · exact Or.inl ⟨k, by omega, hk, e⟩
theorem unR_N {ds : Nat → Int} {n : Nat} (t : Int) : unR ds n n t = unN ds n t := by
  refine Bool.eq_iff_iff.mpr ?_
  rw [unR_iff n (Nat.le_refl _), unN_iff]
  constructor
  · rintro ⟨k, _, hk, e⟩; exact ⟨k, hk, e⟩
  · rintro ⟨k, hk, e⟩; exact ⟨k, by omega, hk, e⟩
/-! how many -/
theorem pcs_le (a0 a1 a2 a3 a4 a5 c0 c1 c2 c3 c4 c5 : Bool) (h0 : a0 = true → c0 = true) (h1 : a1 = true → c1 = true) (h2 : a2 = true → c2 = true) (h3 : a3 = true → c3 = true) (h4 : a4 = true → c4 = true) (h5 : a5 = true → c5 = true) (e : pcs a0 a1 a2 a3 a4 a5 = pcs c0 c1 c2 c3 c4 c5) : a0 = c0 ∧ a1 = c1 ∧ a2 = c2 ∧ a3 = c3 ∧ a4 = c4 ∧ a5 = c5 := by
  have k : ∀ a c : Bool, (a = true → c = true) → (a = c ∨ ((if a then 1 else 0 : Int) = 0 ∧ (if c then 1 else 0 : Int) = 1)) ∧ (if a then 1 else 0 : Int) ≤ (if c then 1 else 0 : Int) := by decide
  have q0 := k a0 c0 h0
  have q1 := k a1 c1 h1
  have q2 := k a2 c2 h2
  have q3 := k a3 c3 h3
  have q4 := k a4 c4 h4
  have q5 := k a5 c5 h5
  unfold pcs at e
  refine ⟨?_, ?_, ?_, ?_, ?_, ?_⟩
  · rcases q0.1 with h | h
    · exact h
    · omega
  · rcases q1.1 with h | h
    · exact h
    · omega
  · rcases q2.1 with h | h
    · exact h
    · omega
  · rcases q3.1 with h | h
    · exact h
    · omega
  · rcases q4.1 with h | h
    · exact h
    · omega
  · rcases q5.1 with h | h
    · exact h
    · omega
theorem pcF_sub {F G : Int → Bool} (h : ∀ s : Int, 0 ≤ s → s < 6 → F s = true → G s = true) (e : pcF F = pcF G) : ∀ s : Int, 0 ≤ s → s < 6 → F s = G s := by
  have := pcs_le _ _ _ _ _ _ _ _ _ _ _ _ (h 0 (by omega) (by omega)) (h 1 (by omega) (by omega)) (h 2 (by omega) (by omega)) (h 3 (by omega) (by omega)) (h 4 (by omega) (by omega)) (h 5 (by omega) (by omega)) e
  intro s g0 g1
  have c : s = 0 ∨ s = 1 ∨ s = 2 ∨ s = 3 ∨ s = 4 ∨ s = 5 := by omega
  rcases c with rfl | rfl | rfl | rfl | rfl | rfl
  · exact this.1
  · exact this.2.1
  · exact this.2.2.1
  · exact this.2.2.2.1
  · exact this.2.2.2.2.1
  · exact this.2.2.2.2.2
theorem pcF_step {ds : Nat → Int} (hd : ∀ k, 0 ≤ ds k ∧ ds k < 6) (m : Nat) : (unN ds m (ds m) = true ∧ pcF (unN ds (m + 1)) = pcF (unN ds m)) ∨ (unN ds m (ds m) = false ∧ pcF (unN ds (m + 1)) = pcF (unN ds m) + 1) := by
  cases c : unN ds m (ds m)
  · exact Or.inr ⟨rfl, pcF_or _ (hd m).1 (hd m).2 c⟩
  · refine Or.inl ⟨rfl, pcF_ext (fun s h0 h1 => ?_)⟩
    show (unN ds m s || decide (s = ds m)) = unN ds m s
    by_cases e : s = ds m
    · rw [e, c, Bool.true_or]
    · rw [decide_eq_false e, Bool.or_false]
theorem pcF_rep {ds : Nat → Int} (hd : ∀ k, 0 ≤ ds k ∧ ds k < 6) {d : Nat} (h : pcF (unN ds d) ≤ (d : Int) - 1) : ∀ j : Nat, pcF (unN ds (d + j)) ≤ ((d + j : Nat) : Int) - 1
  | 0 => h
  | j + 1 => by
    have ih := pcF_rep hd h j
    have := pcF_step hd (d + j)
    rw [← Nat.add_assoc]
    omega
