/-! ===== the mathematics of beds and nights, in the model's layout: b the bed's row (44), r the night's row (13) ===== -/
def whoOf (r : Nat → Int) (p : Int) : Int := r (1 + p).toNat
def warmOf (r : Nat → Int) (s : Int) : Int := r (7 + s).toNat
def heatOf (b : Nat → Int) (p : Int) : Int := b (6 + p).toNat
def warm0 (b : Nat → Int) (s : Int) : Int := b (12 + (4 * s)).toNat
def givesOf (b : Nat → Int) (s : Int) : Int := b ((12 + (4 * s)) + 1).toNat
def losesOf (b : Nat → Int) (s : Int) : Int := b ((12 + (4 * s)) + 2).toNat
def wakesOf (b : Nat → Int) (s : Int) : Int := b ((12 + (4 * s)) + 3).toNat
def lawOf (b : Nat → Int) (i : Int) : Int := b (36 + i).toNat
def BedOk (b : Nat → Int) : Prop :=
  (b 0 = 0 ∨ (2 ≤ b 0 ∧ b 0 ≤ 6)) ∧ (b 1 = 0 ∨ b 1 = 1) ∧ (0 ≤ b 2 ∧ b 2 ≤ b 0) ∧ (1 ≤ b 3 ∧ b 3 ≤ 8) ∧ (∀ p : Int, 0 ≤ p → p < 6 → 0 ≤ heatOf b p ∧ heatOf b p ≤ 9) ∧
  (∀ s : Int, 0 ≤ s → s < b 2 → (1 ≤ warm0 b s ∧ warm0 b s ≤ 99) ∧ (0 ≤ givesOf b s ∧ givesOf b s ≤ 9) ∧ (0 ≤ losesOf b s ∧ losesOf b s ≤ 20) ∧ (0 ≤ wakesOf b s ∧ wakesOf b s ≤ 98)) ∧ (∀ i : Int, 0 ≤ i → i < b 3 → 0 ≤ lawOf b i ∧ lawOf b i ≤ 3)
theorem BedOk.n6 {b : Nat → Int} (h : BedOk b) : 0 ≤ b 0 ∧ b 0 ≤ 6 := by rcases h.1 with h | h <;> omega
theorem BedOk.s6 {b : Nat → Int} (h : BedOk b) : 0 ≤ b 2 ∧ b 2 ≤ 6 := by have := h.n6; have := h.2.2.1; omega
def NightOk (b r : Nat → Int) : Prop :=
  (∀ p : Int, 0 ≤ p → p < 6 → (-1 ≤ whoOf r p ∧ whoOf r p < b 2) ∧ (b 0 ≤ p → whoOf r p = -1) ∧ (0 ≤ warmOf r p ∧ warmOf r p ≤ 99)) ∧
  (∀ p q : Int, 0 ≤ p → p < 6 → 0 ≤ q → q < 6 → whoOf r p = whoOf r q → whoOf r p ≠ -1 → p = q)
def hrsOk (r : Nat → Int) : Prop := 0 ≤ r 0 ∧ r 0 ≤ 100000
theorem inR_s {z : Int} (h0 : -1000000 ≤ z) (h1 : z ≤ 1000000) : inR z := ⟨by omega, by omega⟩
theorem inL_s {z : Int} (h : inR z) : inL z := by unfold inR inL at *; omega
/-! up2 -/
theorem up2_c {σ : Mem} {c d k : Nat} {v : Int} (h : d ≠ c) : up2 σ c k v d = σ d := by simp [up2, upr, h]
theorem up2_s {σ : Mem} {c k : Nat} {v : Int} : up2 σ c k v c k = v := by simp [up2, upr, up1]
theorem up2_n {σ : Mem} {c k j : Nat} {v : Int} (h : j ≠ k) : up2 σ c k v c j = σ c j := by simp [up2, upr, up1, h]
theorem up2_r {σ : Mem} {c k : Nat} {v : Int} : up2 σ c k v c = up1 (σ c) k v := by simp [up2, upr]
theorem up2_e {σ : Mem} {c k j : Nat} {v : Int} : up2 σ c k v c j = if j = k then v else σ c j := by simp [up2, upr, up1]
theorem upr_c {σ : Mem} {c d : Nat} {f : Nat → Int} (h : d ≠ c) : upr σ c f d = σ d := by simp [upr, h]
theorem upr_s {σ : Mem} {c : Nat} {f : Nat → Int} : upr σ c f c = f := by simp [upr]
/-! places -/
def plN (r : Nat → Int) (s : Int) : Nat → Int
  | 0 => -1
  | n + 1 => if whoOf r (n : Int) = s then (n : Int) else plN r s n
def plOf (b r : Nat → Int) (s : Int) : Int := plN r s (b 0).toNat
theorem plN_spec (r : Nat → Int) (s : Int) : ∀ n : Nat, (0 ≤ plN r s n ∧ plN r s n < (n : Int) ∧ whoOf r (plN r s n) = s) ∨ (plN r s n = -1 ∧ ∀ p : Int, 0 ≤ p → p < (n : Int) → whoOf r p ≠ s)
  | 0 => Or.inr ⟨rfl, fun p h0 h1 => by omega⟩
  | n + 1 => by
    unfold plN
    by_cases h : whoOf r (n : Int) = s
    · rw [if_pos h]
      exact Or.inl ⟨by omega, by omega, h⟩
    · rw [if_neg h]
      rcases plN_spec r s n with ⟨a, b, c⟩ | ⟨a, b⟩
      · exact Or.inl ⟨a, by omega, c⟩
      · refine Or.inr ⟨a, fun p h0 h1 => ?_⟩
        by_cases hp : p = (n : Int)
        · rw [hp]; exact h
        · exact b p h0 (by omega)
def IsPl (b r : Nat → Int) (s v : Int) : Prop := (0 ≤ v ∧ v < b 0 ∧ whoOf r v = s) ∨ (v = -1 ∧ ∀ p : Int, 0 ≤ p → p < b 0 → whoOf r p ≠ s)
theorem plOf_spec {b r : Nat → Int} (h : 0 ≤ b 0) (s : Int) : IsPl b r s (plOf b r s) := by
  have := plN_spec r s (b 0).toNat
  rw [Int.toNat_of_nonneg h] at this
  exact this
theorem IsPl.uniq {b r : Nat → Int} {s v : Int} (ok : BedOk b) (nk : NightOk b r) (hs : s ≠ -1) (h : IsPl b r s v) : v = plOf b r s := by
  have hn := ok.n6
  rcases h with ⟨h1, h2, h3⟩ | ⟨h1, h2⟩
  · rcases plOf_spec (b := b) (r := r) hn.1 s with ⟨g1, g2, g3⟩ | ⟨g1, g2⟩
    · exact nk.2 _ _ h1 (by omega) g1 (by omega) (by rw [h3, g3]) (by rw [h3]; exact hs)
    · exact absurd h3 (g2 v h1 h2)
  · rcases plOf_spec (b := b) (r := r) hn.1 s with ⟨g1, g2, g3⟩ | ⟨g1, g2⟩
    · exact absurd g3 (h2 _ g1 g2)
    · rw [h1, g1]
/-! sets of six -/
def bs (b0 b1 b2 b3 b4 b5 : Bool) : Int := (if b0 then 1 else 0) + (if b1 then 2 else 0) + (if b2 then 4 else 0) + (if b3 then 8 else 0) + (if b4 then 16 else 0) + (if b5 then 32 else 0)
def bset (F : Int → Bool) : Int := bs (F 0) (F 1) (F 2) (F 3) (F 4) (F 5)
theorem bs_or : ∀ (b0 b1 b2 b3 b4 b5 : Bool) (s : Fin 6), zor (bs b0 b1 b2 b3 b4 b5) (zshl 1 (s.val : Int)) = bs (b0 || s.val == 0) (b1 || s.val == 1) (b2 || s.val == 2) (b3 || s.val == 3) (b4 || s.val == 4) (b5 || s.val == 5) := by decide +kernel
theorem bs_test : ∀ (b0 b1 b2 b3 b4 b5 : Bool) (s : Fin 6), zand (zshr (bs b0 b1 b2 b3 b4 b5) (s.val : Int)) 1 = if [b0, b1, b2, b3, b4, b5].getD s.val false then 1 else 0 := by decide +kernel
theorem bs_or0 : ∀ (b0 b1 b2 b3 b4 b5 : Bool), zor (bs b0 b1 b2 b3 b4 b5) 0 = bs b0 b1 b2 b3 b4 b5 := by decide +kernel
theorem bs_up : ∀ (b0 b1 b2 b3 b4 b5 : Bool) (n : Fin 7), zand ((zshl 1 (n.val : Int)) - 1) (zxor (bs b0 b1 b2 b3 b4 b5) (-1)) = bs (!b0 && decide (0 < n.val)) (!b1 && decide (1 < n.val)) (!b2 && decide (2 < n.val)) (!b3 && decide (3 < n.val)) (!b4 && decide (4 < n.val)) (!b5 && decide (5 < n.val)) := by decide +kernel
theorem bs_range : ∀ (b0 b1 b2 b3 b4 b5 : Bool), 0 ≤ bs b0 b1 b2 b3 b4 b5 ∧ bs b0 b1 b2 b3 b4 b5 ≤ 63 := by decide +kernel
theorem bset_range (F : Int → Bool) : 0 ≤ bset F ∧ bset F ≤ 63 := bs_range _ _ _ _ _ _
theorem fin6 {s : Int} (h0 : 0 ≤ s) (h1 : s < 6) : ∃ f : Fin 6, s = (f.val : Int) := ⟨⟨s.toNat, by omega⟩, by simp; omega⟩
theorem bset_ext {F G : Int → Bool} (h : ∀ s : Int, 0 ≤ s → s < 6 → F s = G s) : bset F = bset G := by
  unfold bset
  rw [h 0 (by omega) (by omega), h 1 (by omega) (by omega), h 2 (by omega) (by omega), h 3 (by omega) (by omega), h 4 (by omega) (by omega), h 5 (by omega) (by omega)]
theorem bset_or (F : Int → Bool) {s : Int} (h0 : 0 ≤ s) (h1 : s < 6) : zor (bset F) (zshl 1 s) = bset (fun t => F t || decide (t = s)) := by
  obtain ⟨f, rfl⟩ := fin6 h0 h1
  unfold bset
  rw [bs_or]
  match f with
  | ⟨0, _⟩ => rfl
  | ⟨1, _⟩ => rfl
  | ⟨2, _⟩ => rfl
  | ⟨3, _⟩ => rfl
  | ⟨4, _⟩ => rfl
  | ⟨5, _⟩ => rfl
theorem bset_or0 (F : Int → Bool) : zor (bset F) 0 = bset F := bs_or0 _ _ _ _ _ _
theorem bset_test (F : Int → Bool) {s : Int} (h0 : 0 ≤ s) (h1 : s < 6) : zand (zshr (bset F) s) 1 = if F s then 1 else 0 := by
  obtain ⟨f, rfl⟩ := fin6 h0 h1
  unfold bset
  rw [bs_test]
  match f with
  | ⟨0, _⟩ => rfl
  | ⟨1, _⟩ => rfl
  | ⟨2, _⟩ => rfl
  | ⟨3, _⟩ => rfl
  | ⟨4, _⟩ => rfl
  | ⟨5, _⟩ => rfl
theorem bset_0 : bset (fun _ => false) = 0 := rfl
theorem bs_nz : ∀ (b0 b1 b2 b3 b4 b5 : Bool), bs b0 b1 b2 b3 b4 b5 = 0 ↔ (b0 = false ∧ b1 = false ∧ b2 = false ∧ b3 = false ∧ b4 = false ∧ b5 = false) := by decide +kernel
theorem bset_nz {F : Int → Bool} : bset F = 0 ↔ ∀ s : Int, 0 ≤ s → s < 6 → F s = false := by
  unfold bset
  rw [bs_nz]
  constructor
  · intro ⟨h0, h1, h2, h3, h4, h5⟩ s g0 g1
    obtain ⟨f, rfl⟩ := fin6 g0 g1
    match f with
    | ⟨0, _⟩ => exact h0
    | ⟨1, _⟩ => exact h1
    | ⟨2, _⟩ => exact h2
    | ⟨3, _⟩ => exact h3
    | ⟨4, _⟩ => exact h4
    | ⟨5, _⟩ => exact h5
  · intro h
    exact ⟨h 0 (by omega) (by omega), h 1 (by omega) (by omega), h 2 (by omega) (by omega), h 3 (by omega) (by omega), h 4 (by omega) (by omega), h 5 (by omega) (by omega)⟩
def inT (r : Nat → Int) (n : Nat) (s : Int) : Bool := decide (plN r s n ≠ -1)
def inS (b r : Nat → Int) (s : Int) : Bool := decide (plOf b r s ≠ -1)
def moreOf (b r : Nat → Int) (s : Int) : Int := warmOf r s - wakesOf b s
def awS (b r : Nat → Int) (s : Int) : Bool := inS b r s && decide (moreOf b r s ≤ 0)
theorem inT_succ (r : Nat → Int) (n : Nat) (s : Int) : inT r (n + 1) s = (inT r n s || decide (s = whoOf r (n : Int))) := by
  unfold inT
  rw [plN]
  by_cases h : whoOf r (n : Int) = s
  · rw [if_pos h]
    have h1 : decide ((n : Int) ≠ -1) = true := decide_eq_true (by omega)
    have h2 : decide (s = whoOf r (n : Int)) = true := decide_eq_true h.symm
    rw [h1, h2, Bool.or_true]
  · rw [if_neg h]
    have h2 : decide (s = whoOf r (n : Int)) = false := decide_eq_false (fun q => h q.symm)
    rw [h2, Bool.or_false]
theorem inS_lt {b r : Nat → Int} {s : Int} (ok : BedOk b) (nk : NightOk b r) (h0 : 0 ≤ s) (h : inS b r s = true) : s < b 2 := by
  have hn := ok.n6
  unfold inS at h
  have h := of_decide_eq_true h
  rcases plOf_spec (b := b) (r := r) hn.1 s with ⟨g1, g2, g3⟩ | ⟨g1, g2⟩
  · have := (nk.1 _ g1 (by omega)).1.2
    omega
  · exact absurd g1 h
def inV (b r : Nat → Int) : Int := bset (inS b r)
def awV (b r : Nat → Int) : Int := bset (awS b r)
def coldN (b r : Nat → Int) : Nat → Int
  | 0 => -1
  | n + 1 => if inS b r (n : Int) = true ∧ (coldN b r n = -1 ∨ 100 + moreOf b r (n : Int) < coldN b r n) then 100 + moreOf b r (n : Int) else coldN b r n
def coldV (b r : Nat → Int) : Int := coldN b r (b 2).toNat
