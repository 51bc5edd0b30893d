/-! ===== the reader: what a text says ===== -/
def TX (x : Nat → Int) (L : Int) : Prop := (0 ≤ L ∧ L ≤ 200) ∧ ∀ i : Int, 0 ≤ i → i < L → 0 ≤ x i.toNat ∧ x i.toNat ≤ 255
def skN (x : Nat → Int) (L : Int) : Nat → Int → Int
  | 0, p => p
  | n + 1, p => if L ≤ p then p else if x p.toNat = 32 then skN x L n (p + 1) else p
def sk (x : Nat → Int) (L p : Int) : Int := skN x L (L - p).toNat p
theorem sk_step (x : Nat → Int) (L p : Int) : sk x L p = if L ≤ p then p else if x p.toNat = 32 then sk x L (p + 1) else p := by
  unfold sk
  by_cases c : L ≤ p
  · rw [if_pos c, show (L - p).toNat = 0 by omega]
    rfl
  · rw [if_neg c, show (L - p).toNat = (L - (p + 1)).toNat + 1 by omega, skN, if_neg c]
theorem sk_spec (x : Nat → Int) (L : Int) : ∀ (n : Nat) (p : Int), (L - p).toNat = n → (p ≤ sk x L p ∧ (p ≤ L → sk x L p ≤ L)) ∧ (L ≤ sk x L p ∨ x (sk x L p).toNat ≠ 32) ∧ (L ≤ p → sk x L p = p)
  | 0, p, h => by
    have c : L ≤ p := by omega
    rw [sk_step, if_pos c]
    exact ⟨⟨by omega, fun h => h⟩, Or.inl c, fun _ => rfl⟩
  | n + 1, p, h => by
    have c : ¬ L ≤ p := by omega
    rw [sk_step, if_neg c]
    by_cases d : x p.toNat = 32
    · rw [if_pos d]
      have ih := sk_spec x L n (p + 1) (by omega)
      exact ⟨⟨by omega, fun _ => ih.1.2 (by omega)⟩, ih.2.1, fun z => absurd z c⟩
    · rw [if_neg d]
      exact ⟨⟨by omega, fun h => h⟩, Or.inr d, fun _ => rfl⟩
theorem sk_in (x : Nat → Int) (L p : Int) : (p ≤ sk x L p ∧ (p ≤ L → sk x L p ≤ L)) ∧ (L ≤ sk x L p ∨ x (sk x L p).toNat ≠ 32) ∧ (L ≤ p → sk x L p = p) := sk_spec x L _ p rfl
theorem sk_idem (x : Nat → Int) (L p : Int) : sk x L (sk x L p) = sk x L p := by
  have h := (sk_in x L p).2.1
  rw [sk_step x L (sk x L p)]
  by_cases c : L ≤ sk x L p
  · rw [if_pos c]
  · rw [if_neg c]
    rcases h with h | h
    · exact absurd h c
    · rw [if_neg h]
def isD (z : Int) : Prop := 48 ≤ z ∧ z ≤ 57
theorem isD_em (z : Int) : isD z ∨ ¬ isD z := by unfold isD; omega
def dgN (x : Nat → Int) (L : Int) : Nat → Int → Int
  | 0, p => p
  | n + 1, p => if L ≤ p then p else if 48 ≤ x p.toNat ∧ x p.toNat ≤ 57 then dgN x L n (p + 1) else p
def dg (x : Nat → Int) (L p : Int) : Int := dgN x L (L - p).toNat p
theorem dg_step (x : Nat → Int) (L p : Int) : dg x L p = if L ≤ p then p else if 48 ≤ x p.toNat ∧ x p.toNat ≤ 57 then dg x L (p + 1) else p := by
  unfold dg
  by_cases c : L ≤ p
  · rw [if_pos c, show (L - p).toNat = 0 by omega]
    rfl
  · rw [if_neg c, show (L - p).toNat = (L - (p + 1)).toNat + 1 by omega, dgN, if_neg c]
theorem dg_spec (x : Nat → Int) (L : Int) : ∀ (n : Nat) (p : Int), (L - p).toNat = n → p ≤ dg x L p ∧ (p ≤ L → dg x L p ≤ L)
  | 0, p, h => by
    have c : L ≤ p := by omega
    rw [dg_step, if_pos c]
    exact ⟨by omega, fun h => h⟩
  | n + 1, p, h => by
    have c : ¬ L ≤ p := by omega
    rw [dg_step, if_neg c]
    split
    · have ih := dg_spec x L n (p + 1) (by omega)
      exact ⟨by omega, fun _ => ih.2 (by omega)⟩
    · exact ⟨by omega, fun h => h⟩
theorem dg_in (x : Nat → Int) (L p : Int) : p ≤ dg x L p ∧ (p ≤ L → dg x L p ≤ L) := dg_spec x L _ p rfl
/-- the number that n digits from q on write -/
def vl (x : Nat → Int) (q : Int) : Nat → Int
  | 0 => 0
  | n + 1 => 10 * vl x q n + x (q + (n : Int)).toNat - 48
theorem vl_in {x : Nat → Int} {q : Int} : ∀ n : Nat, n ≤ 3 → (∀ i : Nat, i < n → 48 ≤ x (q + (i : Int)).toNat ∧ x (q + (i : Int)).toNat ≤ 57) → 0 ≤ vl x q n ∧ (n = 0 → vl x q n = 0) ∧ (n = 1 → vl x q n ≤ 9) ∧ (n = 2 → vl x q n ≤ 99) ∧ vl x q n ≤ 999
  | 0, _, _ => by unfold vl; omega
  | n + 1, h, g => by
    have ih := vl_in n (by omega) (fun i hi => g i (by omega))
    have gn := g n (by omega)
    rw [vl]
    omega
/-- a number: value, place behind, its first place; or fault and where -/
def numF (x : Nat → Int) (L a1 a2 p : Int) : (Int × Int × Int) ⊕ (Int × Int) :=
  if dg x L (sk x L p) = sk x L p then .inr (1, sk x L p)
  else if dg x L (sk x L p) - sk x L p ≤ 3 ∧ a1 ≤ vl x (sk x L p) (dg x L (sk x L p) - sk x L p).toNat ∧ vl x (sk x L p) (dg x L (sk x L p) - sk x L p).toNat ≤ a2 then .inl (vl x (sk x L p) (dg x L (sk x L p) - sk x L p).toNat, dg x L (sk x L p), sk x L p)
  else .inr (2, sk x L p)
/-! the class -/
def TXc (s : Mem) (x : Nat → Int) (L : Int) : Prop := s 8 2 = L ∧ ∀ i : Int, 0 ≤ i → i < L → s 9 i.toNat = x i.toNat
theorem c_skip {s : Mem} {x : Nat → Int} {L p : Int} {Q : Mem → Prop} (tx : TX x L) (tc : TXc s x L) (hp : s 8 4 = p) (p0 : 0 ≤ p) (p1 : p ≤ 500) (hq : ∀ u : Mem, (∀ d, d ≠ 8 → u d = s d) → (∀ j, j ≠ 4 → u 8 j = s 8 j) → u 8 4 = sk x L p → Q u) : wp_X6_skipBlanks s Q := by
  unfold wp_X6_skipBlanks
  refine ⟨fun k s' => ∃ q : Int, p ≤ q ∧ q ≤ 500 ∧ k = (L - q).toNat ∧ (∀ d, d ≠ 8 → s' d = s d) ∧ (∀ j, j ≠ 4 → s' 8 j = s 8 j) ∧ s' 8 4 = q ∧ sk x L q = sk x L p, ?_, (L - p).toNat, p, by omega, p1, rfl, fun _ _ => rfl, fun _ _ => rfl, hp, rfl⟩
  rintro k s' ⟨q, q0, q1, ek, f1, f2, f3, f4⟩
  rw [f3, f2 2 (by decide), tc.1, f1 9 (by decide)]
  have hL := tx.1
  refine ⟨inR_s (by omega) (by omega), inR_s (by omega) (by omega), fun h => hq s' f1 f2 ?_, fun h => ⟨by omega, ?_⟩⟩
  · rw [f3, ← f4, (sk_in x L q).2.2 h]
  · have hx := tx.2 q (by omega) (by omega)
    rw [tc.2 q (by omega) (by omega)]
    have est := sk_step x L q
    rw [if_neg h] at est
    refine ⟨inR_s (by omega) (by omega), fun c => ?_, fun c => hq s' f1 f2 ?_⟩
    · rintro s6 rfl
      rw [if_pos c] at est
      exact ⟨(L - (q + 1)).toNat, by omega, q + 1, by omega, by omega, rfl, fun d hd => by rw [up2_c hd]; exact f1 d hd, fun j hj => by rw [up2_n hj]; exact f2 j hj, up2_s, by rw [← est]; exact f4⟩
    · rw [if_neg c] at est
      rw [f3, ← f4, est]
