/-! the model -/
def TXm (s : Mem) (x : Nat → Int) (L : Int) : Prop := s 65 3 = L ∧ ∀ i : Int, 0 ≤ i → i < L → s 68 i.toNat = x i.toNat
def hereV (x : Nat → Int) (L p : Int) : Int := if L ≤ sk x L p then -1 else x (sk x L p).toNat
theorem m_here {s : Mem} {x : Nat → Int} {L p : Int} {Q : Int → Mem → Prop} (tx : TX x L) (tc : TXm s x L) (hp : s 65 4 = p) (p0 : 0 ≤ p) (p1 : p ≤ 500) (hq : ∀ u : Mem, (∀ d, d ≠ 65 → u d = s d) → (∀ j, j ≠ 4 → u 65 j = s 65 j) → u 65 4 = sk x L p → Q (hereV x L p) u) : wp_X12_here s Q := by
  unfold wp_X12_here
  refine ⟨fun k s' => ∃ q : Int, p ≤ q ∧ q ≤ 500 ∧ k = (L - q).toNat ∧ (∀ d, d ≠ 65 → s' d = s d) ∧ (∀ j, j ≠ 4 → s' 65 j = s 65 j) ∧ s' 65 4 = q ∧ sk x L q = sk x L p, ?_, (L - p).toNat, p, by omega, p1, rfl, fun _ _ => rfl, fun _ _ => rfl, hp, rfl⟩
  rintro k s' ⟨q, q0, q1, ek, f1, f2, f3, f4⟩
  rw [f3, f2 3 (by decide), tc.1, f1 68 (by decide)]
  have hL := tx.1
  unfold hereV at hq
  refine ⟨inR_s (by omega) (by omega), inR_s (by omega) (by omega), sk x L p = q, fun hX => ⟨fun h => ?_, fun h => ⟨by omega, ?_⟩⟩, fun h => ?_, fun h => ⟨by omega, ?_⟩⟩
  · have := hq s' f1 f2 (by rw [f3, hX])
    rw [hX, if_pos h] at this
    exact this
  · have := hq s' f1 f2 (by rw [f3, hX])
    rw [hX, if_neg h] at this
    rw [tc.2 q (by omega) (by omega)]
    exact this
  · rw [← f4, (sk_in x L q).2.2 h]
  · have hx := tx.2 q (by omega) (by omega)
    rw [tc.2 q (by omega) (by omega)]
    have est := sk_step x L q
    rw [if_neg h] at est
    refine ⟨inR_s (by omega) (by omega), fun c => ?_, fun c => ?_⟩
    · rintro s6 rfl
      rw [if_pos c] at est
      exact ⟨(L - (q + 1)).toNat, by omega, q + 1, by omega, by omega, rfl, fun d hd => by rw [up2_c hd]; exact f1 d hd, fun j hj => by rw [up2_n hj]; exact f2 j hj, up2_s, by rw [← est]; exact f4⟩
    · rw [if_neg c] at est
      rw [← f4, est]
theorem hereV_in {x : Nat → Int} {L p : Int} (tx : TX x L) (p0 : 0 ≤ p) : -1 ≤ hereV x L p ∧ hereV x L p ≤ 255 := by
  unfold hereV
  split
  · omega
  · have := (sk_in x L p).1.1
    have := tx.2 (sk x L p) (by omega) (by omega)
    omega
theorem m_number {s : Mem} {x : Nat → Int} {L p a1 a2 : Int} {Q : Int → Mem → Prop} (tx : TX x L) (tc : TXm s x L) (h5 : s 65 5 = 0) (hp : s 65 4 = p) (p0 : 0 ≤ p) (p1 : p ≤ L) (ha1 : 0 ≤ a1 ∧ a1 ≤ 1000) (ha2 : -1 ≤ a2 ∧ a2 ≤ 998)
    (hq : ∀ (u : Mem) (v : Int), (∀ d, d ≠ 65 → u d = s d) → (∀ j, j ≠ 4 → j ≠ 5 → j ≠ 6 → j ≠ 7 → u 65 j = s 65 j) → (0 ≤ v ∧ v ≤ 9999) → (0 ≤ u 65 4 ∧ u 65 4 ≤ L) →
      ((∃ e q : Int, numF x L a1 a2 p = .inl (v, e, q) ∧ u 65 6 = s 65 6 ∧ u 65 4 = e ∧ u 65 5 = 0 ∧ u 65 7 = q ∧ p < e ∧ a1 ≤ v ∧ v ≤ a2) ∨ (∃ c w : Int, numF x L a1 a2 p = .inr (c, w) ∧ (c = 1 ∨ c = 2) ∧ u 65 5 = c ∧ u 65 6 = w)) → Q v u) : wp_X12_number a1 a2 s Q := by
  have hL := tx.1
  unfold wp_X12_number
  rw [h5]
  refine ⟨inR_0, fun _ => ?_, fun z => absurd rfl z⟩
  refine m_here tx tc hp p0 (by omega) (fun t ft gt t4 => ?_)
  have hh := hereV_in (p := p) tx p0
  have hs := sk_in x L p
  have hd := dg_in x L (sk x L p)
  have nF : numF x L a1 a2 p = if dg x L (sk x L p) = sk x L p then .inr (1, sk x L p) else if dg x L (sk x L p) - sk x L p ≤ 3 ∧ a1 ≤ vl x (sk x L p) (dg x L (sk x L p) - sk x L p).toNat ∧ vl x (sk x L p) (dg x L (sk x L p) - sk x L p).toNat ≤ a2 then .inl (vl x (sk x L p) (dg x L (sk x L p) - sk x L p).toNat, dg x L (sk x L p), sk x L p) else .inr (2, sk x L p) := rfl
  have ds0 := dg_step x L (sk x L p)
  have eh : hereV x L p = if L ≤ sk x L p then -1 else x (sk x L p).toNat := rfl
  generalize hqe : sk x L p = q at hs hd nF t4 ds0 eh
  have hqL := hs.1.2 p1
  have hdL := hd.2 hqL
  refine ⟨inR_s (by omega) (by omega), m_in (inR_s (by omega) (by omega)) (inR_s (by omega) (by omega)) (inR_s (by omega) (by omega)) ⟨by split <;> exact inR_s (by omega) (by omega), fun hn => ?_, fun hn => ?_⟩⟩
  · have hnd : ¬ (48 ≤ hereV x L p ∧ hereV x L p ≤ 57) := fun z => by rw [if_pos z] at hn; omega
    have e0 : dg x L q = q := by
      rw [ds0]
      by_cases c : L ≤ q
      · rw [if_pos c]
      · rw [if_neg c] at eh
        rw [if_neg c, if_neg (by rw [← eh]; exact hnd)]
    unfold wp_X12_faults
    rw [gt 5 (by decide), h5, t4]
    refine ⟨inR_0, fun _ => ?_, fun z => absurd rfl z⟩
    rintro s2 rfl s3 rfl
    rw [if_pos e0] at nF
    exact hq _ _ (fun d hd => by rw [up2_c hd, up2_c hd]; exact ft d hd) (fun j h0 h1 h2 h3 => by rw [up2_n h2, up2_n h1]; exact gt j h0) (by omega) (by rw [up2_n (by decide), up2_n (by decide), t4]; omega) (Or.inr ⟨1, q, nF, Or.inl rfl, by rw [up2_n (by decide), up2_s], by rw [up2_s]⟩)
  · have hd0 : 48 ≤ hereV x L p ∧ hereV x L p ≤ 57 := by
      by_cases z : 48 ≤ hereV x L p ∧ hereV x L p ≤ 57
      · exact z
      · rw [if_neg z] at hn; exact absurd rfl hn
    have hlt : ¬ L ≤ q := fun c => by rw [if_pos c] at eh; omega
    rw [if_neg hlt] at eh ds0
    rw [eh] at hd0
    rw [if_pos hd0] at ds0
    have hd1 := dg_in x L (q + 1)
    rintro s8 rfl
    rw [t4]
    refine ⟨fun k y s5 => ∃ c : Nat, q + (c : Int) ≤ L ∧ k = (L - (q + (c : Int))).toNat ∧ (∀ d, d ≠ 65 → s5 d = s d) ∧ (∀ j, j ≠ 4 → j ≠ 7 → s5 65 j = s 65 j) ∧ s5 65 4 = q + (c : Int) ∧ s5 65 7 = q ∧ dg x L (q + (c : Int)) = dg x L q ∧ (∀ i : Nat, i < c → 48 ≤ x (q + (i : Int)).toNat ∧ x (q + (i : Int)).toNat ≤ 57) ∧ y = (if c ≤ 3 then vl x q c else 9999), ?_, (L - q).toNat, 0, by omega, by rw [show q + ((0 : Nat) : Int) = q by omega], fun d hd => by rw [up2_c hd]; exact ft d hd, fun j h0 h1 => by rw [up2_n h1]; exact gt j h0, by rw [up2_n (by decide), t4]; omega, up2_s, by rw [show q + ((0 : Nat) : Int) = q by omega], fun i hi => by omega, rfl⟩
    rintro k y s5 ⟨c, c1, ek, f1, f2, f4, f6, fd, fg, fy⟩
    have hv : (c ≤ 3 ∧ y = vl x q c ∧ 0 ≤ y ∧ y ≤ 999) ∨ (¬ c ≤ 3 ∧ y = 9999) := by
      by_cases c3 : c ≤ 3
      · rw [if_pos c3] at fy
        have := vl_in (x := x) (q := q) c c3 fg
        exact Or.inl ⟨c3, fy, by omega, by omega⟩
      · rw [if_neg c3] at fy
        exact Or.inr ⟨c3, fy⟩
    rw [f4, f6, f2 3 (by decide) (by decide), tc.1, f1 68 (by decide)]
    have dst2 := dg_step x L (q + (c : Int))
    refine ⟨inR_s (by omega) (by omega), inR_s (by omega) (by omega), dg x L q = q + (c : Int), fun hX => ⟨inR_s (by omega) (by omega), inR_s (by omega) (by omega), inR_s (by omega) (by omega), m_in (inR_s (by omega) (by omega)) (inR_s (by omega) (by omega)) (inR_s (by omega) (by omega)) ⟨by split <;> exact inR_s (by omega) (by omega), fun hr => ?_, fun hr => ?_⟩⟩, fun h => ?_, fun h => ⟨by omega, ?_⟩⟩
    · have hno : ¬ (a1 ≤ y ∧ y ≤ a2) := fun z => by rw [if_pos z] at hr; omega
      unfold wp_X12_faults
      rw [f2 5 (by decide) (by decide), h5]
      refine ⟨inR_0, fun _ => ?_, fun z => absurd rfl z⟩
      rintro s2 rfl s3 rfl
      rw [if_neg (by omega), if_neg ?_] at nF
      · exact hq _ _ (fun d hd => by rw [up2_c hd, up2_c hd]; exact f1 d hd) (fun j h0 h1 h2 h3 => by rw [up2_n h2, up2_n h1]; exact f2 j h0 h3) (by omega) (by rw [up2_n (by decide), up2_n (by decide), f4]; omega) (Or.inr ⟨2, q, nF, Or.inr rfl, by rw [up2_n (by decide), up2_s], by rw [up2_s]⟩)
      · rw [hX, show (q + (c : Int) - q).toNat = c by omega]
        rintro ⟨g1, g2, g3⟩
        rcases hv with ⟨v1, v2, _⟩ | ⟨v1, _⟩
        · exact hno ⟨by rw [v2]; exact g2, by rw [v2]; exact g3⟩
        · omega
    · have hyes : a1 ≤ y ∧ y ≤ a2 := by
        by_cases z : a1 ≤ y ∧ y ≤ a2
        · exact z
        · rw [if_neg z] at hr; exact absurd rfl hr
      rcases hv with ⟨v1, v2, v3, v4⟩ | ⟨v1, v2⟩
      · have en : (dg x L q - q).toNat = c := by omega
        rw [if_neg (by omega), en, ← v2, if_pos ⟨by omega, hyes.1, hyes.2⟩] at nF
        exact hq _ _ f1 (fun j h0 h1 h2 h3 => f2 j h0 h3) (by omega) (by rw [f4]; omega) (Or.inl ⟨dg x L q, q, nF, f2 6 (by decide) (by decide), by rw [f4, hX], by rw [f2 5 (by decide) (by decide), h5], f6, by omega, hyes.1, hyes.2⟩)
      · omega
    · rw [if_pos h] at dst2
      rw [← fd, dst2]
    · have hx := tx.2 (q + (c : Int)) (by omega) (by omega)
      rw [tc.2 _ (by omega) (by omega)]
      rw [if_neg h] at dst2
      refine ⟨inR_s (by omega) (by omega), m_in (inR_s (by omega) (by omega)) (inR_s (by omega) (by omega)) (inR_s (by omega) (by omega)) ⟨by split <;> exact inR_s (by omega) (by omega), fun hr => ?_, fun hr => ⟨inR_s (by omega) (by omega), ?_⟩⟩⟩
      · rw [if_neg (fun z => by rw [if_pos z] at hr; omega)] at dst2
        rw [← fd, dst2]
      · have hyes : 48 ≤ x (q + (c : Int)).toNat ∧ x (q + (c : Int)).toNat ≤ 57 := by
          by_cases z : 48 ≤ x (q + (c : Int)).toNat ∧ x (q + (c : Int)).toNat ≤ 57
          · exact z
          · rw [if_neg z] at hr; exact absurd rfl hr
        rw [if_pos hyes] at dst2
        rintro v24 rfl s25 rfl
        refine ⟨(L - (q + ((c + 1 : Nat) : Int))).toNat, by omega, c + 1, by omega, rfl, fun d hd => by rw [up2_c hd]; exact f1 d hd, fun j h0 h1 => by rw [up2_n h0]; exact f2 j h0 h1, by rw [up2_s]; omega, by rw [up2_n (by decide)]; exact f6, ?_, fun i hi => ?_, ?_⟩
        · rw [← fd, dst2, show q + ((c + 1 : Nat) : Int) = q + (c : Int) + 1 by omega]
        · by_cases ci : i = c
          · rw [ci]; exact hyes
          · exact fg i (by omega)
        · by_cases cc : c ≤ 2
          · rw [if_pos (by omega), if_pos (show c + 1 ≤ 3 by omega), vl, fy, if_pos (by omega)]
          · rw [if_neg (by omega), if_neg (by omega)]
theorem m_numberBad {s : Mem} {a1 a2 : Int} {Q : Int → Mem → Prop} (h5 : s 65 5 ≠ 0) (h5' : inR (s 65 5)) (hq : Q a1 s) : wp_X12_number a1 a2 s Q := by
  unfold wp_X12_number
  exact ⟨h5', fun z => absurd z h5, fun _ => hq⟩
