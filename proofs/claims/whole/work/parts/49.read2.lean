theorem c_number {s : Mem} {x : Nat → Int} {L p a1 a2 : Int} {Q : Int → Mem → Prop} (tx : TX x L) (tc : TXc s x L) (h5 : s 8 5 = 0) (hp : s 8 4 = p) (p0 : 0 ≤ p) (p1 : p ≤ L) (ha1 : 0 ≤ a1 ∧ a1 ≤ 1000) (ha2 : -1 ≤ a2 ∧ a2 ≤ 998)
    (hq : ∀ (u : Mem) (v : Int), (∀ d, d ≠ 8 → u d = s d) → (∀ j, j ≠ 3 → j ≠ 4 → j ≠ 5 → j ≠ 6 → u 8 j = s 8 j) → (0 ≤ v ∧ v ≤ 999) → (0 ≤ u 8 4 ∧ u 8 4 ≤ L) →
      ((∃ e q : Int, numF x L a1 a2 p = .inl (v, e, q) ∧ u 8 3 = s 8 3 ∧ u 8 4 = e ∧ u 8 5 = 0 ∧ u 8 6 = q ∧ p < e ∧ a1 ≤ v ∧ v ≤ a2) ∨ (∃ c w : Int, numF x L a1 a2 p = .inr (c, w) ∧ (c = 1 ∨ c = 2) ∧ u 8 5 = c ∧ u 8 3 = w)) → Q v u) : wp_X6_readNumber a1 a2 s Q := by
  have hL := tx.1
  unfold wp_X6_readNumber
  rw [h5]
  refine ⟨inR_0, fun _ => ?_, fun z => absurd rfl z⟩
  refine c_skip tx tc hp p0 (by omega) (fun t ft gt t4 => ?_)
  have hs := sk_in x L p
  have hd := dg_in x L (sk x L p)
  have nF : numF x L a1 a2 p = if dg x L (sk x L p) = sk x L p then .inr (1, sk x L p) else if dg x L (sk x L p) - sk x L p ≤ 3 ∧ a1 ≤ vl x (sk x L p) (dg x L (sk x L p) - sk x L p).toNat ∧ vl x (sk x L p) (dg x L (sk x L p) - sk x L p).toNat ≤ a2 then .inl (vl x (sk x L p) (dg x L (sk x L p) - sk x L p).toNat, dg x L (sk x L p), sk x L p) else .inr (2, sk x L p) := rfl
  generalize hqe : sk x L p = q at hs hd nF t4
  have hqL := hs.1.2 p1
  have hdL := hd.2 hqL
  rintro s3 rfl
  rw [t4]
  refine ⟨fun k y s5 => ∃ c : Nat, q + (c : Int) ≤ L ∧ k = (L - (q + (c : Int))).toNat ∧ (∀ d, d ≠ 8 → s5 d = s d) ∧ (∀ j, j ≠ 4 → j ≠ 6 → s5 8 j = s 8 j) ∧ s5 8 4 = q + (c : Int) ∧ s5 8 6 = q ∧ dg x L (q + (c : Int)) = dg x L q ∧ (∀ i : Nat, i < c → 48 ≤ x (q + (i : Int)).toNat ∧ x (q + (i : Int)).toNat ≤ 57) ∧ y = vl x q (if c ≤ 3 then c else 3), ?_, (L - q).toNat, 0, by omega, by rw [show q + ((0 : Nat) : Int) = q by omega], fun d hd => by rw [up2_c hd]; exact ft d hd, fun j h0 h1 => by rw [up2_n h1]; exact gt j h0, by rw [up2_n (by decide), t4]; omega, up2_s, by rw [show q + ((0 : Nat) : Int) = q by omega], fun i hi => by omega, rfl⟩
  rintro k y s5 ⟨c, c1, ek, f1, f2, f4, f6, fd, fg, fy⟩
  have hv := vl_in (x := x) (q := q) (if c ≤ 3 then c else 3) (by split <;> omega) (fun i hi => fg i (by split at hi <;> omega))
  rw [← fy] at hv
  rw [f4, f6, f2 2 (by decide) (by decide), tc.1, f1 9 (by decide)]
  have dst2 := dg_step x L (q + (c : Int))
  refine ⟨inR_s (by omega) (by omega), inR_s (by omega) (by omega), dg x L q = q + (c : Int), fun hX => ⟨inR_s (by omega) (by omega), fun h => ?_, fun h => ⟨inR_s (by omega) (by omega), ¬ ((c : Int) ≤ 3 ∧ a1 ≤ y ∧ y ≤ a2), fun hX2 => ?_, fun h2 => by omega, fun h2 => ⟨inR_s (by omega) (by omega), inR_s (by omega) (by omega), fun h3 => by omega, fun h3 => ⟨inR_s (by omega) (by omega), fun h4' => ?_, fun h4' => by omega⟩⟩⟩⟩, fun h => ?_, fun h => ⟨by omega, ?_⟩⟩
  · unfold wp_X6_blame
    rw [f2 5 (by decide) (by decide), h5]
    refine ⟨inR_0, fun _ => ?_, fun z => absurd rfl z⟩
    rintro s2 rfl s3 rfl
    rw [if_pos (by omega)] at nF
    refine hq _ _ (fun d hd => by rw [up2_c hd, up2_c hd]; exact f1 d hd) (fun j h0 h1 h2 h3 => by rw [up2_n h0, up2_n h2]; exact f2 j h1 h3) (by omega) (by rw [up2_n (by decide), up2_n (by decide), f4]; omega) (Or.inr ⟨1, q, nF, Or.inl rfl, by rw [up2_n (by decide), up2_s], by rw [up2_s]; omega⟩)
  · unfold wp_X6_blame
    rw [f2 5 (by decide) (by decide), h5]
    refine ⟨inR_0, fun _ => ?_, fun z => absurd rfl z⟩
    rintro s2 rfl s3 rfl
    rw [if_neg (by omega), if_neg ?_] at nF
    · refine hq _ _ (fun d hd => by rw [up2_c hd, up2_c hd]; exact f1 d hd) (fun j h0 h1 h2 h3 => by rw [up2_n h0, up2_n h2]; exact f2 j h1 h3) (by omega) (by rw [up2_n (by decide), up2_n (by decide), f4]; omega) (Or.inr ⟨2, q, nF, Or.inr rfl, by rw [up2_n (by decide), up2_s], by rw [up2_s]⟩)
    · rw [hX, show (q + (c : Int) - q).toNat = c by omega]
      rintro ⟨g1, g2, g3⟩
      rw [if_pos (by omega)] at fy
      exact hX2 ⟨by omega, by rw [fy]; exact g2, by rw [fy]; exact g3⟩
  · rw [if_pos (by omega)] at fy
    have en : (dg x L q - q).toNat = c := by omega
    rw [if_neg (by omega), en, ← fy, if_pos ⟨by omega, by omega, h4'⟩] at nF
    refine hq _ _ f1 (fun j h0 h1 h2 h3 => f2 j h1 h3) (by omega) (by rw [f4]; omega) (Or.inl ⟨dg x L q, q, nF, f2 3 (by decide) (by decide), by rw [f4, hX], by rw [f2 5 (by decide) (by decide), h5], f6, by omega, by omega, h4'⟩)
  · rw [if_pos h] at dst2
    rw [← fd, dst2]
  · have hx := tx.2 (q + (c : Int)) (by omega) (by omega)
    rw [tc.2 _ (by omega) (by omega)]
    rw [if_neg h] at dst2
    refine ⟨inR_s (by omega) (by omega), fun h1 => ?_, fun h1 => ⟨fun h2 => ?_, fun h2 => ⟨inR_s (by omega) (by omega), ?_⟩⟩⟩
    · rw [if_neg (by omega)] at dst2; rw [← fd, dst2]
    · rw [if_neg (by omega)] at dst2; rw [← fd, dst2]
    · rw [if_pos (by omega)] at dst2
      rintro y3 rfl s19 rfl
      refine ⟨(L - (q + ((c + 1 : Nat) : Int))).toNat, by omega, c + 1, by omega, rfl, fun d hd => by rw [up2_c hd]; exact f1 d hd, fun j h0 h1 => by rw [up2_n h0]; exact f2 j h0 h1, by rw [up2_s]; omega, by rw [up2_n (by decide)]; exact f6, ?_, fun i hi => ?_, ?_⟩
      · rw [← fd, dst2, show q + ((c + 1 : Nat) : Int) = q + (c : Int) + 1 by omega]
      · by_cases ci : i = c
        · rw [ci]; omega
        · exact fg i (by omega)
      · by_cases cc : c ≤ 2
        · rw [if_neg (by omega), if_pos (show c + 1 ≤ 3 by omega), vl, fy, if_pos (by omega)]
          omega
        · rw [if_pos (by omega), fy]
          by_cases c3 : c ≤ 3
          · rw [if_pos c3, if_neg (by omega), show c = 3 by omega]
          · rw [if_neg c3, if_neg (by omega)]
theorem c_numberBad {s : Mem} {a1 a2 : Int} {Q : Int → Mem → Prop} (h5 : s 8 5 ≠ 0) (h5' : inR (s 8 5)) (hq : Q 0 s) : wp_X6_readNumber a1 a2 s Q := by
  unfold wp_X6_readNumber
  exact ⟨h5', fun z => absurd z h5, fun _ => hq⟩
