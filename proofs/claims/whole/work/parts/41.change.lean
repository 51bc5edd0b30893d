/-! change -/
theorem NightC.put {σ : Mem} {c : Nat} {r : Nat → Int} {p v : Int} (nc : NightC σ c r) (h0 : 0 ≤ p) (h1 : p < 6) : NightC (up2 σ (c + 1) p.toNat v) c (up1 r (1 + p).toNat v) := by
  refine ⟨?_, fun s k0 k1 => ⟨?_, ?_⟩⟩
  · rw [up2_c (by omega), nc.1]
    unfold up1
    rw [if_neg (by omega)]
  · rw [up2_e, whoOf_put k0 h0]
    by_cases hsp : s = p
    · rw [if_pos (by rw [hsp]), if_pos hsp]
    · rw [if_neg (by omega), if_neg hsp]
      exact (nc.2 s k0 k1).1
  · rw [up2_c (by omega), warmOf_put k0 h0 h1]
    exact (nc.2 s k0 k1).2
theorem turns_0 (b r : Nat → Int) : turnsR b r 0 = r := by
  funext j
  unfold turnsR
  split
  · unfold tw whoOf
    rw [if_neg (by decide), if_neg (by decide), if_neg (by decide), show (1 + ((j : Int) - 1)).toNat = j by omega]
  · rfl
theorem goes_0 (b r : Nat → Int) : goesR b r 0 = up1 (warmR b r 1) 0 (r 0 + 1) := by
  unfold goesR
  rw [turns_0]
def swp (b r : Nat → Int) (i j : Int) : Nat → Int := up1 (up1 r (1 + plOf b r i).toNat j) (1 + plOf b r j).toNat i
theorem NightOk.swap {b r : Nat → Int} (nk : NightOk b r) {pa pb i j : Int} (hb : b 0 ≤ 6) (hij : i ≠ j) (hi : i ≠ -1) (hj : j ≠ -1) (a0 : 0 ≤ pa) (a1 : pa < b 0) (a2 : whoOf r pa = i) (b0 : 0 ≤ pb) (b1 : pb < b 0) (b2 : whoOf r pb = j) : NightOk b (up1 (up1 r (1 + pa).toNat j) (1 + pb).toNat i) := by
  have hne : pa ≠ pb := fun e => by rw [e, b2] at a2; exact hij a2.symm
  have hw : ∀ p : Int, 0 ≤ p → whoOf (up1 (up1 r (1 + pa).toNat j) (1 + pb).toNat i) p = if p = pb then i else if p = pa then j else whoOf r p := fun p p0 => by
    rw [whoOf_put p0 b0, whoOf_put p0 a0]
  have ra := (nk.1 pa a0 (by omega)).1
  have rb := (nk.1 pb b0 (by omega)).1
  refine ⟨fun p k0 k1 => ?_, fun p t k0 k1 l0 l1 he hn => ?_⟩
  · rw [hw p k0, warmOf_put k0 b0 (by omega), warmOf_put k0 a0 (by omega)]
    have rp := nk.1 p k0 k1
    refine ⟨?_, fun h => ?_, rp.2.2⟩
    · split
      · omega
      · split
        · omega
        · exact rp.1
    · rw [if_neg (by omega), if_neg (by omega)]
      exact rp.2.1 h
  · rw [hw p k0] at he hn
    rw [hw t l0] at he
    have u1 : ∀ p : Int, 0 ≤ p → p < 6 → whoOf r p = i → p = pa := fun p p0 p1 e => nk.2 p pa p0 p1 a0 (by omega) (by rw [e, a2]) (by rw [e]; exact hi)
    have u2 : ∀ p : Int, 0 ≤ p → p < 6 → whoOf r p = j → p = pb := fun p p0 p1 e => nk.2 p pb p0 p1 b0 (by omega) (by rw [e, b2]) (by rw [e]; exact hj)
    by_cases c1 : p = pb
    · rw [if_pos c1] at he hn
      by_cases c2 : t = pb
      · rw [c1, c2]
      · rw [if_neg c2] at he
        by_cases c3 : t = pa
        · rw [if_pos c3] at he; exact absurd he hij
        · rw [if_neg c3] at he
          exact absurd (u1 t l0 l1 he.symm) c3
    · rw [if_neg c1] at he hn
      by_cases c4 : p = pa
      · rw [if_pos c4] at he hn
        by_cases c2 : t = pb
        · rw [if_pos c2] at he; exact absurd he.symm hij
        · rw [if_neg c2] at he
          by_cases c3 : t = pa
          · rw [c4, c3]
          · rw [if_neg c3] at he
            exact absurd (u2 t l0 l1 he.symm) c2
      · rw [if_neg c4] at he hn
        by_cases c2 : t = pb
        · rw [if_pos c2] at he
          exact absurd (u1 p k0 k1 he) c4
        · rw [if_neg c2] at he
          by_cases c3 : t = pa
          · rw [if_pos c3] at he
            exact absurd (u2 p k0 k1 he) c1
          · rw [if_neg c3] at he
            exact nk.2 p t k0 k1 l0 l1 he hn
def BW (b r : Nat → Int) (i j : Int) : Int := if plOf b r i = -1 then 0 else if plOf b r j = -1 then 0 else if warmOf (warmR b (swp b r i j) 1) i ≤ warmOf (warmR b r 1) i then 0 else if warmOf (warmR b (swp b r i j) 1) j ≤ warmOf (warmR b r 1) j then 0 else 1
theorem BW_in (b r : Nat → Int) (i j : Int) : BW b r i j = 0 ∨ BW b r i j = 1 := by
  unfold BW
  split
  · exact Or.inl rfl
  · split
    · exact Or.inl rfl
    · split
      · exact Or.inl rfl
      · split
        · exact Or.inl rfl
        · exact Or.inr rfl
theorem NightOk.swp {b r : Nat → Int} (ok : BedOk b) (nk : NightOk b r) {i j : Int} (h0 : 0 ≤ i) (h1 : i < j) (ha : plOf b r i ≠ -1) (hb : plOf b r j ≠ -1) : ((0 ≤ plOf b r i ∧ plOf b r i < b 0) ∧ (0 ≤ plOf b r j ∧ plOf b r j < b 0)) ∧ NightOk b (swp b r i j) := by
  have hn := ok.n6
  rcases plOf_spec (b := b) (r := r) hn.1 i with ⟨a1, a2, a3⟩ | ⟨a1, _⟩
  · rcases plOf_spec (b := b) (r := r) hn.1 j with ⟨b1, b2, b3⟩ | ⟨b1, _⟩
    · exact ⟨⟨⟨a1, a2⟩, b1, b2⟩, nk.swap hn.2 (by omega) (by omega) (by omega) a1 a2 a3 b1 b2 b3⟩
    · exact absurd b1 hb
  · exact absurd a1 ha
theorem c_bothWarmer {i j : Int} {σ : Mem} {b r : Nat → Int} {Q : Int → Mem → Prop} (bc : BedC σ b) (nc : NightC σ 17 r) (ok : BedOk b) (nk : NightOk b r) (h0 : 0 ≤ i) (h1 : i < j) (h2 : j < b 2) (h56 : ∀ s : Int, 0 ≤ s → s < 6 → σ 56 s.toNat = warmOf (warmR b r 1) s)
    (hq : ∀ u : Mem, (∀ d, d ≠ 20 → d ≠ 21 → d ≠ 22 → u d = σ d) → Q (BW b r i j) u) : wp_X3_bothWarmer 17 i j σ Q := by
  have hn := ok.n6
  have h6 := ok.s6
  unfold wp_X3_bothWarmer
  have ra : inR (plOf b r i) := by rcases plOf_spec (b := b) (r := r) hn.1 i with h | h <;> exact inR_s (by omega) (by omega)
  have rb : inR (plOf b r j) := by rcases plOf_spec (b := b) (r := r) hn.1 j with h | h <;> exact inR_s (by omega) (by omega)
  refine c_placeOf bc nc ok nk (inR_s (by omega) (by omega)) (by omega) (c_placeOf bc nc ok nk (inR_s (by omega) (by omega)) (by omega) ?_)
  unfold BW at hq
  refine ⟨ra, fun c => ?_, fun c => ⟨rb, fun c2 => ?_, fun c2 => c_become isN_20 isN_17 nc (fun t nt ft => ?_)⟩⟩
  · rw [if_pos c] at hq; exact hq σ (fun _ _ _ _ => rfl)
  · rw [if_neg c, if_pos c2] at hq; exact hq σ (fun _ _ _ _ => rfl)
  · rw [if_neg c, if_neg c2] at hq
    obtain ⟨⟨⟨p0, p1⟩, q0, q1⟩, ks⟩ := nk.swp ok h0 h1 c c2
    refine ⟨by omega, ?_⟩
    rintro s7 rfl
    refine ⟨by omega, ?_⟩
    rintro s9 rfl
    have n9 := (nt.put (v := j) p0 (by omega)).put (v := i) q0 (by omega)
    refine c_stay (b := b) (r := swp b r i j) isN_20 (bc.keep (fun d g0 g1 => by rw [up2_c (by omega), up2_c (by omega)]; exact ft d (by omega) (by omega) (by omega))) n9 ok ks (by omega) (by omega) (fun u nu fu => ?_)
    have f : ∀ d, d ≠ 20 → d ≠ 21 → d ≠ 22 → u d = σ d := fun d g0 g1 g2 => by rw [fu d g2, up2_c g1, up2_c g1]; exact ft d g0 g1 g2
    have kw := ks.warm 1
    have kb := nk.warm 1
    have e1 : u 22 i.toNat = warmOf (warmR b (swp b r i j) 1) i := (nu.2 i h0 (by omega)).2
    have e2 : u 22 j.toNat = warmOf (warmR b (swp b r i j) 1) j := (nu.2 j (by omega) (by omega)).2
    have w1 := (kw.1 i h0 (by omega)).2.2
    have w2 := (kw.1 j (by omega) (by omega)).2.2
    have w3 := (kb.1 i h0 (by omega)).2.2
    have w4 := (kb.1 j (by omega) (by omega)).2.2
    rw [e1, e2, f 56 (by decide) (by decide) (by decide), h56 i h0 (by omega), h56 j (by omega) (by omega)]
    refine ⟨by omega, inR_s (by omega) (by omega), inR_s (by omega) (by omega), fun c3 => ?_, fun c3 => ⟨by omega, inR_s (by omega) (by omega), inR_s (by omega) (by omega), fun c4 => ?_, fun c4 => ?_⟩⟩
    · rw [if_pos c3] at hq; exact hq u f
    · rw [if_neg c3, if_pos c4] at hq; exact hq u f
    · rw [if_neg c3, if_neg c4] at hq; exact hq u f
/-! the list of pairs -/
def prI (b r : Nat → Int) (i : Nat) (X : Nat × (Nat → Int)) : Nat → Nat × (Nat → Int)
  | 0 => X
  | m + 1 => if BW b r (i : Int) ((i + 1 + m : Nat) : Int) = 0 then prI b r i X m else ((prI b r i X m).1 + 1, up1 (prI b r i X m).2 (prI b r i X m).1 (10 * (i : Int) + ((i + 1 + m : Nat) : Int)))
def prO (b r : Nat → Int) (S : Nat) : Nat → Nat × (Nat → Int)
  | 0 => (0, fun _ => -1)
  | i + 1 => prI b r i (prO b r S i) (S - (i + 1))
theorem prI_le (b r : Nat → Int) (i : Nat) (X : Nat × (Nat → Int)) : ∀ m : Nat, (prI b r i X m).1 ≤ X.1 + m
  | 0 => Nat.le_refl _
  | m + 1 => by
    have := prI_le b r i X m
    unfold prI
    split
    · omega
    · dsimp only; omega
theorem prO_le (b r : Nat → Int) {S : Nat} (h : S ≤ 6) : ∀ i : Nat, (prO b r S i).1 ≤ 5 * i
  | 0 => Nat.le_refl _
  | i + 1 => by
    have ih := prO_le b r h i
    have := prI_le b r i (prO b r S i) (S - (i + 1))
    unfold prO
    omega
def PrC (s : Mem) (X : Nat × (Nat → Int)) : Prop := s 52 8 = (X.1 : Int) ∧ ∀ k : Nat, k < X.1 → s 57 k = X.2 k
theorem PrC.keep {s t : Mem} {X : Nat × (Nat → Int)} (h : PrC s X) (h1 : t 52 = s 52) (h2 : t 57 = s 57) : PrC t X := by unfold PrC; rw [h1, h2]; exact h
theorem c_seekPairs {σ : Mem} {b r : Nat → Int} {Q : Mem → Prop} (bc : BedC σ b) (nc : NightC σ 17 r) (ok : BedOk b) (nk : NightOk b r)
    (hq : ∀ u : Mem, (∀ d, d ≠ 20 → d ≠ 21 → d ≠ 22 → d ≠ 52 → d ≠ 56 → d ≠ 57 → u d = σ d) → PrC u (prO b r (b 2).toNat (b 2).toNat) → Q u) : wp_X3_seekPairs 17 σ Q := by
  have hn := ok.n6
  have h6 := ok.s6
  generalize hS : (b 2).toNat = S at hq
  unfold wp_X3_seekPairs
  refine c_become isN_20 isN_17 nc (fun t nt ft => ?_)
  refine c_stay (b := b) isN_20 (bc.keep (fun d g0 g1 => ft d (by omega) (by omega) (by omega))) nt ok nk (by omega) (by omega) (fun u nu fu => ?_)
  rintro s3 rfl s4 rfl
  have base : ∀ s : Int, 0 ≤ s → s < 6 → up2 (upr u 56 (fun j => if j < 6 then u 22 j else u 56 j)) 52 8 0 56 s.toNat = warmOf (warmR b r 1) s := by
    intro s g0 g1
    rw [up2_c (by decide), upr_s, if_pos (by omega)]
    exact (nu.2 s g0 g1).2
  have f0 : ∀ d, d ≠ 20 → d ≠ 21 → d ≠ 22 → d ≠ 52 → d ≠ 56 → up2 (upr u 56 (fun j => if j < 6 then u 22 j else u 56 j)) 52 8 0 d = σ d := fun d g0 g1 g2 g3 g4 => by
    rw [up2_c g3, upr_c g4, fu d g2]; exact ft d g0 g1 g2
  have p0 : PrC (up2 (upr u 56 (fun j => if j < 6 then u 22 j else u 56 j)) 52 8 0) (0, fun _ => -1) := ⟨by rw [up2_s]; rfl, fun k hk => by dsimp only at hk; omega⟩
  generalize up2 (upr u 56 (fun j => if j < 6 then u 22 j else u 56 j)) 52 8 0 = s0 at base f0 p0
  have e2 : b 2 = (S : Int) := by omega
  have b12 : ∀ s : Mem, (∀ d, d ≠ 20 → d ≠ 21 → d ≠ 22 → d ≠ 52 → d ≠ 57 → s d = s0 d) → s 1 2 = (S : Int) := fun s hs => by
    rw [hs 1 (by decide) (by decide) (by decide) (by decide) (by decide), f0 1 (by decide) (by decide) (by decide) (by decide) (by decide), bc.2.2.1, e2]
  refine ⟨fun k y s => ∃ i : Nat, y = (i : Int) ∧ i ≤ S ∧ k + i = S ∧ (∀ d, d ≠ 20 → d ≠ 21 → d ≠ 22 → d ≠ 52 → d ≠ 57 → s d = s0 d) ∧ PrC s (prO b r S i), ?_, S, 0, rfl, by omega, rfl, fun _ _ _ _ _ _ => rfl, p0⟩
  rintro k y s ⟨i, rfl, i1, i2, i3, i4⟩
  rw [b12 s i3]
  refine ⟨inR_s (by omega) (by omega), inR_s (by omega) (by omega), fun h => ?_, fun h => ?_⟩
  · refine hq s (fun d g0 g1 g2 g3 g4 g5 => by rw [i3 d g0 g1 g2 g3 g5]; exact f0 d g0 g1 g2 g3 g4) ?_
    rw [show i = S by omega] at i4; exact i4
  · rintro x3 rfl
    refine ⟨fun k' y' s' => ∃ m : Nat, y' = ((i + 1 + m : Nat) : Int) ∧ i + 1 + m ≤ S ∧ k' + (i + 1 + m) = S ∧ (∀ d, d ≠ 20 → d ≠ 21 → d ≠ 22 → d ≠ 52 → d ≠ 57 → s' d = s0 d) ∧ PrC s' (prI b r i (prO b r S i) m), ?_, S - (i + 1), 0, by omega, by omega, by omega, i3, i4⟩
    rintro k' y' s' ⟨m, rfl, m1, m2, m3, m4⟩
    rw [b12 s' m3]
    refine ⟨inR_s (by omega) (by omega), inR_s (by omega) (by omega), fun h1 => ?_, fun h1 => ?_⟩
    · rintro x2 rfl
      refine ⟨k - 1, by omega, i + 1, by omega, by omega, by omega, m3, ?_⟩
      unfold prO
      rw [show S - (i + 1) = m by omega]
      exact m4
    · have g : ∀ d, d ≠ 20 → d ≠ 21 → d ≠ 22 → d ≠ 52 → d ≠ 56 → d ≠ 57 → s' d = σ d := fun d g0 g1 g2 g3 g4 g5 => by rw [m3 d g0 g1 g2 g3 g5]; exact f0 d g0 g1 g2 g3 g4
      refine c_bothWarmer (b := b) (r := r) (bc.keep (fun d g0 g1 => g d (by omega) (by omega) (by omega) (by omega) (by omega) (by omega))) (nc.keep (g 17 (by decide) (by decide) (by decide) (by decide) (by decide) (by decide)) (g 18 (by decide) (by decide) (by decide) (by decide) (by decide) (by decide)) (g 19 (by decide) (by decide) (by decide) (by decide) (by decide) (by decide))) ok nk (by omega) (by omega) (by omega) (fun s g0 g1 => by rw [m3 56 (by decide) (by decide) (by decide) (by decide) (by decide)]; exact base s g0 g1) (fun v fv => ?_)
      have hbw := BW_in b r (i : Int) ((i + 1 + m : Nat) : Int)
      have hle := prI_le b r i (prO b r S i) m
      have hle2 := prO_le b r (S := S) (by omega) i
      have v52 : v 52 = s' 52 := fv 52 (by decide) (by decide) (by decide)
      have v57 : v 57 = s' 57 := fv 57 (by decide) (by decide) (by decide)
      refine ⟨inR_s (by omega) (by omega), fun s19 => (∀ d, d ≠ 20 → d ≠ 21 → d ≠ 22 → d ≠ 52 → d ≠ 57 → s19 d = s0 d) ∧ PrC s19 (prI b r i (prO b r S i) (m + 1)), ?_, fun c => ?_, fun c => ?_⟩
      · rintro s19 ⟨x1, x2⟩ x3 rfl
        exact ⟨k' - 1, by omega, m + 1, by omega, by omega, by omega, x1, x2⟩
      · rw [prI, if_pos c]
        exact ⟨fun d g0 g1 g2 g3 g4 => by rw [fv d g0 g1 g2]; exact m3 d g0 g1 g2 g3 g4, m4.keep v52 v57⟩
      · rw [v52, m4.1]
        refine ⟨by omega, ?_⟩
        rintro s23 rfl s24 rfl
        rw [prI, if_neg c, up2_c (show (52 : Nat) ≠ 57 by decide), v52, m4.1]
        refine ⟨fun d g0 g1 g2 g3 g4 => by rw [up2_c g3, up2_c g4, fv d g0 g1 g2]; exact m3 d g0 g1 g2 g3 g4, ?_, fun k hk => ?_⟩
        · rw [up2_s]; dsimp only; omega
        · dsimp only at hk ⊢
          rw [up2_c (by decide), up2_e, v57]
          unfold up1
          by_cases hk2 : k = (prI b r i (prO b r S i) m).1
          · rw [if_pos (by omega), if_pos hk2]
          · rw [if_neg (by omega), if_neg hk2]
            exact m4.2 k (by omega)
theorem m_warm_goes0 {b r : Nat → Int} {s : Int} (h0 : 0 ≤ s) : goesR b r 0 (7 + s).toNat = warmOf (warmR b r 1) s := by
  have : warmOf (goesR b r 0) s = warmOf (warmR b r 1) s := by rw [goes_0, warmOf_up0 h0]
  exact this
def PrV (X : Nat × (Nat → Int)) (a : Int) : Int := if 0 ≤ a ∧ a < (X.1 : Int) then X.2 a.toNat else -1
theorem m_change {a : Int} (ha : inR a) {σ : Mem} {r : Nat → Int} {Q : Int → Mem → Prop} (ok : BedOk (σ 67)) (nk : NightOk (σ 67) r) (m9 : σ 69 = r)
    (hq : ∀ u : Mem, (∀ d, d ≠ 70 → d ≠ 72 → d ≠ 74 → u d = σ d) → Q (if a = -1 then ((prO (σ 67) r (σ 67 2).toNat (σ 67 2).toNat).1 : Int) else PrV (prO (σ 67) r (σ 67 2).toNat (σ 67 2).toNat) a) u) : wp_X12_change a σ Q := by
  have hn := ok.n6
  have h6 := ok.s6
  generalize hS : (σ 67 2).toNat = S at hq
  have e2 : σ 67 2 = (S : Int) := by omega
  generalize hb : σ 67 = b at *
  unfold wp_X12_change
  refine m_asides (fun w fw gw => ?_)
  have w72 : ∀ j : Nat, j < 13 → w 72 j = r j := fun j hj => by rw [gw j hj, m9]
  have w69 : w 69 = r := by rw [fw 69 (by decide), m9]
  have w7 : w 67 = b := by rw [fw 67 (by decide), hb]
  refine m_goesOn (by rw [w7]; exact ok) (by rw [w7, w69]; exact nk) inR_0 (Or.inr rfl) (fun t ht ft => ?_)
  rw [w7, w69] at ht
  refine ⟨fun k y s => ∃ i : Nat, y = (i : Int) ∧ i ≤ S ∧ k + i = S ∧ (∀ d, d ≠ 74 → s d = t d) ∧ ∀ j : Nat, j < i → s 74 j = warmOf (warmR b r 1) (j : Int), ?_, S, 0, rfl, by omega, rfl, fun _ _ => rfl, fun j hj => by omega⟩
  rintro k y s ⟨i, rfl, i1, i2, i3, i4⟩
  have s7 : s 67 = b := by rw [i3 67 (by decide), ft 67 (by decide) (by decide), w7]
  have s9 : s 69 = goesR b r 0 := by rw [i3 69 (by decide), ht]
  rw [s7, e2]
  refine ⟨inR_s (by omega) (by omega), inR_s (by omega) (by omega), fun h => ?_, fun h => ⟨by omega, by omega, ?_⟩⟩
  · refine m_backs (r := r) (fun j hj => by rw [i3 72 (by decide), ft 72 (by decide) (by decide)]; exact w72 j hj) (fun j hj => by rw [s9]; exact goesR_hi ok hj) (fun v fv hv => ?_)
    have v74 : ∀ j : Nat, j < S → v 74 j = warmOf (warmR b r 1) (j : Int) := fun j hj => by rw [fv 74 (by decide)]; exact i4 j (by omega)
    have fr : ∀ d, d ≠ 70 → d ≠ 72 → d ≠ 74 → v d = σ d := by
      intro d g0 g1 g2
      by_cases hd : d = 69
      · rw [hd, hv, m9]
      · rw [fv d hd, i3 d g2, ft d hd g0, fw d g1]
    have v72 : ∀ j : Nat, j < 13 → v 72 j = r j := fun j hj => by rw [fv 72 (by decide), i3 72 (by decide), ft 72 (by decide) (by decide)]; exact w72 j hj
    have v7 : v 67 = b := by rw [fr 67 (by decide) (by decide) (by decide), hb]
    refine ⟨fun k y2 y3 y4 s => ∃ i : Nat, y4 = (i : Int) ∧ i ≤ S ∧ k + i = S ∧ (∀ d, d ≠ 70 → s d = v d) ∧ y2 = ((prO b r S i).1 : Int) ∧ y3 = PrV (prO b r S i) a, ?_, S, 0, rfl, by omega, rfl, fun _ _ => rfl, rfl, by unfold PrV; rw [if_neg (by show ¬ (0 ≤ a ∧ a < ((0 : Nat) : Int)); omega)]⟩
    rintro k y2 y3 y4 s' ⟨i, rfl, i1, i2, i3, rfl, rfl⟩
    rw [i3 67 (by decide), v7, e2]
    refine ⟨inR_s (by omega) (by omega), inR_s (by omega) (by omega), fun h => ?_, fun h => ?_⟩
    · have fin := hq s' (fun d g0 g1 g2 => by rw [i3 d g0]; exact fr d g0 g1 g2)
      rw [show i = S by omega]
      refine ⟨ha, fun c => ?_, fun c => ?_⟩
      · rw [if_pos c] at fin; exact fin
      · rw [if_neg c] at fin; exact fin
    · rintro x5 rfl
      refine ⟨fun k' y2 y3 y5 s => ∃ m : Nat, y5 = ((i + 1 + m : Nat) : Int) ∧ i + 1 + m ≤ S ∧ k' + (i + 1 + m) = S ∧ (∀ d, d ≠ 70 → s d = v d) ∧ y2 = ((prI b r i (prO b r S i) m).1 : Int) ∧ y3 = PrV (prI b r i (prO b r S i) m) a, ?_, S - (i + 1), 0, by omega, by omega, by omega, i3, rfl, rfl⟩
      rintro k' y2 y3 y5 s ⟨m, rfl, m1, m2, m3, rfl, rfl⟩
      have s7 : s 67 = b := by rw [m3 67 (by decide), v7]
      have s9 : s 69 = r := by rw [m3 69 (by decide), hv]
      rw [s7, e2]
      have hle := prI_le b r i (prO b r S i) m
      have hle2 := prO_le b r (S := S) (by omega) i
      generalize hj : ((i + 1 + m : Nat) : Int) = j
      have ra : inR (plOf b r (i : Int)) := by rcases plOf_spec (b := b) (r := r) hn.1 (i : Int) with h | h <;> exact inR_s (by omega) (by omega)
      have rb : inR (plOf b r j) := by rcases plOf_spec (b := b) (r := r) hn.1 j with h | h <;> exact inR_s (by omega) (by omega)
      refine ⟨inR_s (by omega) (by omega), inR_s (by omega) (by omega), fun h1 => ?_, fun h1 => ?_⟩
      · rintro x4 rfl
        refine ⟨k - 1, by omega, i + 1, by omega, by omega, by omega, m3, ?_⟩
        rw [prO, show S - (i + 1) = m by omega]
        exact ⟨rfl, rfl⟩
      · refine m_placeOf (by rw [s7]; exact ok) (by rw [s7, s9]; exact nk) (inR_s (by omega) (by omega)) (m_placeOf (by rw [s7]; exact ok) (by rw [s7, s9]; exact nk) (inR_s (by omega) (by omega)) ?_)
        rw [s7, s9]
        have hbw := BW_in b r (i : Int) j
        refine ⟨ra, fun y2 y3 s29 => (∀ d, d ≠ 70 → s29 d = v d) ∧ y2 = ((prI b r i (prO b r S i) (m + 1)).1 : Int) ∧ y3 = PrV (prI b r i (prO b r S i) (m + 1)) a, ?_, fun c => ?_, fun c => ⟨rb, fun c2 => ?_, fun c2 => ?_⟩⟩
        · rintro y2 y3 s29 ⟨x1, x2, x3⟩ x5 rfl
          exact ⟨k' - 1, by omega, m + 1, by omega, by omega, by omega, x1, x2, x3⟩
        · rw [prI, hj, if_pos (by unfold BW; rw [if_pos c])]
          exact ⟨m3, rfl, rfl⟩
        · rw [prI, hj, if_pos (by unfold BW; rw [if_neg c, if_pos c2])]
          exact ⟨m3, rfl, rfl⟩
        · obtain ⟨⟨⟨p0, p1⟩, q0, q1⟩, ks⟩ := nk.swp ok (i := (i : Int)) (j := j) (by omega) (by omega) c c2
          refine ⟨by omega, ?_⟩
          rintro s34 rfl
          refine ⟨by omega, ?_⟩
          rintro s36 rfl
          have e69 : up2 (up2 s 69 (1 + plOf b r (i : Int)).toNat j) 69 (1 + plOf b r j).toNat (i : Int) 69 = swp b r (i : Int) j := by
            rw [up2_r, up2_r, s9]; rfl
          have e67 : up2 (up2 s 69 (1 + plOf b r (i : Int)).toNat j) 69 (1 + plOf b r j).toNat (i : Int) 67 = b := by
            rw [up2_c (by decide), up2_c (by decide), s7]
          refine m_goesOn (by rw [e67]; exact ok) (by rw [e67, e69]; exact ks) inR_0 (Or.inr rfl) (fun u hu fu => ?_)
          rw [e67, e69] at hu
          have kw := ks.warm 1
          have kb := nk.warm 1
          have w1 := (kw.1 (i : Int) (by omega) (by omega)).2.2
          have w2 := (kw.1 j (by omega) (by omega)).2.2
          have w3 := (kb.1 (i : Int) (by omega) (by omega)).2.2
          have w4 := (kb.1 j (by omega) (by omega)).2.2
          have f70 : ∀ d, d ≠ 69 → d ≠ 70 → u d = v d := fun d g0 g1 => by rw [fu d g0 g1, up2_c g0, up2_c g0]; exact m3 d g1
          have u74 : u 74 = v 74 := f70 74 (by decide) (by decide)
          rw [hu, u74, m_warm_goes0 (by omega), m_warm_goes0 (by omega), v74 (i : Int).toNat (by omega), v74 j.toNat (by omega), show (((i : Int).toNat : Nat) : Int) = (i : Int) by omega, show ((j.toNat : Nat) : Int) = j by omega]
          refine ⟨by omega, by omega, inR_s (by omega) (by omega), inR_s (by omega) (by omega), ⟨fun _ => trivial, fun _ => ⟨by omega, by omega, inR_s (by omega) (by omega), inR_s (by omega) (by omega)⟩⟩, ?_⟩
          intro v46 e46
          have eB : v46 = BW b r (i : Int) j := by
            rw [e46]
            unfold BW
            rw [if_neg c, if_neg c2]
          refine m_backs (r := r) (fun e he => by rw [f70 72 (by decide) (by decide)]; exact v72 e he) (fun e he => by
            rw [hu, goesR_hi ok he]
            unfold swp up1
            rw [if_neg (by omega), if_neg (by omega)]) (fun z fz hz => ?_)
          refine ⟨inR_s (by omega) (by omega), ⟨fun _ => trivial, fun _ => ⟨inR_s (by omega) (by omega), ha⟩⟩, ?_⟩
          intro v51 e51 v52 e52 x2 ex2
          have ff : ∀ d, d ≠ 70 → z d = v d := by
            intro d g0
            by_cases hd : d = 69
            · rw [hd, hz, hv]
            · rw [fz d hd, f70 d hd g0]
          refine ⟨ff, ?_⟩
          rw [prI, hj]
          rw [eB] at e51 e52
          by_cases hB : BW b r (i : Int) j = 0
          · rw [if_pos hB] at e51 e52 ⊢
            exact ⟨by omega, e51⟩
          · rw [if_neg hB] at e51 e52 ⊢
            refine ⟨by dsimp only; omega, ?_⟩
            rw [e51]
            unfold PrV
            dsimp only
            unfold up1
            by_cases ca : ((prI b r i (prO b r S i) m).1 : Int) = a
            · rw [if_pos ca, if_pos (by omega), if_pos (by omega)]
            · rw [if_neg ca]
              by_cases cb : 0 ≤ a ∧ a < ((prI b r i (prO b r S i) m).1 : Int)
              · rw [if_pos cb, if_pos (by omega), if_neg (by omega)]
              · rw [if_neg cb, if_neg (by omega)]
  · rintro s63 rfl x2 rfl
    refine ⟨k - 1, by omega, i + 1, by omega, by omega, by omega, fun d hd => by rw [up2_c hd]; exact i3 d hd, fun j hj => ?_⟩
    rw [up2_e, s9, m_warm_goes0 (by omega)]
    by_cases hj2 : j = (i : Int).toNat
    · rw [if_pos hj2, show ((j : Nat) : Int) = (i : Int) by omega]
    · rw [if_neg hj2]; exact i4 j (by omega)
theorem pub_change {a : Int} (ha : inR a) : Good (fun σ Q => wp_X11_change a σ Q) (fun σ Q => wp_X12_change a σ Q) := by
  intro σ hR
  have hR' := hR
  obtain ⟨ok, bc, ⟨x, pc, pm⟩, rs⟩ := hR'
  show wp_X11_change a σ (fun r t => wp_X12_change a t (fun r' u => r = r' ∧ Rel u))
  have nk := pc.2.2.1
  have m9 := pm.2.2
  have h6 := ok.s6
  unfold wp_X11_change
  refine c_seekPairs bc pc.2.1 ok nk (fun t ft pt => ?_)
  have hle := prO_le (σ 67) x.2.2 (S := (σ 67 2).toNat) (by omega) (σ 67 2).toNat
  have t7 : t 67 = σ 67 := ft 67 (by decide) (by decide) (by decide) (by decide) (by decide) (by decide)
  have md : ∀ v : Int, v = (if a = -1 then ((prO (σ 67) x.2.2 (σ 67 2).toNat (σ 67 2).toNat).1 : Int) else PrV (prO (σ 67) x.2.2 (σ 67 2).toNat (σ 67 2).toNat) a) → wp_X12_change a t (fun r' u => v = r' ∧ Rel u) := by
    intro v hv
    refine m_change (r := x.2.2) ha (by rw [t7]; exact ok) (by rw [t7]; exact nk) (by rw [ft 69 (by decide) (by decide) (by decide) (by decide) (by decide) (by decide), m9]) (fun u fu => ⟨by rw [t7]; exact hv, ?_⟩)
    have f : ∀ d, d ≠ 20 → d ≠ 21 → d ≠ 22 → d ≠ 52 → d ≠ 56 → d ≠ 57 → d ≠ 70 → d ≠ 72 → d ≠ 74 → u d = σ d := fun d g0 g1 g2 g3 g4 g5 g6 g7 g8 => by rw [fu d g6 g7 g8]; exact ft d g0 g1 g2 g3 g4 g5
    have u65 : u 65 = σ 65 := f 65 (by decide) (by decide) (by decide) (by decide) (by decide) (by decide) (by decide) (by decide) (by decide)
    refine hR.tried (fun d hd => ?_) (by rw [f 60 (by decide) (by decide) (by decide) (by decide) (by decide) (by decide) (by decide) (by decide) (by decide)]) ⟨by rw [u65], by rw [u65], by rw [u65], by rw [u65], by rw [u65], by rw [u65]⟩
    unfold jk at hd
    exact f d (by omega) (by omega) (by omega) (by omega) (by omega) (by omega) (by omega) (by omega) (by omega)
  generalize prO (σ 67) x.2.2 (σ 67 2).toNat (σ 67 2).toNat = X at pt md hle
  dsimp only
  rw [pt.1]
  unfold PrV at md
  refine ⟨ha, fun c => md _ (by rw [if_pos c]), fun c => ⟨fun c2 => md _ (by rw [if_neg c, if_neg (by omega)]), fun c2 => ⟨inR_s (by omega) (by omega), fun c3 => ⟨by omega, md _ ?_⟩, fun c3 => md _ (by rw [if_neg c, if_neg (by omega)])⟩⟩⟩
  rw [if_neg c, if_pos (by omega)]
  exact pt.2 _ (by omega)
