theorem c_lastEmpty {c : Nat} {σ : Mem} {b r : Nat → Int} {Q : Int → Prop} (bc : BedC σ b) (nc : NightC σ c r) (ok : BedOk b) (nk : NightOk b r) (hq : Q (plOf b r (-1))) : wp_X4_lastEmpty c σ Q := by
  have hn := ok.n6
  have h6 := ok.s6
  unfold wp_X4_lastEmpty
  rw [bc.1]
  rintro x1 rfl
  refine ⟨fun k y => ∃ i : Nat, y + 1 = (i : Int) ∧ (i : Int) ≤ b 0 ∧ k = i ∧ plN r (-1) i = plOf b r (-1), ?_, (b 0).toNat, (b 0).toNat, by omega, by omega, rfl, rfl⟩
  rintro k y ⟨i, i1, i2, i3, i4⟩
  refine ⟨inR_s (by omega) (by omega), fun h => ?_, fun h => ?_⟩
  · have e : i = 0 := by omega
    rw [e] at i4
    have e2 : plN r (-1) 0 = -1 := rfl
    rw [e2] at i4
    rw [i4]; exact hq
  · obtain ⟨j, rfl⟩ : ∃ j : Nat, i = j + 1 := ⟨i - 1, by omega⟩
    have ey : y = (j : Int) := by omega
    rw [ey, (nc.2 (j : Int) (by omega) (by omega)).1]
    have hw := (nk.1 (j : Int) (by omega) (by omega)).1
    rw [plN] at i4
    refine ⟨by omega, inR_s (by omega) (by omega), fun g => ?_, fun g => ?_⟩
    · rw [if_pos g] at i4
      rw [i4]; exact hq
    · rw [if_neg g] at i4
      rintro x2 rfl
      exact ⟨k - 1, by omega, j, by omega, by omega, by omega, i4⟩
theorem whoOf_put {r : Nat → Int} {q v p : Int} (h0 : 0 ≤ p) (g0 : 0 ≤ q) : whoOf (up1 r (1 + q).toNat v) p = if p = q then v else whoOf r p := by
  unfold whoOf up1
  by_cases h : p = q
  · rw [if_pos (by rw [h]), if_pos h]
  · rw [if_neg (by omega), if_neg h]
theorem warmOf_put {r : Nat → Int} {q v s : Int} (h0 : 0 ≤ s) (g0 : 0 ≤ q) (g1 : q < 6) : warmOf (up1 r (1 + q).toNat v) s = warmOf r s := by
  unfold warmOf up1
  rw [if_neg (by omega)]
theorem NightOk.put {b r : Nat → Int} (ok : BedOk b) (nk : NightOk b r) {q s : Int} (h0 : 0 ≤ s) (h1 : s < b 2) (hs : plOf b r s = -1) (g0 : 0 ≤ q) (g1 : q < b 0) : NightOk b (up1 r (1 + q).toNat s) := by
  have hn := ok.n6
  have h6 := ok.s6
  have hno : ∀ p : Int, 0 ≤ p → p < 6 → whoOf r p ≠ s := by
    intro p k0 k1 e
    rcases plOf_spec (b := b) (r := r) hn.1 s with ⟨a1, a2, a3⟩ | ⟨a1, a2⟩
    · omega
    · by_cases hp : p < b 0
      · exact a2 p k0 hp e
      · have := (nk.1 p k0 k1).2.1 (by omega)
        omega
  refine ⟨fun p k0 k1 => ?_, fun p t k0 k1 l0 l1 he hne => ?_⟩
  · rw [whoOf_put k0 g0, warmOf_put k0 g0 (by omega)]
    refine ⟨?_, ?_, (nk.1 p k0 k1).2.2⟩
    · split
      · omega
      · exact (nk.1 p k0 k1).1
    · intro h
      rw [if_neg (by omega)]
      exact (nk.1 p k0 k1).2.1 h
  · rw [whoOf_put k0 g0] at he hne
    rw [whoOf_put l0 g0] at he
    by_cases a : p = q
    · by_cases c : t = q
      · rw [a, c]
      · rw [if_pos a, if_neg c] at he
        exact absurd he.symm (hno t l0 l1)
    · by_cases c : t = q
      · rw [if_neg a, if_pos c] at he
        exact absurd he (hno p k0 k1)
      · rw [if_neg a] at he hne
        rw [if_neg c] at he
        exact nk.2 p t k0 k1 l0 l1 he hne
theorem pub_comeIn {a : Int} (ha : inR a) : Good (fun σ Q => wp_X11_comeIn a σ Q) (fun σ Q => wp_X12_comeIn a σ Q) := by
  intro σ hR
  have hR' := hR
  obtain ⟨ok, bc, ⟨x, pc, pm⟩, rs⟩ := hR'
  show wp_X11_comeIn a σ (fun r t => wp_X12_comeIn a t (fun r' u => r = r' ∧ Rel u))
  have hn := ok.n6
  have h6 := ok.s6
  have hpl := plOf_spec (b := σ 67) (r := x.2.2) hn.1 a
  have hpr : -1 ≤ plOf (σ 67) x.2.2 a ∧ plOf (σ 67) x.2.2 a ≤ 6 := by rcases hpl with h | h <;> omega
  have nkx : NightOk (σ 67) x.2.2 := pc.2.2.1
  have m_part : ∀ (t : Mem) (P : Int → Mem → Prop), t 65 = σ 65 → t 67 = σ 67 → t 69 = σ 69 → t 71 = σ 71 → (¬ (0 ≤ a ∧ a < σ 67 2) → P (-1000000001) t) → ((0 ≤ a ∧ a < σ 67 2) → (¬ plOf (σ 67) x.2.2 a = -1 → P (-1000000003) t) ∧ (plOf (σ 67) x.2.2 a = -1 → ∀ u : Mem, PSm u (nu x.1, note x.1 x.2.1 x.2.2, up1 x.2.2 (1 + plOf (σ 67) x.2.2 (-1)).toNat a) → (∀ d, d ≠ 65 → d ≠ 69 → d ≠ 70 → d ≠ 71 → u d = t d) → (∀ j, j ≠ 11 → u 65 j = t 65 j) → P (plOf (σ 67) x.2.2 (-1)) u)) → wp_X12_comeIn a t P := by
    intro t P h5 h7 h9 h71 g1 g2
    have pmt : PSm t x := pm.keep (by rw [h5]) h9 h71
    unfold wp_X12_comeIn
    refine m_isSleeper (by rw [h7]; exact ok) ha ?_
    rw [h7]
    by_cases q : 0 ≤ a ∧ a < σ 67 2
    · rw [if_pos q]
      obtain ⟨g3, g4⟩ := g2 q
      refine ⟨inR_s (by omega) (by omega), fun z => absurd z (by decide), fun _ => m_placeOf (by rw [h7]; exact ok) (by rw [h7, pmt.2.2]; exact nkx) ha ?_⟩
      rw [h7, pmt.2.2]
      refine ⟨inR_s (by omega) (by omega), fun hz => m_notes pmt.1 pmt.2.1 (fun v pv fv gv => ?_), g3⟩
      obtain ⟨l1, l2, l3⟩ := empty_is ok nkx q.1 q.2 hz
      have v7 : v 67 = σ 67 := (fv 67 (by decide) (by decide)).trans h7
      have v9 : v 69 = x.2.2 := (fv 69 (by decide) (by decide)).trans pmt.2.2
      rw [v7, v9]
      rintro x2 rfl
      refine ⟨fun k y => ∃ i : Nat, y + 1 = (i : Int) ∧ (i : Int) ≤ σ 67 0 ∧ k = i ∧ plN x.2.2 (-1) i = plOf (σ 67) x.2.2 (-1), ?_, (σ 67 0).toNat, (σ 67 0).toNat, by omega, by omega, rfl, rfl⟩
      rintro k y ⟨i, i1, i2, i3, i4⟩
      have hi0 : i ≠ 0 := by
        intro e
        rw [e] at i4
        have e2 : plN x.2.2 (-1) 0 = -1 := rfl
        rw [e2] at i4
        omega
      obtain ⟨j, rfl⟩ : ∃ j : Nat, i = j + 1 := ⟨i - 1, by omega⟩
      have ey : y = (j : Int) := by omega
      have hw := (nkx.1 (j : Int) (by omega) (by omega)).1
      have ew : x.2.2 (1 + y).toNat = whoOf x.2.2 (j : Int) := by rw [ey]; rfl
      rw [plN] at i4
      rw [ew]
      refine ⟨by omega, inR_s (by omega) (by omega), fun g => ?_, fun g => ?_⟩
      · rw [if_pos g] at i4
        rintro s10 rfl
        rw [show y = plOf (σ 67) x.2.2 (-1) by omega]
        refine g4 hz _ ⟨⟨by rw [up2_c (by decide)]; exact pv.1, fun i' k0 k1 j' hj => ?_⟩, nu_in pmt.2.1, ?_⟩ (fun d k0 k1 k2 k3 => by rw [up2_c k1, fv d k3 k0]) (fun j' hj => by rw [up2_c (by decide)]; exact gv j' hj)
        · show up2 v 69 _ _ 71 _ = _
          rw [up2_c (by decide)]
          have := pv.2 i' k0 k1 j' hj
          rw [pmt.2.2] at this
          exact this
        · rw [up2_r, v9]
      · rw [if_neg g] at i4
        rintro x3 rfl
        exact ⟨k - 1, by omega, j, by omega, by omega, by omega, i4⟩
    · rw [if_neg q]
      exact ⟨inR_0, fun _ => g1 q, fun z => absurd rfl z⟩
  unfold wp_X11_comeIn
  refine c_hasSleeper bc ok ha ?_
  by_cases q : 0 ≤ a ∧ a < σ 67 2
  · rw [if_pos q]
    have hem := plOf_spec (b := σ 67) (r := x.2.2) hn.1 (-1)
    have her : -1 ≤ plOf (σ 67) x.2.2 (-1) ∧ plOf (σ 67) x.2.2 (-1) ≤ 6 := by rcases hem with h | h <;> omega
    refine ⟨inR_s (by omega) (by omega), fun z => absurd z (by decide), fun _ => c_lastEmpty bc pc.2.1 ok nkx (c_placeOf bc pc.2.1 ok nkx ha (by omega) ⟨inR_s (by omega) (by omega), fun hz => ⟨inR_s (by omega) (by omega), fun he => ?_, fun he => ?_⟩, fun hz => ?_⟩)⟩
    · obtain ⟨l1, l2, l3⟩ := empty_is ok nkx q.1 q.2 hz
      omega
    · obtain ⟨l1, l2, l3⟩ := empty_is ok nkx q.1 q.2 hz
      refine c_remember ok nkx pc.2.2.2 pc.2.1 pc.1 (fun t pt ft => ⟨by omega, ?_⟩)
      rintro s9 rfl
      generalize hpe : plOf (σ 67) x.2.2 (-1) = p at *
      have f : ∀ d, d ≠ 17 → d ≠ 18 → d ≠ 19 → d ≠ 23 → d ≠ 24 → d ≠ 25 → up2 t 18 p.toNat a d = σ d := fun d h0 h1 h2 h3 h4 h5 => by rw [up2_c h1]; exact ft d h3 h4 h5
      have n17 := pc.2.1
      have pv : PSc (up2 t 18 p.toNat a) (σ 67) (nu x.1, note x.1 x.2.1 x.2.2, up1 x.2.2 (1 + p).toNat a) := by
        refine ⟨pt.keep (by rw [up2_c (by decide)]) (by rw [up2_c (by decide)]) (by rw [up2_c (by decide)]), ⟨?_, fun s k0 k1 => ⟨?_, ?_⟩⟩, nkx.put ok q.1 q.2 hz l1 l2, ?_⟩
        · rw [up2_c (by decide), ft 17 (by decide) (by decide) (by decide), n17.1]
          show _ = up1 x.2.2 (1 + p).toNat a 0
          unfold up1
          rw [if_neg (by omega)]
        · show up2 t 18 p.toNat a 18 s.toNat = _
          rw [up2_e, whoOf_put k0 l1]
          by_cases hsp : s = p
          · rw [if_pos (by rw [hsp]), if_pos hsp]
          · rw [if_neg (by omega), if_neg hsp, ft 18 (by decide) (by decide) (by decide)]
            exact (n17.2 s k0 k1).1
        · show up2 t 18 p.toNat a 19 s.toNat = _
          rw [up2_c (by decide), ft 19 (by decide) (by decide) (by decide), warmOf_put k0 l1 (by omega)]
          exact (n17.2 s k0 k1).2
        · show 0 ≤ up1 x.2.2 (1 + p).toNat a 0 ∧ up1 x.2.2 (1 + p).toNat a 0 ≤ 100000
          unfold up1
          rw [if_neg (by omega)]
          exact pc.2.2.2
      refine m_part _ _ (f _ (by decide) (by decide) (by decide) (by decide) (by decide) (by decide)) (f _ (by decide) (by decide) (by decide) (by decide) (by decide) (by decide)) (f _ (by decide) (by decide) (by decide) (by decide) (by decide) (by decide)) (f _ (by decide) (by decide) (by decide) (by decide) (by decide) (by decide)) (fun z => absurd q z) (fun _ => ⟨fun z => absurd hz z, fun _ u pu fu gu => ⟨rfl, Rel.of ok rs bc pv pu f fu gu⟩⟩)
    · exact m_part σ _ rfl rfl rfl rfl (fun z => absurd q z) (fun _ => ⟨fun _ => ⟨rfl, hR⟩, fun z => absurd z hz⟩)
  · rw [if_neg q]
    exact ⟨inR_0, fun _ => m_part σ _ rfl rfl rfl rfl (fun _ => ⟨rfl, hR⟩) (fun z => absurd z q), fun z => absurd rfl z⟩
theorem pub_undo {n : Int} (hn' : inR n) : Good (fun σ Q => wp_X11_undo n σ Q) (fun σ Q => wp_X12_undo n σ Q) := by
  intro σ hR
  have hR' := hR
  obtain ⟨ok, bc, ⟨x, pc, pm⟩, rs⟩ := hR'
  show wp_X11_undo n σ (fun r t => wp_X12_undo n t (fun r' u => r = r' ∧ Rel u))
  have hu := pm.2.1
  have m_part : ∀ (t : Mem) (P : Int → Mem → Prop), t 65 = σ 65 → t 67 = σ 67 → t 69 = σ 69 → t 71 = σ 71 → (¬ (1 ≤ n ∧ n ≤ 30) → P (-1000000002) t) → ((1 ≤ n ∧ n ≤ 30) → (¬ n ≤ x.1 → P (-1000000003) t) ∧ (n ≤ x.1 → ∀ u : Mem, PSm u (x.1 - n, x.2.1, fun j => if j < 13 then x.2.1 (x.1 - n) j else x.2.2 j) → (∀ d, d ≠ 65 → d ≠ 69 → d ≠ 70 → d ≠ 71 → u d = t d) → (∀ j, j ≠ 11 → u 65 j = t 65 j) → P (x.2.1 (x.1 - n) 0) u)) → wp_X12_undo n t P := by
    intro t P h5 h7 h9 h71 g1 g2
    have pmt : PSm t x := pm.keep (by rw [h5]) h9 h71
    unfold wp_X12_undo
    refine ⟨hn', m_in hn' (inR_s (by omega) (by omega)) (inR_s (by omega) (by omega)) ?_⟩
    by_cases q : 1 ≤ n ∧ n ≤ 30
    · rw [if_pos q]
      obtain ⟨g3, g4⟩ := g2 q
      rw [pmt.1.1]
      refine ⟨inR_s (by omega) (by omega), fun z => absurd z (by decide), fun _ => ⟨inR_s (by omega) (by omega), fun hz => ?_, g3⟩⟩
      rintro s5 rfl
      refine ⟨fun k y s => 0 ≤ y ∧ y ≤ 13 ∧ (k : Int) + y = 13 ∧ (∀ d, d ≠ 69 → s d = up2 t 65 11 (x.1 - n) d) ∧ ∀ j : Nat, s 69 j = if (j : Int) < y then x.2.1 (x.1 - n) j else x.2.2 j, ?_, 13, by omega, by omega, by omega, fun _ _ => rfl, fun j => by rw [if_neg (by omega), up2_c (by decide), pmt.2.2]⟩
      rintro k y s ⟨i1, i2, i3, i4, i5⟩
      have s65 : s 65 11 = x.1 - n := by rw [i4 65 (by decide), up2_s]
      have s71 : s 71 = t 71 := by rw [i4 71 (by decide), up2_c (by decide)]
      rw [s65, s71]
      refine ⟨inR_s (by omega) (by omega), fun h => ?_, fun h => ⟨by omega, by omega, ?_⟩⟩
      · have e0 : s 69 0 = x.2.1 (x.1 - n) 0 := by rw [i5, if_pos (by omega)]
        rw [e0]
        refine g4 hz s ⟨⟨s65, fun i k0 k1 j hj => ?_⟩, by show 0 ≤ x.1 - n ∧ x.1 - n ≤ 30; omega, ?_⟩ (fun d k0 k1 k2 k3 => by rw [i4 d k1, up2_c k0]) (fun j hj => by rw [i4 65 (by decide), up2_n hj])
        · show s 71 _ = _
          rw [s71]
          exact pmt.1.2 i k0 (by show i < x.1; have : i < x.1 - n := k1; omega) j hj
        · funext j
          rw [i5]
          show _ = if j < 13 then x.2.1 (x.1 - n) j else x.2.2 j
          by_cases hj : j < 13
          · rw [if_pos (by omega), if_pos hj]
          · rw [if_neg (by omega), if_neg hj]
      · rintro s11 rfl x2 rfl
        refine ⟨k - 1, by omega, by omega, by omega, by omega, fun d hd => by rw [up2_c hd]; exact i4 d hd, fun j => ?_⟩
        rw [up2_e]
        by_cases hj : j = y.toNat
        · rw [if_pos hj, if_pos (by omega), ← pmt.1.2 (x.1 - n) (by omega) (by omega) j (by omega)]
          show _ = t 71 _
          congr 1
          omega
        · rw [if_neg hj, i5]
          by_cases hj2 : (j : Int) < y
          · rw [if_pos hj2, if_pos (by omega)]
          · rw [if_neg hj2, if_neg (by omega)]
    · rw [if_neg q]
      exact ⟨inR_0, fun _ => g1 q, fun z => absurd rfl z⟩
  unfold wp_X11_undo
  rw [pc.1.1]
  refine ⟨hn', fun h => m_part σ _ rfl rfl rfl rfl (fun _ => ⟨rfl, hR⟩) (fun z => by omega), fun h => ⟨fun h2 => ⟨inR_s (by omega) (by omega), fun h3 => ?_, fun h3 => ?_⟩, fun h2 => m_part σ _ rfl rfl rfl rfl (fun _ => ⟨rfl, hR⟩) (fun z => by omega)⟩⟩
  · refine c_bringBack ok pc.1 (by omega) h3 (fun t pt nt ft => ?_)
    rw [nt.1]
    have f : ∀ d, d ≠ 17 → d ≠ 18 → d ≠ 19 → d ≠ 23 → d ≠ 24 → d ≠ 25 → t d = σ d := fun d k0 k1 k2 k3 k4 k5 => ft d k3 k0 k1 k2
    have ne : NightEq (x.2.1 (x.1 - n)) (fun j => if j < 13 then x.2.1 (x.1 - n) j else x.2.2 j) := fun j hj => by show _ = if j < 13 then _ else _; rw [if_pos hj]
    obtain ⟨e1, e2, -, -⟩ := pc.1.2.2.2 (x.1 - n) (by omega) (by omega)
    have pv : PSc t (σ 67) (x.1 - n, x.2.1, fun j => if j < 13 then x.2.1 (x.1 - n) j else x.2.2 j) := ⟨pt, nt.congr ne, e1.congr ne, e2.congr ne⟩
    refine m_part t _ (f _ (by decide) (by decide) (by decide) (by decide) (by decide) (by decide)) (f _ (by decide) (by decide) (by decide) (by decide) (by decide) (by decide)) (f _ (by decide) (by decide) (by decide) (by decide) (by decide) (by decide)) (f _ (by decide) (by decide) (by decide) (by decide) (by decide) (by decide)) (fun z => by omega) (fun _ => ⟨fun z => absurd h3 z, fun _ u pu fu gu => ⟨rfl, Rel.of ok rs bc pv pu f fu gu⟩⟩)
  · exact m_part σ _ rfl rfl rfl rfl (fun z => by omega) (fun _ => ⟨fun _ => ⟨rfl, hR⟩, fun z => absurd z h3⟩)
