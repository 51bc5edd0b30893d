/-! getting up, coming in -/
def leaveR (b r : Nat → Int) (p : Int) : Nat → Int := fun j => if p + 1 ≤ (j : Int) ∧ (j : Int) < b 0 then r (j + 1) else if p + 1 ≤ (j : Int) ∧ (j : Int) = b 0 then -1 else r j
theorem whoOf_leaveR {b r : Nat → Int} {p q : Int} (h0 : 0 ≤ q) : whoOf (leaveR b r p) q = if p ≤ q ∧ q < b 0 - 1 then whoOf r (q + 1) else if p ≤ q ∧ q = b 0 - 1 then -1 else whoOf r q := by
  unfold whoOf leaveR
  by_cases h : p ≤ q ∧ q < b 0 - 1
  · rw [if_pos (by omega), if_pos h]; congr 1; omega
  · rw [if_neg (by omega), if_neg h]
    by_cases g : p ≤ q ∧ q = b 0 - 1
    · rw [if_pos (by omega), if_pos g]
    · rw [if_neg (by omega), if_neg g]
theorem warmOf_leaveR {b r : Nat → Int} {p s : Int} (hn : b 0 ≤ 6) (h0 : 0 ≤ s) : warmOf (leaveR b r p) s = warmOf r s := by
  unfold warmOf leaveR
  rw [if_neg (by omega), if_neg (by omega)]
theorem leaveR_0 {b r : Nat → Int} {p : Int} (h0 : 0 ≤ p) : leaveR b r p 0 = r 0 := by
  unfold leaveR
  rw [if_neg (by omega), if_neg (by omega)]
theorem NightOk.leave {b r : Nat → Int} (ok : BedOk b) (nk : NightOk b r) {p : Int} (h0 : 0 ≤ p) (h1 : p < b 0) : NightOk b (leaveR b r p) := by
  have hn := ok.n6
  have h6 := ok.s6
  refine ⟨fun q g0 g1 => ?_, fun q t g0 g1 k0 k1 he hne => ?_⟩
  · rw [whoOf_leaveR g0, warmOf_leaveR hn.2 g0]
    refine ⟨?_, ?_, (nk.1 q g0 g1).2.2⟩
    · split
      · exact (nk.1 (q + 1) (by omega) (by omega)).1
      · split
        · omega
        · exact (nk.1 q g0 g1).1
    · intro h
      rw [if_neg (by omega), if_neg (by omega)]
      exact (nk.1 q g0 g1).2.1 h
  · rw [whoOf_leaveR g0] at he hne
    rw [whoOf_leaveR k0] at he
    by_cases a : p ≤ q ∧ q < b 0 - 1
    · rw [if_pos a] at he hne
      by_cases c : p ≤ t ∧ t < b 0 - 1
      · rw [if_pos c] at he
        have := nk.2 (q + 1) (t + 1) (by omega) (by omega) (by omega) (by omega) he hne
        omega
      · rw [if_neg c] at he
        by_cases d : p ≤ t ∧ t = b 0 - 1
        · rw [if_pos d] at he; omega
        · rw [if_neg d] at he
          have := nk.2 (q + 1) t (by omega) (by omega) k0 k1 he hne
          have := (nk.1 t k0 k1).2.1
          omega
    · rw [if_neg a] at he hne
      by_cases a2 : p ≤ q ∧ q = b 0 - 1
      · rw [if_pos a2] at hne; exact absurd rfl hne
      · rw [if_neg a2] at he hne
        have hq := (nk.1 q g0 g1).2.1
        by_cases c : p ≤ t ∧ t < b 0 - 1
        · rw [if_pos c] at he
          have := nk.2 q (t + 1) g0 g1 (by omega) (by omega) he hne
          omega
        · rw [if_neg c] at he
          by_cases d : p ≤ t ∧ t = b 0 - 1
          · rw [if_pos d] at he; omega
          · rw [if_neg d] at he
            exact nk.2 q t g0 g1 k0 k1 he hne
theorem c_leave {c : Nat} {p : Int} {σ : Mem} {b r : Nat → Int} {Q : Mem → Prop} (hc : isN c) (bc : BedC σ b) (nc : NightC σ c r) (ok : BedOk b) (h0 : 0 ≤ p) (h1 : p < b 0) (hq : ∀ σ' : Mem, NightC σ' c (leaveR b r p) → (∀ d, d ≠ c + 1 → σ' d = σ d) → Q σ') : wp_X4_leave c p σ Q := by
  have hn := ok.n6
  have hcg := isN_ge hc
  unfold wp_X4_leave
  refine c_hasPlace bc ok (inR_s (by omega) (by omega)) ?_
  rw [if_pos ⟨h0, h1⟩, bc.1]
  refine ⟨inR_s (by omega) (by omega), fun z => absurd z (by decide), fun _ => ?_⟩
  rintro x2 rfl
  refine ⟨fun k y s => p ≤ y ∧ y ≤ b 0 - 1 ∧ (k : Int) + y = b 0 - 1 ∧ (∀ d, d ≠ c + 1 → s d = σ d) ∧ ∀ q : Int, 0 ≤ q → q < 6 → s (c + 1) q.toNat = if p ≤ q ∧ q < y then whoOf r (q + 1) else whoOf r q, ?_, (b 0 - 1 - p).toNat, by omega, by omega, by omega, fun _ _ => rfl, fun q g0 g1 => by rw [if_neg (by omega)]; exact (nc.2 q g0 g1).1⟩
  rintro k y s ⟨i1, i2, i3, i4, i5⟩
  refine ⟨inR_s (by omega) (by omega), inR_s (by omega) (by omega), fun h => ⟨by omega, ?_⟩, fun h => ⟨by omega, by omega, ?_⟩⟩
  · rintro s9 rfl
    refine hq _ ⟨by rw [up2_c (by omega), i4 c (by omega), nc.1, leaveR_0 h0], fun q g0 g1 => ⟨?_, by rw [up2_c (by omega), i4 (c + 2) (by omega), (nc.2 q g0 g1).2, warmOf_leaveR hn.2 g0]⟩⟩ (fun d hd => by rw [up2_c hd]; exact i4 d hd)
    rw [up2_e, whoOf_leaveR g0]
    by_cases hq2 : q = b 0 - 1
    · rw [if_pos (by rw [hq2]), if_neg (by omega), if_pos (by omega)]
    · rw [if_neg (by omega), i5 q g0 g1]
      by_cases hq3 : p ≤ q ∧ q < b 0 - 1
      · rw [if_pos (by omega), if_pos hq3]
      · rw [if_neg (by omega), if_neg hq3, if_neg (by omega)]
  · rintro s12 rfl x3 rfl
    have e1 : s (c + 1) (y + 1).toNat = whoOf r (y + 1) := by rw [i5 _ (by omega) (by omega), if_neg (by omega)]
    rw [e1]
    refine ⟨k - 1, by omega, by omega, by omega, by omega, fun d hd => by rw [up2_c hd]; exact i4 d hd, fun q g0 g1 => ?_⟩
    rw [up2_e]
    by_cases hq2 : q = y
    · rw [if_pos (by rw [hq2]), if_pos (by omega), hq2]
    · rw [if_neg (by omega), i5 q g0 g1]
      by_cases hq3 : p ≤ q ∧ q < y
      · rw [if_pos hq3, if_pos (by omega)]
      · rw [if_neg hq3, if_neg (by omega)]
theorem pub_getUp {a : Int} (ha : inR a) : Good (fun σ Q => wp_X11_getUp a σ Q) (fun σ Q => wp_X12_getUp a σ Q) := by
  intro σ hR
  have hR' := hR
  obtain ⟨ok, bc, ⟨x, pc, pm⟩, rs⟩ := hR'
  show wp_X11_getUp a σ (fun r t => wp_X12_getUp a t (fun r' u => r = r' ∧ Rel u))
  have hn := ok.n6
  have h6 := ok.s6
  have hpl := plOf_spec (b := σ 67) (r := x.2.2) hn.1 a
  have hpr : -1 ≤ plOf (σ 67) x.2.2 a ∧ plOf (σ 67) x.2.2 a ≤ 6 := by rcases hpl with h | h <;> omega
  have m_part : ∀ (t : Mem) (P : Int → Mem → Prop), t 65 = σ 65 → t 67 = σ 67 → t 69 = σ 69 → t 71 = σ 71 → (¬ (0 ≤ a ∧ a < σ 67 2) → P (-1000000001) t) → ((0 ≤ a ∧ a < σ 67 2) → (plOf (σ 67) x.2.2 a = -1 → P (-1000000003) t) ∧ (¬ plOf (σ 67) x.2.2 a = -1 → ∀ u : Mem, PSm u (nu x.1, note x.1 x.2.1 x.2.2, leaveR (σ 67) x.2.2 (plOf (σ 67) x.2.2 a)) → (∀ d, d ≠ 65 → d ≠ 69 → d ≠ 70 → d ≠ 71 → u d = t d) → (∀ j, j ≠ 11 → u 65 j = t 65 j) → P (plOf (σ 67) x.2.2 a) u)) → wp_X12_getUp a t P := by
    intro t P h5 h7 h9 h71 g1 g2
    have pmt : PSm t x := pm.keep (by rw [h5]) h9 h71
    unfold wp_X12_getUp
    refine m_isSleeper (by rw [h7]; exact ok) ha ?_
    rw [h7]
    by_cases q : 0 ≤ a ∧ a < σ 67 2
    · rw [if_pos q]
      obtain ⟨g3, g4⟩ := g2 q
      refine ⟨inR_s (by omega) (by omega), fun z => absurd z (by decide), fun _ => m_placeOf (by rw [h7]; exact ok) (by rw [h7, pmt.2.2]; exact pc.2.2.1) ha ?_⟩
      rw [h7, pmt.2.2]
      refine ⟨inR_s (by omega) (by omega), g3, fun hz => m_notes pmt.1 pmt.2.1 (fun v pv fv gv => ?_)⟩
      rcases hpl with ⟨l1, l2, l3⟩ | ⟨l1, l2⟩
      · have v7 : v 67 = σ 67 := (fv 67 (by decide) (by decide)).trans h7
        have v9 : v 69 = x.2.2 := (fv 69 (by decide) (by decide)).trans pmt.2.2
        generalize hpe : plOf (σ 67) x.2.2 a = p at *
        refine ⟨fun k y s => p ≤ y ∧ y ≤ σ 67 0 - 1 ∧ (k : Int) + y = σ 67 0 - 1 ∧ (∀ d, d ≠ 69 → s d = v d) ∧ ∀ j : Nat, s 69 j = if p + 1 ≤ (j : Int) ∧ (j : Int) < y + 1 then x.2.2 (j + 1) else x.2.2 j, ?_, (σ 67 0 - 1 - p).toNat, by omega, by omega, by omega, fun _ _ => rfl, fun j => by rw [if_neg (by omega), v9]⟩
        rintro k y s ⟨i1, i2, i3, i4, i5⟩
        have s7 : s 67 = σ 67 := (i4 67 (by decide)).trans v7
        rw [s7]
        refine ⟨inR_s (by omega) (by omega), inR_s (by omega) (by omega), fun h => ⟨by omega, ?_⟩, fun h => ⟨by omega, by omega, ?_⟩⟩
        · rintro s11 rfl
          refine g4 hz _ ⟨⟨by rw [up2_c (by decide), i4 65 (by decide)]; exact pv.1, fun i k0 k1 j hj => ?_⟩, nu_in pmt.2.1, ?_⟩ (fun d k0 k1 k2 k3 => by rw [up2_c k1, i4 d k1, fv d k3 k0]) (fun j hj => by rw [up2_c (by decide), i4 65 (by decide)]; exact gv j hj)
          · show up2 s 69 _ _ 71 _ = _
            rw [up2_c (by decide), i4 71 (by decide)]
            have := pv.2 i k0 k1 j hj
            rw [pmt.2.2] at this
            exact this
          · funext j
            rw [up2_e]
            show _ = leaveR (σ 67) x.2.2 p j
            unfold leaveR
            by_cases hj : j = (σ 67 0).toNat
            · rw [if_pos hj, if_neg (by omega), if_pos (by omega)]
            · rw [if_neg hj, i5]
              by_cases hj2 : p + 1 ≤ (j : Int) ∧ (j : Int) < σ 67 0
              · rw [if_pos (by omega), if_pos hj2]
              · rw [if_neg (by omega), if_neg hj2, if_neg (by omega)]
        · rintro s14 rfl x3 rfl
          refine ⟨k - 1, by omega, by omega, by omega, by omega, fun d hd => by rw [up2_c hd]; exact i4 d hd, fun j => ?_⟩
          rw [up2_e]
          by_cases hj : j = (1 + y).toNat
          · rw [if_pos hj, i5, if_neg (by omega), if_pos (by omega), show (2 + y).toNat = j + 1 by omega]
          · rw [if_neg hj, i5]
            by_cases hj2 : p + 1 ≤ (j : Int) ∧ (j : Int) < y + 1
            · rw [if_pos hj2, if_pos (by omega)]
            · rw [if_neg hj2, if_neg (by omega)]
      · exact absurd l1 hz
    · rw [if_neg q]
      exact ⟨inR_0, fun _ => g1 q, fun z => absurd rfl z⟩
  unfold wp_X11_getUp
  refine c_hasSleeper bc ok ha ?_
  by_cases q : 0 ≤ a ∧ a < σ 67 2
  · rw [if_pos q]
    refine ⟨inR_s (by omega) (by omega), fun z => absurd z (by decide), fun _ => c_placeOf bc pc.2.1 ok pc.2.2.1 ha (by omega) ⟨inR_s (by omega) (by omega), fun hz => ?_, fun hz => ?_⟩⟩
    · exact m_part σ _ rfl rfl rfl rfl (fun z => absurd q z) (fun _ => ⟨fun _ => ⟨rfl, hR⟩, fun z => absurd hz z⟩)
    · rcases hpl with ⟨l1, l2, l3⟩ | ⟨l1, l2⟩
      · refine c_remember ok pc.2.2.1 pc.2.2.2 pc.2.1 pc.1 (fun t pt ft => ?_)
        refine c_leave isN_17 (bc.keep (fun d k0 k1 => ft d (by omega) (by omega) (by omega))) (pc.2.1.keep (ft 17 (by decide) (by decide) (by decide)) (ft 18 (by decide) (by decide) (by decide)) (ft 19 (by decide) (by decide) (by decide))) ok l1 l2 (fun v nv fv => ?_)
        have f : ∀ d, d ≠ 17 → d ≠ 18 → d ≠ 19 → d ≠ 23 → d ≠ 24 → d ≠ 25 → v d = σ d := fun d h0 h1 h2 h3 h4 h5 => (fv d h1).trans (ft d h3 h4 h5)
        have pv : PSc v (σ 67) (nu x.1, note x.1 x.2.1 x.2.2, leaveR (σ 67) x.2.2 (plOf (σ 67) x.2.2 a)) := ⟨pt.keep (fv 23 (by decide)) (fv 24 (by decide)) (fv 25 (by decide)), nv, pc.2.2.1.leave ok l1 l2, by unfold hrsOk; show 0 ≤ leaveR (σ 67) x.2.2 _ 0 ∧ leaveR (σ 67) x.2.2 _ 0 ≤ 100000; rw [leaveR_0 l1]; exact pc.2.2.2⟩
        refine m_part v _ (f _ (by decide) (by decide) (by decide) (by decide) (by decide) (by decide)) (f _ (by decide) (by decide) (by decide) (by decide) (by decide) (by decide)) (f _ (by decide) (by decide) (by decide) (by decide) (by decide) (by decide)) (f _ (by decide) (by decide) (by decide) (by decide) (by decide) (by decide)) (fun z => absurd q z) (fun _ => ⟨fun z => absurd z hz, fun _ u pu fu gu => ⟨rfl, Rel.of ok rs bc pv pu f fu gu⟩⟩)
      · exact absurd l1 hz
  · rw [if_neg q]
    exact ⟨inR_0, fun _ => m_part σ _ rfl rfl rfl rfl (fun _ => ⟨rfl, hR⟩) (fun z => absurd z q), fun z => absurd rfl z⟩
theorem pigeon : ∀ (n : Nat) (f : Int → Int), (∀ p : Int, 0 ≤ p → p < (n : Int) → 0 ≤ f p ∧ f p < (n : Int)) → (∀ p q : Int, 0 ≤ p → p < (n : Int) → 0 ≤ q → q < (n : Int) → f p = f q → p = q) → ∀ s : Int, 0 ≤ s → s < (n : Int) → ∃ p : Int, 0 ≤ p ∧ p < (n : Int) ∧ f p = s
  | 0, _, _, _, s, h0, h1 => by omega
  | n + 1, f, hf, hi, s, h0, h1 => by
    have hfn := hf (n : Int) (by omega) (by omega)
    have ih := pigeon n (fun p => if f p = (n : Int) then f (n : Int) else f p)
    have a1 : f (n : Int) ≠ (n : Int) → (∀ p : Int, 0 ≤ p → p < (n : Int) → 0 ≤ (if f p = (n : Int) then f (n : Int) else f p) ∧ (if f p = (n : Int) then f (n : Int) else f p) < (n : Int)) := by
      intro hne p k0 k1
      have := hf p k0 (by omega)
      split <;> omega
    have a2 : ∀ p q : Int, 0 ≤ p → p < (n : Int) → 0 ≤ q → q < (n : Int) → (if f p = (n : Int) then f (n : Int) else f p) = (if f q = (n : Int) then f (n : Int) else f q) → p = q := by
      intro p q k0 k1 l0 l1 he
      by_cases c : f p = (n : Int)
      · by_cases d : f q = (n : Int)
        · exact hi p q k0 (by omega) l0 (by omega) (by omega)
        · rw [if_pos c, if_neg d] at he
          have := hi (n : Int) q (by omega) (by omega) l0 (by omega) he
          omega
      · by_cases d : f q = (n : Int)
        · rw [if_neg c, if_pos d] at he
          have := hi p (n : Int) k0 (by omega) (by omega) (by omega) he
          omega
        · rw [if_neg c, if_neg d] at he
          exact hi p q k0 (by omega) l0 (by omega) he
    by_cases hne : f (n : Int) = (n : Int)
    · by_cases hs : s = (n : Int)
      · exact ⟨(n : Int), by omega, by omega, by rw [hne, hs]⟩
      · have b1 : ∀ p : Int, 0 ≤ p → p < (n : Int) → 0 ≤ (if f p = (n : Int) then f (n : Int) else f p) ∧ (if f p = (n : Int) then f (n : Int) else f p) < (n : Int) := by
          intro p k0 k1
          have h2 := hf p k0 (by omega)
          have h3 : f p ≠ (n : Int) := fun q => by
            have := hi p (n : Int) k0 (by omega) (by omega) (by omega) (by rw [q, hne])
            omega
          rw [if_neg h3]
          omega
        obtain ⟨p, k0, k1, k2⟩ := ih b1 a2 s h0 (by omega)
        refine ⟨p, k0, by omega, ?_⟩
        by_cases c : f p = (n : Int)
        · have := hi p (n : Int) k0 (by omega) (by omega) (by omega) (by rw [c, hne]); omega
        · rw [if_neg c] at k2; exact k2
    · by_cases hs : s = (n : Int)
      · obtain ⟨p, k0, k1, k2⟩ := ih (a1 hne) a2 (f (n : Int)) (by omega) (by omega)
        refine ⟨p, k0, by omega, ?_⟩
        by_cases c : f p = (n : Int)
        · rw [c, hs]
        · rw [if_neg c] at k2
          have := hi p (n : Int) k0 (by omega) (by omega) (by omega) k2
          omega
      · obtain ⟨p, k0, k1, k2⟩ := ih (a1 hne) a2 s h0 (by omega)
        by_cases c : f p = (n : Int)
        · rw [if_pos c] at k2
          exact ⟨(n : Int), by omega, by omega, k2⟩
        · rw [if_neg c] at k2
          exact ⟨p, k0, by omega, k2⟩
theorem empty_is {b r : Nat → Int} (ok : BedOk b) (nk : NightOk b r) {s : Int} (h0 : 0 ≤ s) (h1 : s < b 2) (hs : plOf b r s = -1) : 0 ≤ plOf b r (-1) ∧ plOf b r (-1) < b 0 ∧ whoOf r (plOf b r (-1)) = -1 := by
  have hn := ok.n6
  have h2 := ok.2.2.1
  rcases plOf_spec (b := b) (r := r) hn.1 (-1) with g | ⟨g1, g2⟩
  · exact g
  · exfalso
    have he : ((b 0).toNat : Int) = b 0 := Int.toNat_of_nonneg hn.1
    obtain ⟨p, k0, k1, k2⟩ := pigeon (b 0).toNat (whoOf r) (fun p k0 k1 => by
      rw [he] at k1 ⊢
      have := (nk.1 p k0 (by omega)).1
      have := g2 p k0 k1
      omega) (fun p q k0 k1 l0 l1 e => by
      rw [he] at k1 l1
      exact nk.2 p q k0 (by omega) l0 (by omega) e (g2 p k0 k1)) s h0 (by omega)
    rw [he] at k1
    rcases plOf_spec (b := b) (r := r) hn.1 s with ⟨a1, a2, a3⟩ | ⟨a1, a2⟩
    · omega
    · exact a2 p k0 k1 k2
