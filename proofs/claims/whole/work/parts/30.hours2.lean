/-! hours by draws: the seed goes with night and past -/
def nseed (s : Int) : Int := (s * 1103515245 + 12345) % 2147483648
def dword (b : Nat → Int) (s : Int) (x : PS) : Int := if 4 ≤ s / 65536 % 6 then lawW b x.2.2 else s / 65536 % 6
abbrev DS : Type := Int × PS
def itD (b : Nat → Int) : Nat → DS → DS
  | 0, x => x
  | n + 1, x => (nseed (itD b n x).1, stp b (dword b (nseed (itD b n x).1) (itD b n x).2) (itD b n x).2)
theorem nseed_in {s : Int} : 0 ≤ nseed s ∧ nseed s ≤ 2147483647 := by
  unfold nseed
  have h1 := Int.emod_nonneg (s * 1103515245 + 12345) (show (2147483648 : Int) ≠ 0 by decide)
  have h2 := Int.emod_lt_of_pos (s * 1103515245 + 12345) (show (0 : Int) < 2147483648 by decide)
  omega
theorem itD_hrs (b : Nat → Int) (x : DS) : ∀ n : Nat, (itD b n x).2.2.2 0 = x.2.2.2 0 + n
  | 0 => by simp [itD]
  | n + 1 => by
    show goesR b (itD b n x).2.2.2 (dword b (nseed (itD b n x).1) (itD b n x).2) 0 = _
    rw [goesR_0, itD_hrs b x n]
    omega
theorem itD_seed (b : Nat → Int) (x : DS) (h : 0 ≤ x.1 ∧ x.1 ≤ 2147483647) : ∀ n : Nat, 0 ≤ (itD b n x).1 ∧ (itD b n x).1 ≤ 2147483647
  | 0 => h
  | n + 1 => nseed_in
theorem yand31 {y : Int} (h0 : 0 ≤ y) (h1 : y < 9223372036854775808) : yand y 2147483647 = y % 2147483648 := by
  unfold yand
  have e : (iL y &&& iL 2147483647).toBitVec.toNat = y.toNat % 2147483648 := by
    show ((iL y).toBitVec &&& (iL 2147483647).toBitVec).toNat = _
    rw [BitVec.toNat_and, iL_nat h0 h1, iL_nat (by omega) (by omega)]
    exact Nat.and_two_pow_sub_one_eq_mod y.toNat 31
  rw [nat_iL (by rw [e]; omega), e]
  omega
theorem c_drawOfSix {σ : Mem} {s : Int} {Q : Int → Mem → Prop} (hs : σ 0 12 = s) (h : 0 ≤ s ∧ s ≤ 2147483647) (hq : Q (nseed s / 65536 % 6) (up2 σ 0 12 (nseed s))) : wp_X11_drawOfSix σ Q := by
  have hn := nseed_in (s := s)
  unfold wp_X11_drawOfSix
  rw [hs]
  refine ⟨⟨by omega, by omega⟩, ?_⟩
  rintro s2 rfl
  rw [up2_s, yand31 (by omega) (by omega)]
  show inR (nseed s) ∧ inR (Int.tdiv (nseed s) 65536) ∧ Q (Int.tmod (Int.tdiv (nseed s) 65536) 6) (up2 σ 0 12 (nseed s))
  have e1 : Int.tdiv (nseed s) 65536 = nseed s / 65536 := Int.tdiv_eq_ediv_of_nonneg hn.1
  have e2 : Int.tmod (nseed s / 65536) 6 = nseed s / 65536 % 6 := Int.tmod_eq_emod_of_nonneg (by omega)
  rw [e1, e2]
  exact ⟨⟨by omega, by omega⟩, ⟨by omega, by omega⟩, hq⟩
theorem m_draws {σ : Mem} {s : Int} {Q : Int → Mem → Prop} (hs : σ 65 9 = s) (h : 0 ≤ s ∧ s ≤ 2147483647) (hq : Q (nseed s / 65536 % 6) (up2 σ 65 9 (nseed s))) : wp_X12_draws 6 σ Q := by
  have hn := nseed_in (s := s)
  unfold wp_X12_draws
  rw [hs]
  have e0 : Int.tmod (s * 1103515245 + 12345) 2147483648 = nseed s := Int.tmod_eq_emod_of_nonneg (by omega)
  refine ⟨⟨by omega, by omega⟩, ⟨by omega, by omega⟩, ?_⟩
  rintro s3 rfl
  rw [up2_s, e0]
  have e1 : Int.tdiv (nseed s) 65536 = nseed s / 65536 := Int.tdiv_eq_ediv_of_nonneg hn.1
  have e2 : Int.tmod (nseed s / 65536) 6 = nseed s / 65536 % 6 := Int.tmod_eq_emod_of_nonneg (by omega)
  rw [e1, e2]
  exact ⟨⟨by omega, by omega⟩, ⟨by omega, by omega⟩, inR_s (by omega) (by omega), by decide, hq⟩
theorem dword_in {b : Nat → Int} (ok : BedOk b) (s : Int) (x : PS) : 0 ≤ dword b s x ∧ dword b s x ≤ 3 := by
  have := lawW_in (r := x.2.2) ok
  unfold dword
  split <;> omega
theorem pub_drift {n : Int} (hn' : inR n) : Good (fun σ Q => wp_X11_drift n σ Q) (fun σ Q => wp_X12_drift n σ Q) := by
  intro σ hR
  have hR' := hR
  obtain ⟨ok, bc, ⟨x, pc, pm⟩, rs⟩ := hR'
  obtain ⟨tr, ir, sr, nr, br⟩ := rs
  show wp_X11_drift n σ (fun r t => wp_X12_drift n t (fun r' u => r = r' ∧ Rel u))
  obtain ⟨m1, m2, m3⟩ := pm
  have p4 := pc.2.2.2
  have hx0 : 0 ≤ x.2.2 0 := p4.1
  generalize hz0 : ((σ 65 9, x) : DS) = z0
  have z01 : z0.1 = σ 65 9 := by rw [← hz0]
  have z02 : z0.2 = x := by rw [← hz0]
  have hsd : ∀ i : Nat, 0 ≤ (itD (σ 67) i z0).1 ∧ (itD (σ 67) i z0).1 ≤ 2147483647 := itD_seed _ _ (by rw [z01]; exact sr.2)
  have hnk : ∀ k : Nat, NightOk (σ 67) (itD (σ 67) k z0).2.2.2 := by
    intro k
    induction k with
    | zero => show NightOk (σ 67) z0.2.2.2; rw [z02]; exact pc.2.2.1
    | succ k ih => exact ih.goes ok _
  have hr0 : ∀ i : Nat, (itD (σ 67) i z0).2.2.2 0 = x.2.2 0 + i := fun i => by rw [itD_hrs, z02]
  have m_part : ∀ (t : Mem) (P : Int → Mem → Prop), t 65 = σ 65 → t 67 = σ 67 → t 69 = σ 69 → t 71 = σ 71 → (¬ (1 ≤ n ∧ n ≤ 99) → P (-1000000002) t) → ((1 ≤ n ∧ n ≤ 99) → ¬ refV (σ 67) x.2.2 = 0 → P (refV (σ 67) x.2.2) t) → ((1 ≤ n ∧ n ≤ 99) → refV (σ 67) x.2.2 = 0 → ∀ u : Mem, PSm u (itD (σ 67) n.toNat z0).2 → u 65 9 = (itD (σ 67) n.toNat z0).1 → (∀ d, d ≠ 65 → d ≠ 69 → d ≠ 70 → d ≠ 71 → u d = t d) → (∀ j, j ≠ 11 → j ≠ 9 → u 65 j = t 65 j) → P (coldV (σ 67) (itD (σ 67) n.toNat z0).2.2.2) u) → wp_X12_drift n t P := by
    intro t P h5 h7 h9 h71 g1 g2 g3
    unfold wp_X12_drift
    refine ⟨hn', m_in hn' (inR_s (by omega) (by omega)) (inR_s (by omega) (by omega)) ?_⟩
    by_cases q : 1 ≤ n ∧ n ≤ 99
    · rw [if_pos q]
      refine ⟨inR_s (by omega) (by omega), fun z => absurd z (by decide), fun _ => m_refusal (by rw [h7]; exact ok) (by rw [h9, m3]; exact p4) ?_⟩
      rw [h7, h9, m3]
      by_cases hz : refV (σ 67) x.2.2 = 0
      · rw [hz]
        obtain ⟨z1, z2⟩ := refV_0 hz
        have hN : 2 ≤ σ 67 0 := by have := ok.1; omega
        refine ⟨inR_0, fun _ => ?_, fun z => absurd (Int.le_refl 0) z⟩
        refine ⟨fun k y v => ∃ i : Nat, y = (i : Int) ∧ (i : Int) ≤ n ∧ (k : Int) + i = n ∧ PSm v (itD (σ 67) i z0).2 ∧ v 65 9 = (itD (σ 67) i z0).1 ∧ (∀ d, d ≠ 65 → d ≠ 69 → d ≠ 70 → d ≠ 71 → v d = t d) ∧ (∀ j, j ≠ 11 → j ≠ 9 → v 65 j = t 65 j), ?_, n.toNat, 0, rfl, by omega, by omega, ?_, ?_, fun _ _ _ _ _ => rfl, fun _ _ _ => rfl⟩
        rintro k y v ⟨i, rfl, i1, i2, i3, i6, i4, i5⟩
        have v7 : v 67 = σ 67 := (i4 67 (by decide) (by decide) (by decide) (by decide)).trans h7
        have hri := hr0 i
        refine ⟨inR_s (by omega) (by omega), fun h => ?_, fun h => ?_⟩
        · refine m_coldest (by rw [v7]; exact ok) (by rw [v7, i3.2.2]; exact hnk i) ?_
          have e : i = n.toNat := by omega
          rw [v7, i3.2.2, e]
          rw [e] at i3 i6
          exact g3 q hz v i3 i6 i4 i5
        · refine m_notes i3.1 i3.2.1 (fun w pw fw gw => ?_)
          have w7 : w 67 = σ 67 := (fw 67 (by decide) (by decide)).trans v7
          have w9 : w 69 = v 69 := fw 69 (by decide) (by decide)
          refine m_draws (s := (itD (σ 67) i z0).1) (by rw [gw 9 (by decide)]; exact i6) (hsd i) ?_
          generalize hs' : nseed (itD (σ 67) i z0).1 = s'
          have hs3 : (itD (σ 67) (i + 1) z0).1 = s' := hs'
          have hw3 : (itD (σ 67) (i + 1) z0).2 = stp (σ 67) (dword (σ 67) s' (itD (σ 67) i z0).2) (itD (σ 67) i z0).2 := by rw [← hs']; rfl
          have hl := lawW_in (r := (itD (σ 67) i z0).2.2.2) ok
          have hdw := dword_in ok s' (itD (σ 67) i z0).2
          refine ⟨inR_s (by omega) (by omega), fun v14 => v14 = dword (σ 67) s' (itD (σ 67) i z0).2, ?_, fun c1 => ?_, fun c1 => ?_⟩
          · rintro v14 rfl
            have e7 : up2 w 65 9 s' 67 = σ 67 := by rw [up2_c (by decide)]; exact w7
            have e9 : up2 w 65 9 s' 69 = v 69 := by rw [up2_c (by decide)]; exact w9
            refine m_goesOn (by rw [e7]; exact ok) (by rw [e7, e9, i3.2.2]; exact hnk i) (inR_s (by omega) (by omega)) (Or.inl (by rw [e7]; exact hN)) (fun u hu fu => ?_)
            rintro x2 rfl
            have u65 : u 65 = up2 w 65 9 s' 65 := fu 65 (by decide) (by decide)
            have ent : ∀ a j, entM u a j = entM w a j := fun a j => by
              show u 71 _ = w 71 _
              rw [fu 71 (by decide) (by decide), up2_c (by decide)]
            refine ⟨k - 1, by omega, i + 1, by omega, by omega, by omega, ?_, by rw [u65, up2_s]; exact hs3.symm, fun d h0 h1 h2 h3 => by rw [fu d h1 h2, up2_c h0, fw d h3 h0]; exact i4 d h0 h1 h2 h3, fun j hj hj2 => by rw [u65, up2_n hj2, gw j hj]; exact i5 j hj hj2⟩
            rw [hw3]
            refine ⟨⟨by rw [u65, up2_n (by decide)]; exact pw.1, fun a g0 g4 j hj => ?_⟩, nu_in i3.2.1, ?_⟩
            · rw [ent]
              have := pw.2 a g0 g4 j hj
              rw [i3.2.2] at this
              exact this
            · rw [hu, e7, e9, i3.2.2]; rfl
          · refine m_lawful (by rw [up2_c (by decide), w7]; exact ok) (by rw [up2_c (by decide), w9, i3.2.2, hri]; exact ⟨inR_s (by omega) (by omega), by omega⟩) ?_
            rw [up2_c (by decide), up2_c (by decide), w7, w9, i3.2.2]
            unfold dword
            rw [if_pos c1]; rfl
          · unfold dword
            rw [if_neg c1]
        · show PSm t z0.2
          rw [z02]
          exact PSm.keep ⟨m1, m2, m3⟩ (by rw [h5]) h9 h71
        · show t 65 9 = z0.1
          rw [z01, h5]
      · have := refV_ne hz
        refine ⟨this.2, fun z => by omega, fun _ => m_refusal (by rw [h7]; exact ok) (by rw [h9, m3]; exact p4) ?_⟩
        rw [h7, h9, m3]
        exact g2 q hz
    · rw [if_neg q]
      exact ⟨inR_0, fun _ => g1 q, fun z => absurd rfl z⟩
  unfold wp_X11_drift
  refine ⟨hn', fun h => m_part σ _ rfl rfl rfl rfl (fun _ => ⟨rfl, hR⟩) (fun q => by omega) (fun q => by omega), fun h => ⟨fun g => ?_, fun g => m_part σ _ rfl rfl rfl rfl (fun _ => ⟨rfl, hR⟩) (fun q => by omega) (fun q => by omega)⟩⟩
  refine c_hoursRefused bc pc.2.1 ok p4 ?_
  by_cases hz : refV (σ 67) x.2.2 = 0
  · rw [hz]
    obtain ⟨z1, z2⟩ := refV_0 hz
    refine ⟨inR_0, fun _ => ?_, fun z => absurd rfl z⟩
    refine ⟨fun k y v => ∃ i : Nat, y = (i : Int) ∧ (i : Int) ≤ n ∧ (k : Int) + i = n ∧ PSc v (σ 67) (itD (σ 67) i z0).2 ∧ v 0 12 = (itD (σ 67) i z0).1 ∧ (∀ d, d ≠ 0 → d ≠ 17 → d ≠ 18 → d ≠ 19 → d ≠ 23 → d ≠ 24 → d ≠ 25 → v d = σ d), ?_, n.toNat, 0, rfl, by omega, by omega, by show PSc σ (σ 67) z0.2; rw [z02]; exact pc, by show σ 0 12 = z0.1; rw [z01]; exact sr.1, fun _ _ _ _ _ _ _ _ => rfl⟩
    rintro k y v ⟨i, rfl, i1, i2, i3, i6, i4⟩
    have bv : BedC v (σ 67) := bc.keep (fun d h0 h1 => i4 d (by omega) (by omega) (by omega) (by omega) (by omega) (by omega) (by omega))
    have hri := hr0 i
    refine ⟨inR_s (by omega) (by omega), fun h3 => ?_, fun h3 => ?_⟩
    · refine c_coldest bv i3.2.1 ok i3.2.2.1 ?_
      have e : i = n.toNat := by omega
      rw [e] at i3 i6 ⊢
      have c65 : v 65 = σ 65 := i4 _ (by decide) (by decide) (by decide) (by decide) (by decide) (by decide) (by decide)
      refine m_part v _ c65 (i4 _ (by decide) (by decide) (by decide) (by decide) (by decide) (by decide) (by decide)) (i4 _ (by decide) (by decide) (by decide) (by decide) (by decide) (by decide) (by decide)) (i4 _ (by decide) (by decide) (by decide) (by decide) (by decide) (by decide) (by decide)) (fun q => by omega) (fun _ q => absurd hz q) (fun _ _ u pu u9 fu gu => ⟨rfl, ?_⟩)
      have f : ∀ d, d ≠ 0 → d ≠ 17 → d ≠ 18 → d ≠ 19 → d ≠ 23 → d ≠ 24 → d ≠ 25 → d ≠ 65 → d ≠ 69 → d ≠ 70 → d ≠ 71 → u d = σ d := fun d h0 h1 h2 h3 h4 h5 h6 h7 h8 h9 h10 => (fu d h7 h8 h9 h10).trans (i4 d h0 h1 h2 h3 h4 h5 h6)
      have u7 : u 67 = σ 67 := f 67 (by decide) (by decide) (by decide) (by decide) (by decide) (by decide) (by decide) (by decide) (by decide) (by decide) (by decide)
      have f' : ∀ d, d ≠ 0 ∧ d ≠ 17 ∧ d ≠ 18 ∧ d ≠ 19 ∧ d ≠ 23 ∧ d ≠ 24 ∧ d ≠ 25 ∧ d ≠ 65 ∧ d ≠ 69 ∧ d ≠ 70 ∧ d ≠ 71 → u d = σ d := fun d ⟨h0, h1, h2, h3, h4, h5, h6, h7, h8, h9, h10⟩ => f d h0 h1 h2 h3 h4 h5 h6 h7 h8 h9 h10
      have u8 : u 8 = σ 8 := f' 8 (by decide)
      have g' : ∀ j, j ≠ 11 → j ≠ 9 → u 65 j = σ 65 j := fun j hj hj2 => by rw [gu j hj hj2, c65]
      refine ⟨by rw [u7]; exact ok, by rw [u7]; exact bc.keep (fun d h0 h1 => f' d (by omega)), ⟨_, by rw [u7]; exact i3.keep (fu 17 (by decide) (by decide) (by decide) (by decide)) (fu 18 (by decide) (by decide) (by decide) (by decide)) (fu 19 (by decide) (by decide) (by decide) (by decide)) (fu 23 (by decide) (by decide) (by decide) (by decide)) (fu 24 (by decide) (by decide) (by decide) (by decide)) (fu 25 (by decide) (by decide) (by decide) (by decide)), pu⟩, ?_, ?_, ?_, ?_, ?_⟩
      · exact tr.keep (by rw [u8]) (by rw [u8]) (f' 9 (by decide)) (f' 68 (by decide)) (g' 3 (by decide) (by decide)) (g' 6 (by decide) (by decide))
      · exact ir.keep (f' 27 (by decide)) (f' 28 (by decide)) (f' 80 (by decide)) u7
      · refine ⟨?_, by rw [u9]; exact hsd _⟩
        rw [fu 0 (by decide) (by decide) (by decide) (by decide), i6, u9]
      · exact nr.keep (by rw [f' 60 (by decide)]) (f' 61 (by decide)) (f' 62 (by decide)) (f' 77 (by decide)) (f' 78 (by decide)) (g' 18 (by decide) (by decide)) u7
      · exact br.keep (f' 63 (by decide)) (f' 64 (by decide)) (f' 79 (by decide)) (g' 21 (by decide) (by decide))
    · refine c_drawOfSix (s := (itD (σ 67) i z0).1) i6 (hsd i) ?_
      generalize hs' : nseed (itD (σ 67) i z0).1 = s'
      have hs3 : (itD (σ 67) (i + 1) z0).1 = s' := hs'
      have hw3 : (itD (σ 67) (i + 1) z0).2 = stp (σ 67) (dword (σ 67) s' (itD (σ 67) i z0).2) (itD (σ 67) i z0).2 := by rw [← hs']; rfl
      have hl := lawW_in (r := (itD (σ 67) i z0).2.2.2) ok
      have hdw := dword_in ok s' (itD (σ 67) i z0).2
      have hv : ∀ d, d ≠ 0 → up2 v 0 12 s' d = v d := fun d hd => up2_c hd
      have bw : BedC (up2 v 0 12 s') (σ 67) := bv.keep (fun d h0 h1 => hv d (by omega))
      have cw : PSc (up2 v 0 12 s') (σ 67) (itD (σ 67) i z0).2 := i3.keep (hv _ (by decide)) (hv _ (by decide)) (hv _ (by decide)) (hv _ (by decide)) (hv _ (by decide)) (hv _ (by decide))
      refine isWord_c (inR_s (by omega) (by omega)) ⟨by split <;> exact inR_s (by omega) (by omega), fun v12 => v12 = dword (σ 67) s' (itD (σ 67) i z0).2, ?_, fun c1 => ?_, fun c1 => ?_⟩
      · rintro v12 rfl
        refine c_goOn ok bw cw (inR_s (by omega) (by omega)) (by omega) (fun w pw fw => ?_)
        rintro x3 rfl
        refine ⟨k - 1, by omega, i + 1, by omega, by omega, by omega, by rw [hw3]; exact pw, ?_, fun d h0 h1 h2 h3 h4 h5 h6 => by rw [fw d h1 h2 h3 h4 h5 h6, hv d h0]; exact i4 d h0 h1 h2 h3 h4 h5 h6⟩
        rw [fw 0 (by decide) (by decide) (by decide) (by decide) (by decide) (by decide), up2_s]
        exact hs3.symm
      · rw [hv 17 (by decide), i3.2.1.1]
        refine c_lawAt bw ok (by rw [hri]; exact ⟨inR_s (by omega) (by omega), by omega⟩) ?_
        unfold dword
        rw [if_pos]
        · rfl
        · by_cases c2 : 0 ≤ s' / 65536 % 6 ∧ s' / 65536 % 6 ≤ 3
          · rw [if_pos c2] at c1; omega
          · omega
      · unfold dword
        rw [if_neg]
        by_cases c2 : 0 ≤ s' / 65536 % 6 ∧ s' / 65536 % 6 ≤ 3
        · omega
        · rw [if_neg c2] at c1; exact absurd rfl c1
  · have hne := refV_ne hz
    exact ⟨hne.2, fun z => absurd z hz, fun _ => m_part σ _ rfl rfl rfl rfl (fun q => by omega) (fun _ _ => ⟨rfl, hR⟩) (fun _ q => absurd q hz)⟩
