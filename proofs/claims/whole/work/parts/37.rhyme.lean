/-! rhyme -/
theorem pw4_tab : ∀ w : Fin 6, w.val = 0 ∨ (4 ≤ zshl 1 (2 * (w.val : Int)) ∧ zshl 1 (2 * (w.val : Int)) ≤ 1024) := by decide +kernel
theorem pw4_in {w : Int} (h0 : 1 ≤ w) (h1 : w ≤ 5) : 4 ≤ zshl 1 (2 * w) ∧ zshl 1 (2 * w) ≤ 1024 := by
  have T := pw4_tab ⟨w.toNat, by omega⟩
  simp only [Int.toNat_of_nonneg (show 0 ≤ w by omega)] at T
  rcases T with T | T
  · omega
  · exact T
def RP (b r : Nat → Int) (n w row : Int) : Prop := SL b (wsf row w) r n 1
theorem RP_not {b r : Nat → Int} {n w row : Int} (h : SL b (wsf row w) r n 0) : ¬ RP b r n w row := fun g => by have := g.uniq h; omega
/-- none before: every shorter row, and every lesser row as long -/
def RN (b r : Nat → Int) (n w row : Int) : Prop := ∀ w' row' : Int, 1 ≤ w' → 0 ≤ row' → row' < zshl 1 (2 * w') → (w' < w ∨ (w' = w ∧ row' < row)) → ¬ RP b r n w' row'
def RV (w row i : Int) : Int := if i = -1 then w else if 0 ≤ i ∧ i < w then wd row w i else -1
def RH (b r : Nat → Int) (n i v : Int) : Prop := (∃ w row : Int, (1 ≤ w ∧ w ≤ 4) ∧ (0 ≤ row ∧ row < zshl 1 (2 * w)) ∧ RP b r n w row ∧ RN b r n w row ∧ v = RV w row i) ∨ (RN b r n 5 0 ∧ v = -1)
theorem RH.uniq {b r : Nat → Int} {n i v v' : Int} (h : RH b r n i v) (g : RH b r n i v') : v = v' := by
  rcases h with ⟨w, row, a1, a2, a3, a4, a5⟩ | ⟨h1, h2⟩ <;> rcases g with ⟨w', row', b1, b2, b3, b4, b5⟩ | ⟨g1, g2⟩
  · have e : w = w' ∧ row = row' := by
      rcases Int.lt_trichotomy w w' with c | c | c
      · exact absurd a3 (b4 w row a1.1 a2.1 a2.2 (Or.inl c))
      · rcases Int.lt_trichotomy row row' with d | d | d
        · exact absurd a3 (b4 w row a1.1 a2.1 a2.2 (Or.inr ⟨c, d⟩))
        · exact ⟨c, d⟩
        · exact absurd b3 (a4 w' row' b1.1 b2.1 b2.2 (Or.inr ⟨c.symm, d⟩))
      · exact absurd b3 (a4 w' row' b1.1 b2.1 b2.2 (Or.inl c))
    rw [a5, b5, e.1, e.2]
  · exact absurd a3 (g1 w row a1.1 a2.1 a2.2 (Or.inl (by omega)))
  · exact absurd b3 (h1 w' row' b1.1 b2.1 b2.2 (Or.inl (by omega)))
  · rw [h2, g2]
theorem pub_rhyme {n i : Int} (hn' : inR n) (hi' : inR i) : Good (fun σ Q => wp_X11_rhyme n i σ Q) (fun σ Q => wp_X12_rhyme n i σ Q) := by
  intro σ hR
  have hR' := hR
  obtain ⟨ok, bc, ⟨x, pc, pm⟩, rs⟩ := hR'
  show wp_X11_rhyme n i σ (fun r t => wp_X12_rhyme n i t (fun r' u => r = r' ∧ Rel u))
  have nk := pc.2.2.1
  have m9 := pm.2.2
  have hin : 0 ≤ inV (σ 67) x.2.2 ∧ inV (σ 67) x.2.2 ≤ 63 := bset_range _
  have hN : ¬ inV (σ 67) x.2.2 = 0 → 2 ≤ σ 67 0 := by
    intro h3
    rcases ok.1 with c | c
    · exfalso
      exact h3 ((inV_0 ok nk).mpr (fun p p0 p1 => by omega))
    · exact c.1
  have m_part : ∀ (t : Mem) (P : Int → Mem → Prop), t 67 = σ 67 → t 69 = σ 69 → (¬ (1 ≤ n ∧ n ≤ 30) → P (-1000000002) t) → ((1 ≤ n ∧ n ≤ 30) → (inV (σ 67) x.2.2 = 0 → P (-1000000003) t) ∧ (¬ inV (σ 67) x.2.2 = 0 → ∀ (v : Int) (u : Mem), RH (σ 67) x.2.2 n i v → (∀ d, d ≠ 70 → d ≠ 72 → u d = t d) → P v u)) → wp_X12_rhyme n i t P := by
    intro t P h7 h9 g1 g2
    unfold wp_X12_rhyme
    refine ⟨hn', m_in hn' (inR_s (by omega) (by omega)) (inR_s (by omega) (by omega)) ?_⟩
    by_cases q : 1 ≤ n ∧ n ≤ 30
    · rw [if_pos q]
      obtain ⟨g3, g4⟩ := g2 q
      refine ⟨inR_s (by omega) (by omega), fun z => absurd z (by decide), fun _ => m_inBed (by rw [h7]; exact ok) (by rw [h7, h9, m9]; exact nk) ?_⟩
      rw [h7, h9, m9]
      refine ⟨inR_s (by omega) (by omega), g3, fun hz => m_asides (fun w fw gw => ?_)⟩
      have w72 : ∀ j : Nat, j < 13 → w 72 j = x.2.2 j := fun j hj => by rw [gw j hj, h9, m9]
      have w69 : w 69 = x.2.2 := by rw [fw 69 (by decide), h9, m9]
      refine ⟨fun k y s => (1 ≤ y ∧ y ≤ 5) ∧ (k : Int) + y = 5 ∧ (∀ d, d ≠ 70 → s d = w d) ∧ RN (σ 67) x.2.2 n y 0, ?_, 4, by omega, by omega, fun _ _ => rfl, fun w' row' c1 c2 c3 c4 => by omega⟩
      rintro k y s ⟨i1, i2, i3, i4⟩
      refine ⟨inR_s (by omega) (by omega), fun h => ?_, fun h => ?_⟩
      · refine g4 hz (-1) s (Or.inr ⟨?_, rfl⟩) (fun d h0 h1 => by rw [i3 d h0, fw d h1])
        rw [show (5 : Int) = y by omega]; exact i4
      · have hp := pw4_in (w := y) (by omega) (by omega)
        refine ⟨fun k' z s' => (0 ≤ z ∧ z ≤ zshl 1 (2 * y)) ∧ (k' : Int) + z = zshl 1 (2 * y) ∧ (∀ d, d ≠ 70 → s' d = w d) ∧ RN (σ 67) x.2.2 n y z, ?_, (zshl 1 (2 * y)).toNat, by omega, by omega, i3, i4⟩
        rintro k' z s' ⟨j1, j2, j3, j4⟩
        unfold wp_X12_power
        refine ⟨inR_s (by omega) (by omega), inR_s (by omega) (by omega), fun h2 => ?_, fun h2 => ?_⟩
        · rintro x3 rfl
          refine ⟨k - 1, by omega, by omega, by omega, j3, fun w' row' c1 c2 c3 c4 => ?_⟩
          rcases c4 with c | ⟨c, c'⟩
          · by_cases e : w' = y
            · refine j4 w' row' c1 c2 c3 (Or.inr ⟨e, ?_⟩)
              rw [e] at c3; omega
            · exact j4 w' row' c1 c2 c3 (Or.inl (by omega))
          · omega
        · have s7 : s' 67 = σ 67 := by rw [j3 67 (by decide), fw 67 (by decide), h7]
          have s9 : s' 69 = x.2.2 := by rw [j3 69 (by decide), w69]
          refine m_sleeps (by rw [s7]; exact ok) (by rw [s7, s9]; exact nk) (by rw [s7]; exact hN hz) (by omega) (by omega) (by omega) (by omega) (fun v u hv fu gu _ _ => ?_)
          rw [s7, s9] at hv
          refine m_backs (r := x.2.2) (fun j hj => by rw [fu 72 (by decide) (by decide), j3 72 (by decide)]; exact w72 j hj) (fun j hj => by rw [gu j hj, s9]) (fun u2 fu2 hu2 => ?_)
          have ff : ∀ d, d ≠ 70 → u2 d = w d := by
            intro d h0
            by_cases hd : d = 69
            · rw [hd, hu2, w69]
            · rw [fu2 d hd, fu d hd h0, j3 d h0]
          have hv01 : v = 0 ∨ v = 1 := by rcases hv with h | h <;> omega
          refine ⟨inR_s (by omega) (by omega), fun hv0 => ?_, fun hv1 => ?_⟩
          · rintro x4 rfl
            refine ⟨k' - 1, by omega, by omega, by omega, ff, fun w' row' c1 c2 c3 c4 => ?_⟩
            rcases c4 with c | ⟨c, c'⟩
            · exact j4 w' row' c1 c2 c3 (Or.inl c)
            · by_cases e : row' = z
              · rw [c, e]; rw [hv0] at hv; exact RP_not hv
              · exact j4 w' row' c1 c2 c3 (Or.inr ⟨c, by omega⟩)
          · have ev : v = 1 := by omega
            rw [ev] at hv
            have fin : ∀ v', v' = RV y z i → P v' u2 := fun v' e => g4 hz v' u2 (Or.inl ⟨y, z, by omega, by omega, hv, j4, e⟩) (fun d h0 h1 => by rw [ff d h0, fw d h1])
            refine ⟨hi', fun c => fin _ (by unfold RV; rw [if_pos c]), fun c => ⟨inR_s (by omega) (by omega), m_in hi' inR_0 (inR_s (by omega) (by omega)) ?_⟩⟩
            by_cases d : 0 ≤ i ∧ i ≤ y - 1
            · rw [if_pos d]
              refine ⟨inR_s (by omega) (by omega), fun e => absurd e (by decide), fun _ => ?_⟩
              unfold wp_X12_word
              exact fin _ (by unfold RV; rw [if_neg c, if_pos (by omega)]; rfl)
            · rw [if_neg d]
              exact ⟨inR_0, fun _ => fin _ (by unfold RV; rw [if_neg c, if_neg (by omega)]), fun e => absurd rfl e⟩
    · rw [if_neg q]
      exact ⟨inR_0, fun _ => g1 q, fun z => absurd rfl z⟩
  unfold wp_X11_rhyme
  refine ⟨hn', fun h => m_part σ _ rfl rfl (fun _ => ⟨rfl, hR⟩) (fun z => by omega), fun h => ⟨fun h2 => ?_, fun h2 => m_part σ _ rfl rfl (fun _ => ⟨rfl, hR⟩) (fun z => by omega)⟩⟩
  refine c_inBed bc pc.2.1 ok nk ⟨inR_s (by omega) (by omega), fun hz => m_part σ _ rfl rfl (fun z => by omega) (fun _ => ⟨fun _ => ⟨rfl, hR⟩, fun z => absurd hz z⟩), fun hz => ?_⟩
  have done : ∀ (v : Int) (s : Mem), RH (σ 67) x.2.2 n i v → (∀ d, d ≠ 20 → d ≠ 21 → d ≠ 22 → d ≠ 51 → s d = σ d) → wp_X12_rhyme n i s (fun r' u => v = r' ∧ Rel u) := by
    intro v s hv fs
    refine m_part s _ (fs 67 (by decide) (by decide) (by decide) (by decide)) (fs 69 (by decide) (by decide) (by decide) (by decide)) (fun z => by omega) (fun _ => ⟨fun z => absurd z hz, fun _ v' u hv' fu => ⟨hv.uniq hv', ?_⟩⟩)
    have f : ∀ d, d ≠ 20 → d ≠ 21 → d ≠ 22 → d ≠ 51 → d ≠ 70 → d ≠ 72 → u d = σ d := fun d h0 h1 h2 h3 h4 h5 => (fu d h4 h5).trans (fs d h0 h1 h2 h3)
    have u65 : u 65 = σ 65 := f 65 (by decide) (by decide) (by decide) (by decide) (by decide) (by decide)
    refine hR.tried (fun d hd => ?_) (by rw [f 60 (by decide) (by decide) (by decide) (by decide) (by decide) (by decide)]) ⟨by rw [u65], by rw [u65], by rw [u65], by rw [u65], by rw [u65], by rw [u65]⟩
    unfold jk at hd
    exact f d (by omega) (by omega) (by omega) (by omega) (by omega) (by omega)
  unfold wp_X7_seek
  refine ⟨fun k y s => (1 ≤ y ∧ y ≤ 5) ∧ (k : Int) + y = 5 ∧ (∀ d, d ≠ 20 → d ≠ 21 → d ≠ 22 → s d = σ d) ∧ RN (σ 67) x.2.2 n y 0, ?_, 4, by omega, by omega, fun _ _ _ _ => rfl, fun w' row' c1 c2 c3 c4 => by omega⟩
  rintro k y s ⟨i1, i2, i3, i4⟩
  refine ⟨inR_s (by omega) (by omega), fun h3 => ?_, fun h3 => ?_⟩
  · rintro s4 rfl s5 rfl
    have e1 : up2 (up2 s 51 1 (-1)) 51 2 0 51 1 = -1 := by rw [up2_n (by decide), up2_s]
    rw [e1]
    have d1 := done (-1) (up2 (up2 s 51 1 (-1)) 51 2 0) (Or.inr ⟨by rw [show (5 : Int) = y by omega]; exact i4, rfl⟩) (fun d h0 h1 h2 h3 => by rw [up2_c h3, up2_c h3]; exact i3 d h0 h1 h2)
    exact ⟨hi', fun _ => d1, fun _ => ⟨inR_s (by omega) (by omega), fun _ => d1, fun c => absurd rfl c⟩⟩
  · have hp := pw4_in (w := y) (by omega) (by omega)
    refine ⟨fun k' z s' => (0 ≤ z ∧ z ≤ zshl 1 (2 * y)) ∧ (k' : Int) + z = zshl 1 (2 * y) ∧ (∀ d, d ≠ 20 → d ≠ 21 → d ≠ 22 → s' d = σ d) ∧ RN (σ 67) x.2.2 n y z, ?_, (zshl 1 (2 * y)).toNat, by omega, by omega, i3, i4⟩
    rintro k' z s' ⟨j1, j2, j3, j4⟩
    refine ⟨inR_s (by omega) (by omega), inR_s (by omega) (by omega), fun h4 => ?_, fun h4 => ?_⟩
    · rintro x3 rfl
      refine ⟨k - 1, by omega, by omega, by omega, j3, fun w' row' c1 c2 c3 c4 => ?_⟩
      rcases c4 with c | ⟨c, c'⟩
      · by_cases e : w' = y
        · refine j4 w' row' c1 c2 c3 (Or.inr ⟨e, ?_⟩)
          rw [e] at c3; omega
        · exact j4 w' row' c1 c2 c3 (Or.inl (by omega))
      · omega
    · refine c_nobodyWakes (bc.keep (fun d h0 h1 => j3 d (by omega) (by omega) (by omega))) (pc.2.1.keep (j3 17 (by decide) (by decide) (by decide)) (j3 18 (by decide) (by decide) (by decide)) (j3 19 (by decide) (by decide) (by decide))) ok nk (by omega) (by omega) (by omega) (by omega) (fun v u hv fu => ?_)
      have ff : ∀ d, d ≠ 20 → d ≠ 21 → d ≠ 22 → u d = σ d := fun d h0 h1 h2 => (fu d h0 h1 h2).trans (j3 d h0 h1 h2)
      have hv01 : v = 0 ∨ v = 1 := by rcases hv with h | h <;> omega
      refine ⟨inR_s (by omega) (by omega), fun hv0 => ?_, fun hv1 => ?_⟩
      · rintro x4 rfl
        refine ⟨k' - 1, by omega, by omega, by omega, ff, fun w' row' c1 c2 c3 c4 => ?_⟩
        rcases c4 with c | ⟨c, c'⟩
        · exact j4 w' row' c1 c2 c3 (Or.inl c)
        · by_cases e : row' = z
          · rw [c, e]; rw [hv0] at hv; exact RP_not hv
          · exact j4 w' row' c1 c2 c3 (Or.inr ⟨c, by omega⟩)
      · have ev : v = 1 := by omega
        rw [ev] at hv
        rintro s17 rfl s18 rfl
        have e1 : up2 (up2 u 51 1 y) 51 2 z 51 1 = y := by rw [up2_n (by decide), up2_s]
        have e2 : up2 (up2 u 51 1 y) 51 2 z 51 2 = z := by rw [up2_s]
        rw [e1, e2]
        have fin : ∀ v', v' = RV y z i → wp_X12_rhyme n i (up2 (up2 u 51 1 y) 51 2 z) (fun r' u => v' = r' ∧ Rel u) := fun v' e => done v' _ (Or.inl ⟨y, z, by omega, by omega, hv, j4, e⟩) (fun d h0 h1 h2 h3 => by rw [up2_c h3, up2_c h3]; exact ff d h0 h1 h2)
        refine ⟨hi', fun c => fin _ (by unfold RV; rw [if_pos c]), fun c => ⟨inR_s (by omega) (by omega), fun c2 => by omega, fun c2 => ⟨fun c3 => fin _ (by unfold RV; rw [if_neg c, if_neg (by omega)]), fun c3 => ⟨fun c4 => ?_, fun c4 => fin _ (by unfold RV; rw [if_neg c, if_neg (by omega)])⟩⟩⟩⟩
        unfold wp_X11_wordOf
        exact fin _ (by unfold RV; rw [if_neg c, if_pos (by omega)]; rfl)
