theorem pub_morning {a b : Int} (ha : inR a) (hb' : inR b) : Good (fun σ Q => wp_X11_morning a b σ Q) (fun σ Q => wp_X12_morning a b σ Q) := by
  intro σ hR
  have hR' := hR
  obtain ⟨ok, bc, ⟨x, pc, pm⟩, ⟨tr, ir, sr, nr, br⟩⟩ := hR'
  obtain ⟨t1, t2, t3⟩ := nr
  show wp_X11_morning a b σ (fun r t => wp_X12_morning a b t (fun r' u => r = r' ∧ Rel u))
  have m_part : ∀ (t : Mem) (P : Int → Mem → Prop), t 65 = σ 65 → t 67 = σ 67 → (¬ ((0 ≤ a ∧ a < σ 67 2) ∧ (0 ≤ b ∧ b < σ 67 0)) → P (-1000000001) t) → ((0 ≤ a ∧ a < σ 67 2) ∧ (0 ≤ b ∧ b < σ 67 0) → (σ 65 18 = 6 → P (-1000000004) t) ∧ (¬ σ 65 18 = 6 → P (σ 65 18 + 1) (up2 (up2 (up2 t 77 (σ 65 18).toNat a) 78 (σ 65 18).toNat b) 65 18 (σ 65 18 + 1)))) → wp_X12_morning a b t P := by
    intro t P h5 h7 h1 h2
    unfold wp_X12_morning
    refine m_isSleeper (by rw [h7]; exact ok) ha ?_
    rw [h7]
    by_cases q : 0 ≤ a ∧ a < σ 67 2
    · rw [if_pos q]
      refine ⟨inR_s (by omega) (by omega), fun z => absurd z (by decide), fun _ => m_isPlace (by rw [h7]; exact ok) hb' ?_⟩
      rw [h7]
      by_cases q2 : 0 ≤ b ∧ b < σ 67 0
      · rw [if_pos q2, h5]
        obtain ⟨g1, g2⟩ := h2 ⟨q, q2⟩
        refine ⟨inR_s (by omega) (by omega), fun z => absurd z (by decide), fun _ => ⟨inR_s (by omega) (by omega), g1, fun z => ⟨by omega, ?_⟩⟩⟩
        rintro s7 rfl
        rw [up2_c (show (65 : Nat) ≠ 77 by decide), h5]
        refine ⟨by omega, ?_⟩
        rintro s9 rfl s10 rfl
        rw [up2_s, up2_c (show (65 : Nat) ≠ 78 by decide), up2_c (show (65 : Nat) ≠ 77 by decide), h5]
        exact g2 z
      · rw [if_neg q2]
        exact ⟨inR_0, fun _ => h1 (fun y => q2 y.2), fun z => absurd rfl z⟩
    · rw [if_neg q]
      exact ⟨inR_0, fun _ => h1 (fun y => q y.1), fun z => absurd rfl z⟩
  unfold wp_X11_morning
  refine c_hasSleeper bc ok ha ?_
  by_cases q : 0 ≤ a ∧ a < σ 67 2
  · rw [if_pos q]
    refine ⟨inR_s (by omega) (by omega), fun z => absurd z (by decide), fun _ => c_hasPlace bc ok hb' ?_⟩
    by_cases q2 : 0 ≤ b ∧ b < σ 67 0
    · rw [if_pos q2]
      refine ⟨inR_s (by omega) (by omega), fun z => absurd z (by decide), fun _ => ?_⟩
      unfold wp_X9_add
      rw [t1]
      refine ⟨inR_s (by omega) (by omega), fun g1 => ⟨by omega, ?_⟩, fun g1 => ⟨inR_0, fun _ => m_part σ _ rfl rfl (fun y => absurd ⟨q, q2⟩ y) (fun _ => ⟨fun _ => ⟨rfl, hR⟩, fun y => by omega⟩), fun z => absurd rfl z⟩⟩
      rintro s3 rfl
      rw [up2_c (show (60 : Nat) ≠ 61 by decide), t1]
      refine ⟨by omega, ?_⟩
      rintro s5 rfl s6 rfl
      rw [up2_s, up2_c (show (60 : Nat) ≠ 62 by decide), up2_c (show (60 : Nat) ≠ 61 by decide), t1]
      refine ⟨inR_s (by omega) (by omega), fun z => absurd z (by decide), fun _ => m_part _ _ (by simp [up2, upr]) (by simp [up2, upr]) (fun y => absurd ⟨q, q2⟩ y) (fun _ => ⟨fun z => by omega, fun _ => ⟨rfl, ?_⟩⟩)⟩
      generalize hτ : up2 (up2 (up2 (up2 (up2 (up2 σ 61 (σ 65 18).toNat a) 62 (σ 65 18).toNat b) 60 2 (σ 65 18 + 1)) 77 (σ 65 18).toNat a) 78 (σ 65 18).toNat b) 65 18 (σ 65 18 + 1) = τ
      have fr : ∀ d, d ≠ 60 → d ≠ 61 → d ≠ 62 → d ≠ 65 → d ≠ 77 → d ≠ 78 → τ d = σ d := fun d h0 h1 h2 h3 h4 h5 => by rw [← hτ, up2_c h3, up2_c h5, up2_c h4, up2_c h0, up2_c h2, up2_c h1]
      have f65 : ∀ j, j ≠ 18 → τ 65 j = σ 65 j := fun j hj => by rw [← hτ, up2_n hj, up2_c (by decide), up2_c (by decide), up2_c (by decide), up2_c (by decide), up2_c (by decide)]
      have hb : τ 67 = σ 67 := fr 67 (by decide) (by decide) (by decide) (by decide) (by decide) (by decide)
      refine ⟨by rw [hb]; exact ok, ?_, ⟨x, ?_, ?_⟩, ?_, ?_, ?_, ?_, ?_⟩
      · rw [hb]; exact bc.keep (fun d h0 h1 => fr d (by omega) (by omega) (by omega) (by omega) (by omega) (by omega))
      · rw [hb]; exact pc.keep (fr _ (by decide) (by decide) (by decide) (by decide) (by decide) (by decide)) (fr _ (by decide) (by decide) (by decide) (by decide) (by decide) (by decide)) (fr _ (by decide) (by decide) (by decide) (by decide) (by decide) (by decide)) (fr _ (by decide) (by decide) (by decide) (by decide) (by decide) (by decide)) (fr _ (by decide) (by decide) (by decide) (by decide) (by decide) (by decide)) (fr _ (by decide) (by decide) (by decide) (by decide) (by decide) (by decide))
      · exact pm.keep (f65 11 (by decide)) (fr _ (by decide) (by decide) (by decide) (by decide) (by decide) (by decide)) (fr _ (by decide) (by decide) (by decide) (by decide) (by decide) (by decide))
      · exact tr.keep (by rw [fr 8 (by decide) (by decide) (by decide) (by decide) (by decide) (by decide)]) (by rw [fr 8 (by decide) (by decide) (by decide) (by decide) (by decide) (by decide)]) (fr _ (by decide) (by decide) (by decide) (by decide) (by decide) (by decide)) (fr _ (by decide) (by decide) (by decide) (by decide) (by decide) (by decide)) (f65 3 (by decide)) (f65 6 (by decide))
      · exact ir.keep (fr _ (by decide) (by decide) (by decide) (by decide) (by decide) (by decide)) (fr _ (by decide) (by decide) (by decide) (by decide) (by decide) (by decide)) (fr _ (by decide) (by decide) (by decide) (by decide) (by decide) (by decide)) hb
      · exact sr.keep (fr _ (by decide) (by decide) (by decide) (by decide) (by decide) (by decide)) (f65 9 (by decide))
      · have e18 : τ 65 18 = σ 65 18 + 1 := by rw [← hτ, up2_s]
        have e60 : τ 60 2 = σ 65 18 + 1 := by rw [← hτ, up2_c (by decide), up2_c (by decide), up2_c (by decide), up2_s]
        have e61 : ∀ j, τ 61 j = if j = (σ 65 18).toNat then a else σ 61 j := fun j => by rw [← hτ, up2_c (by decide), up2_c (by decide), up2_c (by decide), up2_c (by decide), up2_c (by decide), up2_e]
        have e62 : ∀ j, τ 62 j = if j = (σ 65 18).toNat then b else σ 62 j := fun j => by rw [← hτ, up2_c (by decide), up2_c (by decide), up2_c (by decide), up2_c (by decide), up2_e, up2_c (by decide)]
        have e77 : ∀ j, τ 77 j = if j = (σ 65 18).toNat then a else σ 77 j := fun j => by rw [← hτ, up2_c (by decide), up2_c (by decide), up2_e, up2_c (by decide), up2_c (by decide), up2_c (by decide)]
        have e78 : ∀ j, τ 78 j = if j = (σ 65 18).toNat then b else σ 78 j := fun j => by rw [← hτ, up2_c (by decide), up2_e, up2_c (by decide), up2_c (by decide), up2_c (by decide), up2_c (by decide)]
        refine ⟨by rw [e18, e60], by rw [e18]; omega, fun i h0 h1 => ?_⟩
        rw [e18] at h1
        rw [e61, e62, e77, e78, hb]
        by_cases hi : i = σ 65 18
        · rw [if_pos (by rw [hi]), if_pos (by rw [hi]), if_pos (by rw [hi]), if_pos (by rw [hi])]; exact ⟨rfl, rfl, q, q2⟩
        · rw [if_neg (by omega), if_neg (by omega), if_neg (by omega), if_neg (by omega)]; exact t3 i h0 (by omega)
      · exact br.keep (fr _ (by decide) (by decide) (by decide) (by decide) (by decide) (by decide)) (fr _ (by decide) (by decide) (by decide) (by decide) (by decide) (by decide)) (fr _ (by decide) (by decide) (by decide) (by decide) (by decide) (by decide)) (f65 21 (by decide))
    · rw [if_neg q2]
      exact ⟨inR_0, fun _ => m_part σ _ rfl rfl (fun _ => ⟨rfl, hR⟩) (fun y => absurd y.2 q2), fun z => absurd rfl z⟩
  · rw [if_neg q]
    exact ⟨inR_0, fun _ => m_part σ _ rfl rfl (fun _ => ⟨rfl, hR⟩) (fun y => absurd y.1 q), fun z => absurd rfl z⟩
/-! hours by the law -/
def itN (b : Nat → Int) : Nat → PS → PS
  | 0, x => x
  | n + 1, x => stp b (lawW b (itN b n x).2.2) (itN b n x)
theorem itN_hrs (b : Nat → Int) (x : PS) : ∀ n : Nat, (itN b n x).2.2 0 = x.2.2 0 + n
  | 0 => by simp [itN]
  | n + 1 => by
    show goesR b (itN b n x).2.2 (lawW b (itN b n x).2.2) 0 = _
    rw [goesR_0, itN_hrs b x n]
    omega
/-- the relation again, behind a call that moved night and past alone -/
theorem Rel.of {σ t u : Mem} {x : PS} (ok : BedOk (σ 67)) (rs : Rest σ) (bc : BedC σ (σ 67)) (pt : PSc t (σ 67) x) (pu : PSm u x) (ft : ∀ d, d ≠ 17 → d ≠ 18 → d ≠ 19 → d ≠ 23 → d ≠ 24 → d ≠ 25 → t d = σ d) (fu : ∀ d, d ≠ 65 → d ≠ 69 → d ≠ 70 → d ≠ 71 → u d = t d) (gu : ∀ j, j ≠ 11 → u 65 j = t 65 j) : Rel u := by
  have f : ∀ d, d ≠ 17 → d ≠ 18 → d ≠ 19 → d ≠ 23 → d ≠ 24 → d ≠ 25 → d ≠ 65 → d ≠ 69 → d ≠ 70 → d ≠ 71 → u d = σ d := fun d h1 h2 h3 h4 h5 h6 h7 h8 h9 h10 => (fu d h7 h8 h9 h10).trans (ft d h1 h2 h3 h4 h5 h6)
  have t65 : t 65 = σ 65 := ft 65 (by decide) (by decide) (by decide) (by decide) (by decide) (by decide)
  have u7 : u 67 = σ 67 := f 67 (by decide) (by decide) (by decide) (by decide) (by decide) (by decide) (by decide) (by decide) (by decide) (by decide)
  have u8 : u 8 = σ 8 := f 8 (by decide) (by decide) (by decide) (by decide) (by decide) (by decide) (by decide) (by decide) (by decide) (by decide)
  refine ⟨by rw [u7]; exact ok, ?_, ⟨x, ?_, pu⟩, rs.keep ⟨fun d hd => ?_, ⟨by rw [u8], by rw [u8]⟩, ?_, ?_, ?_, ?_, ?_, ?_⟩⟩
  · rw [u7]; exact bc.keep (fun d h0 h1 => f d (by omega) (by omega) (by omega) (by omega) (by omega) (by omega) (by omega) (by omega) (by omega) (by omega))
  · rw [u7]; exact pt.keep (fu 17 (by decide) (by decide) (by decide) (by decide)) (fu 18 (by decide) (by decide) (by decide) (by decide)) (fu 19 (by decide) (by decide) (by decide) (by decide)) (fu 23 (by decide) (by decide) (by decide) (by decide)) (fu 24 (by decide) (by decide) (by decide) (by decide)) (fu 25 (by decide) (by decide) (by decide) (by decide))
  · exact f d (by rintro rfl; exact absurd hd (by decide)) (by rintro rfl; exact absurd hd (by decide)) (by rintro rfl; exact absurd hd (by decide)) (by rintro rfl; exact absurd hd (by decide)) (by rintro rfl; exact absurd hd (by decide)) (by rintro rfl; exact absurd hd (by decide)) (by rintro rfl; exact absurd hd (by decide)) (by rintro rfl; exact absurd hd (by decide)) (by rintro rfl; exact absurd hd (by decide)) (by rintro rfl; exact absurd hd (by decide))
  · rw [f 60 (by decide) (by decide) (by decide) (by decide) (by decide) (by decide) (by decide) (by decide) (by decide) (by decide)]
  · rw [gu 3 (by decide), t65]
  · rw [gu 6 (by decide), t65]
  · rw [gu 9 (by decide), t65]
  · rw [gu 18 (by decide), t65]
  · rw [gu 21 (by decide), t65]
theorem pub_night {n : Int} (hn' : inR n) : Good (fun σ Q => wp_X11_night n σ Q) (fun σ Q => wp_X12_night n σ Q) := by
  intro σ hR
  have hR' := hR
  obtain ⟨ok, bc, ⟨x, pc, pm⟩, rs⟩ := hR'
  show wp_X11_night n σ (fun r t => wp_X12_night n t (fun r' u => r = r' ∧ Rel u))
  obtain ⟨m1, m2, m3⟩ := pm
  have p4 := pc.2.2.2
  have hx0 : 0 ≤ x.2.2 0 := p4.1
  have m_part : ∀ (t : Mem) (P : Int → Mem → Prop), t 65 = σ 65 → t 67 = σ 67 → t 69 = σ 69 → t 71 = σ 71 → (∀ k : Nat, NightOk (σ 67) (itN (σ 67) k x).2.2) → (¬ (1 ≤ n ∧ n ≤ 99) → P (-1000000002) t) → ((1 ≤ n ∧ n ≤ 99) → ¬ refV (σ 67) x.2.2 = 0 → P (refV (σ 67) x.2.2) t) → ((1 ≤ n ∧ n ≤ 99) → refV (σ 67) x.2.2 = 0 → ∀ u : Mem, PSm u (itN (σ 67) n.toNat x) → (∀ d, d ≠ 65 → d ≠ 69 → d ≠ 70 → d ≠ 71 → u d = t d) → (∀ j, j ≠ 11 → u 65 j = t 65 j) → P (coldV (σ 67) (itN (σ 67) n.toNat x).2.2) u) → wp_X12_night n t P := by
    intro t P h5 h7 h9 h71 hnk g1 g2 g3
    unfold wp_X12_night
    refine ⟨hn', m_in hn' (inR_s (by omega) (by omega)) (inR_s (by omega) (by omega)) ?_⟩
    by_cases q : 1 ≤ n ∧ n ≤ 99
    · rw [if_pos q]
      refine ⟨inR_s (by omega) (by omega), fun z => absurd z (by decide), fun _ => m_refusal (by rw [h7]; exact ok) (by rw [h9, m3]; exact p4) ?_⟩
      rw [h7, h9, m3]
      by_cases hz : refV (σ 67) x.2.2 = 0
      · rw [hz]
        obtain ⟨z1, z2⟩ := refV_0 hz
        have hN : 2 ≤ σ 67 0 := by have := ok.1; omega
        refine ⟨inR_0, fun _ => ?_, fun z => absurd (Int.le_refl 0) z⟩
        refine ⟨fun k y v => ∃ i : Nat, y = (i : Int) ∧ (i : Int) ≤ n ∧ (k : Int) + i = n ∧ PSm v (itN (σ 67) i x) ∧ (∀ d, d ≠ 65 → d ≠ 69 → d ≠ 70 → d ≠ 71 → v d = t d) ∧ (∀ j, j ≠ 11 → v 65 j = t 65 j), ?_, n.toNat, 0, rfl, by omega, by omega, PSm.keep ⟨m1, m2, m3⟩ (by rw [h5]) h9 h71, fun _ _ _ _ _ => rfl, fun _ _ => rfl⟩
        rintro k y v ⟨i, rfl, i1, i2, i3, i4, i5⟩
        have v7 : v 67 = σ 67 := (i4 67 (by decide) (by decide) (by decide) (by decide)).trans h7
        refine ⟨inR_s (by omega) (by omega), fun h => ?_, fun h => ?_⟩
        · refine m_coldest (by rw [v7]; exact ok) (by rw [v7, i3.2.2]; exact hnk i) ?_
          have e : i = n.toNat := by omega
          rw [v7, i3.2.2, e]
          rw [e] at i3
          exact g3 q hz v i3 i4 i5
        · have hr0 : (itN (σ 67) i x).2.2 0 = x.2.2 0 + i := itN_hrs _ _ _
          have hl := lawW_in (r := (itN (σ 67) i x).2.2) ok
          refine m_goOn (x := itN (σ 67) i x) (w := lawW (σ 67) (itN (σ 67) i x).2.2) (Q := fun s12 => ∀ x2_13 : Int, x2_13 = (i : Int) + 1 → ∃ k14, k14 < k ∧ ∃ i : Nat, x2_13 = (i : Int) ∧ (i : Int) ≤ n ∧ (k14 : Int) + i = n ∧ PSm s12 (itN (σ 67) i x) ∧ (∀ d, d ≠ 65 → d ≠ 69 → d ≠ 70 → d ≠ 71 → s12 d = t d) ∧ (∀ j, j ≠ 11 → s12 65 j = t 65 j)) (Q2 := fun s10 Q' => wp_X12_lawful s10 (fun r11 => wp_X12_goesOn r11 s10 Q')) (by rw [v7]; exact ok) i3 (by rw [v7]; exact hnk i) (inR_s (by omega) (by omega)) (Or.inl (by rw [v7]; exact hN)) (fun w e7 e9 _ _ Q' hgo => ?_) (fun u pu fu gu => ?_)
          · refine m_lawful (by rw [e7, v7]; exact ok) (by rw [e9, i3.2.2, hr0]; exact ⟨inR_s (by omega) (by omega), by omega⟩) ?_
            rw [e7, e9, v7, i3.2.2]
            exact hgo
          · rw [v7] at pu
            rintro x2 rfl
            exact ⟨k - 1, by omega, i + 1, by omega, by omega, by omega, pu, fun d h0 h1 h2 h3 => (fu d h0 h1 h2 h3).trans (i4 d h0 h1 h2 h3), fun j hj => (gu j hj).trans (i5 j hj)⟩
      · have := refV_ne hz
        refine ⟨this.2, fun z => by omega, fun _ => m_refusal (by rw [h7]; exact ok) (by rw [h9, m3]; exact p4) ?_⟩
        rw [h7, h9, m3]
        exact g2 q hz
    · rw [if_neg q]
      exact ⟨inR_0, fun _ => g1 q, fun z => absurd rfl z⟩
  have hnk : ∀ k : Nat, NightOk (σ 67) (itN (σ 67) k x).2.2 := by
    intro k
    induction k with
    | zero => exact pc.2.2.1
    | succ k ih => exact ih.goes ok _
  unfold wp_X11_night
  refine ⟨hn', fun h => m_part σ _ rfl rfl rfl rfl hnk (fun _ => ⟨rfl, hR⟩) (fun q => by omega) (fun q => by omega), fun h => ⟨fun g => ?_, fun g => m_part σ _ rfl rfl rfl rfl hnk (fun _ => ⟨rfl, hR⟩) (fun q => by omega) (fun q => by omega)⟩⟩
  refine c_hoursRefused bc pc.2.1 ok p4 ?_
  by_cases hz : refV (σ 67) x.2.2 = 0
  · rw [hz]
    obtain ⟨z1, z2⟩ := refV_0 hz
    refine ⟨inR_0, fun _ => ?_, fun z => absurd rfl z⟩
    refine ⟨fun k y v => ∃ i : Nat, y = (i : Int) ∧ (i : Int) ≤ n ∧ (k : Int) + i = n ∧ PSc v (σ 67) (itN (σ 67) i x) ∧ (∀ d, d ≠ 17 → d ≠ 18 → d ≠ 19 → d ≠ 23 → d ≠ 24 → d ≠ 25 → v d = σ d), ?_, n.toNat, 0, rfl, by omega, by omega, pc, fun _ _ _ _ _ _ _ => rfl⟩
    rintro k y v ⟨i, rfl, i1, i2, i3, i4⟩
    have bv : BedC v (σ 67) := bc.keep (fun d h0 h1 => i4 d (by omega) (by omega) (by omega) (by omega) (by omega) (by omega))
    have hr0 : (itN (σ 67) i x).2.2 0 = x.2.2 0 + i := itN_hrs _ _ _
    refine ⟨inR_s (by omega) (by omega), fun h3 => ?_, fun h3 => ?_⟩
    · refine c_coldest bv i3.2.1 ok i3.2.2.1 ?_
      have e : i = n.toNat := by omega
      rw [e] at i3 ⊢
      refine m_part v _ (i4 _ (by decide) (by decide) (by decide) (by decide) (by decide) (by decide)) (i4 _ (by decide) (by decide) (by decide) (by decide) (by decide) (by decide)) (i4 _ (by decide) (by decide) (by decide) (by decide) (by decide) (by decide)) (i4 _ (by decide) (by decide) (by decide) (by decide) (by decide) (by decide)) hnk (fun q => by omega) (fun _ q => absurd hz q) (fun _ _ u pu fu gu => ⟨rfl, Rel.of ok rs bc i3 pu i4 fu gu⟩)
    · rw [i3.2.1.1]
      have hl := lawW_in (r := (itN (σ 67) i x).2.2) ok
      refine c_lawAt bv ok (by rw [hr0]; exact ⟨inR_s (by omega) (by omega), by omega⟩) ?_
      refine c_goOn ok bv i3 (inR_s (by unfold lawW at hl; omega) (by unfold lawW at hl; omega)) (by omega) (fun w pw fw => ?_)
      rintro x3 rfl
      exact ⟨k - 1, by omega, i + 1, by omega, by omega, by omega, pw, fun d h0 h1 h2 h3 h4 h5 => (fw d h0 h1 h2 h3 h4 h5).trans (i4 d h0 h1 h2 h3 h4 h5)⟩
  · have hne := refV_ne hz
    exact ⟨hne.2, fun z => absurd z hz, fun _ => m_part σ _ rfl rfl rfl rfl hnk (fun q => by omega) (fun _ _ => ⟨rfl, hR⟩) (fun _ q => absurd q hz)⟩
