/-! ===== what is tried ===== -/
theorem m_asides {σ : Mem} {Q : Mem → Prop} (hq : ∀ σ' : Mem, (∀ d, d ≠ 72 → σ' d = σ d) → (∀ j : Nat, j < 13 → σ' 72 j = σ 69 j) → Q σ') : wp_X12_asides σ Q := by
  unfold wp_X12_asides
  refine ⟨fun k y s => 0 ≤ y ∧ y ≤ 13 ∧ (k : Int) + y = 13 ∧ (∀ d, d ≠ 72 → s d = σ d) ∧ ∀ j : Nat, (j : Int) < y → s 72 j = σ 69 j, ?_, 13, by omega, by omega, by omega, fun _ _ => rfl, fun j hj => by omega⟩
  rintro k y s ⟨i1, i2, i3, i4, i5⟩
  refine ⟨inR_s (by omega) (by omega), fun h => hq s i4 (fun j hj => i5 j (by omega)), fun h => ⟨by omega, ?_⟩⟩
  rintro s5 rfl x1 rfl
  refine ⟨k - 1, by omega, by omega, by omega, by omega, fun d hd => by rw [up2_c hd]; exact i4 d hd, fun j hj => ?_⟩
  rw [up2_e]
  by_cases hj2 : j = y.toNat
  · rw [if_pos hj2, i4 69 (by decide), hj2]
  · rw [if_neg hj2]; exact i5 j (by omega)
theorem m_backs {σ : Mem} {r : Nat → Int} {Q : Mem → Prop} (h1 : ∀ j : Nat, j < 13 → σ 72 j = r j) (h2 : ∀ j : Nat, 13 ≤ j → σ 69 j = r j) (hq : ∀ σ' : Mem, (∀ d, d ≠ 69 → σ' d = σ d) → σ' 69 = r → Q σ') : wp_X12_backs σ Q := by
  unfold wp_X12_backs
  refine ⟨fun k y s => 0 ≤ y ∧ y ≤ 13 ∧ (k : Int) + y = 13 ∧ (∀ d, d ≠ 69 → s d = σ d) ∧ ∀ j : Nat, s 69 j = if (j : Int) < y then r j else σ 69 j, ?_, 13, by omega, by omega, by omega, fun _ _ => rfl, fun j => by rw [if_neg (by omega)]⟩
  rintro k y s ⟨i1, i2, i3, i4, i5⟩
  refine ⟨inR_s (by omega) (by omega), fun h => hq s i4 ?_, fun h => ⟨by omega, ?_⟩⟩
  · funext j
    rw [i5]
    by_cases hj : j < 13
    · rw [if_pos (by omega)]
    · rw [if_neg (by omega)]; exact h2 j (by omega)
  · rintro s5 rfl x1 rfl
    refine ⟨k - 1, by omega, by omega, by omega, by omega, fun d hd => by rw [up2_c hd]; exact i4 d hd, fun j => ?_⟩
    rw [up2_e]
    by_cases hj2 : j = y.toNat
    · rw [if_pos hj2, if_pos (by omega), i4 72 (by decide), ← hj2]; exact h1 j (by omega)
    · rw [if_neg hj2, i5]
      by_cases hj3 : (j : Int) < y
      · rw [if_pos hj3, if_pos (by omega)]
      · rw [if_neg hj3, if_neg (by omega)]
theorem goesR_hi {b r : Nat → Int} (ok : BedOk b) {w : Int} {j : Nat} (h : 13 ≤ j) : goesR b r w j = r j := by
  have hn := ok.n6
  have h6 := ok.s6
  unfold goesR up1 warmR turnsR
  rw [if_neg (by omega), if_neg (by omega), if_neg (by omega)]
def jk (d : Nat) : Prop := (20 ≤ d ∧ d ≤ 22) ∨ (29 ≤ d ∧ d ≤ 60) ∨ d = 65 ∨ d = 70 ∨ (72 ≤ d ∧ d ≤ 76)
theorem Rel.tried {σ u : Mem} (h : Rel σ) (f : ∀ d, ¬ jk d → u d = σ d) (h60 : u 60 2 = σ 60 2) (h65 : u 65 3 = σ 65 3 ∧ u 65 6 = σ 65 6 ∧ u 65 9 = σ 65 9 ∧ u 65 11 = σ 65 11 ∧ u 65 18 = σ 65 18 ∧ u 65 21 = σ 65 21) : Rel u := by
  obtain ⟨ok, bc, ⟨x, pc, pm⟩, rs⟩ := h
  obtain ⟨a3, a6, a9, a11, a18, a21⟩ := h65
  have u7 : u 67 = σ 67 := f 67 (by unfold jk; omega)
  have u8 : u 8 = σ 8 := f 8 (by unfold jk; omega)
  refine ⟨by rw [u7]; exact ok, ?_, ⟨x, ?_, ?_⟩, rs.keep ⟨fun d hd => ?_, ⟨by rw [u8], by rw [u8]⟩, h60, a3, a6, a9, a18, a21⟩⟩
  · rw [u7]; exact bc.keep (fun d h0 h1 => f d (by unfold jk; omega))
  · rw [u7]; exact pc.keep (f _ (by unfold jk; omega)) (f _ (by unfold jk; omega)) (f _ (by unfold jk; omega)) (f _ (by unfold jk; omega)) (f _ (by unfold jk; omega)) (f _ (by unfold jk; omega))
  · exact pm.keep a11 (f _ (by unfold jk; omega)) (f _ (by unfold jk; omega))
  · refine f d ?_
    unfold relR at hd
    have := List.contains_iff_mem.mp hd
    unfold jk
    simp only [List.mem_cons, List.not_mem_nil, or_false] at this
    omega
/-! images -/
theorem pub_keep {a : Int} (ha : inR a) : Good (fun σ Q => wp_X11_keep a σ Q) (fun σ Q => wp_X12_keep a σ Q) := by
  intro σ hR
  have hR' := hR
  obtain ⟨ok, bc, ⟨x, pc, pm⟩, ⟨tr, ir, sr, nr, br⟩⟩ := hR'
  show wp_X11_keep a σ (fun r t => wp_X12_keep a t (fun r' u => r = r' ∧ Rel u))
  have m_part : ∀ (t : Mem) (P : Int → Mem → Prop), (¬ (0 ≤ a ∧ a ≤ 1) → P (-1000000001) t) → ((0 ≤ a ∧ a ≤ 1) → ∀ u : Mem, (∀ d, d ≠ 65 → d ≠ 80 → u d = t d) → (∀ j, j ≠ 11 → u 65 j = t 65 j) → u 65 11 = 0 → (∀ q : Int, 0 ≤ q → u 80 q.toNat = if q = 15 * a then 1 else if q = 15 * a + 1 then t 65 9 else if 15 * a + 2 ≤ q ∧ q < 15 * a + 15 then t 69 (q - (15 * a + 2)).toNat else t 80 q.toNat) → P 1 u) → wp_X12_keep a t P := by
    intro t P g1 g2
    unfold wp_X12_keep
    refine ⟨ha, m_in ha inR_0 (inR_s (by omega) (by omega)) ?_⟩
    by_cases q : 0 ≤ a ∧ a ≤ 1
    · rw [if_pos q]
      refine ⟨inR_s (by omega) (by omega), fun z => absurd z (by decide), fun _ => ⟨by omega, ?_⟩⟩
      rintro s5 rfl
      refine ⟨by omega, ?_⟩
      rintro s7 rfl
      rw [up2_c (show (65 : Nat) ≠ 80 by decide)]
      refine ⟨fun k y s => 0 ≤ y ∧ y ≤ 13 ∧ (k : Int) + y = 13 ∧ (∀ d, d ≠ 80 → s d = t d) ∧ ∀ z : Int, 0 ≤ z → s 80 z.toNat = if z = 15 * a then 1 else if z = 15 * a + 1 then t 65 9 else if 15 * a + 2 ≤ z ∧ z < 15 * a + 2 + y then t 69 (z - (15 * a + 2)).toNat else t 80 z.toNat, ?_, 13, by omega, by omega, by omega, fun d hd => by rw [up2_c hd, up2_c hd], fun z hz => ?_⟩
      · rintro k y s ⟨i1, i2, i3, i4, i5⟩
        refine ⟨inR_s (by omega) (by omega), fun h => ?_, fun h => ⟨by omega, by omega, ?_⟩⟩
        · rintro s11 rfl
          refine g2 q _ (fun d h0 h1 => by rw [up2_c h0]; exact i4 d h1) (fun j hj => by rw [up2_n hj, i4 65 (by decide)]) (by rw [up2_s]) (fun z hz => ?_)
          rw [up2_c (by decide), i5 z hz]
          have e : (15 * a + 2 ≤ z ∧ z < 15 * a + 2 + y) ↔ (15 * a + 2 ≤ z ∧ z < 15 * a + 15) := by omega
          by_cases c1 : z = 15 * a
          · rw [if_pos c1, if_pos c1]
          · rw [if_neg c1, if_neg c1]
            by_cases c2 : z = 15 * a + 1
            · rw [if_pos c2, if_pos c2]
            · rw [if_neg c2, if_neg c2]
              by_cases c3 : 15 * a + 2 ≤ z ∧ z < 15 * a + 15
              · rw [if_pos (e.mpr c3), if_pos c3]
              · rw [if_neg (fun w => c3 (e.mp w)), if_neg c3]
        · rintro s14 rfl x2 rfl
          refine ⟨k - 1, by omega, by omega, by omega, by omega, fun d hd => by rw [up2_c hd]; exact i4 d hd, fun z hz => ?_⟩
          rw [up2_e, i4 69 (by decide)]
          by_cases c0 : z = 15 * a + 2 + y
          · rw [if_pos (by rw [c0]), if_neg (by omega), if_neg (by omega), if_pos (by omega)]
            congr 1
            omega
          · rw [if_neg (by omega), i5 z hz]
            by_cases c1 : z = 15 * a
            · rw [if_pos c1, if_pos c1]
            · rw [if_neg c1, if_neg c1]
              by_cases c2 : z = 15 * a + 1
              · rw [if_pos c2, if_pos c2]
              · rw [if_neg c2, if_neg c2]
                by_cases c3 : 15 * a + 2 ≤ z ∧ z < 15 * a + 2 + y
                · rw [if_pos c3, if_pos (by omega)]
                · rw [if_neg c3, if_neg (by omega)]
      · rw [up2_e, up2_e]
        by_cases c2 : z = 15 * a + 1
        · rw [if_pos (by rw [c2]), if_neg (by omega), if_pos c2]
        · rw [if_neg (by omega)]
          by_cases c1 : z = 15 * a
          · rw [if_pos (by rw [c1]), if_pos c1]
          · rw [if_neg (by omega), if_neg c1, if_neg c2, if_neg (by omega)]
    · rw [if_neg q]
      exact ⟨inR_0, fun _ => g1 q, fun z => absurd rfl z⟩
  unfold wp_X11_keep
  refine ⟨ha, fun h => m_part σ _ (fun _ => ⟨rfl, hR⟩) (fun q => by omega), fun h => ⟨fun h2 => ⟨by omega, ?_⟩, fun h2 => m_part σ _ (fun _ => ⟨rfl, hR⟩) (fun q => by omega)⟩⟩
  obtain ⟨i, hi, rfl⟩ : ∃ i : Nat, i < 2 ∧ a = (i : Int) := ⟨a.toNat, by omega, by omega⟩
  rw [show (27 + (i : Int).toNat) = 27 + i by omega]
  unfold wp_X2_take
  rintro s1 rfl
  have hne : 27 + i ≠ 17 ∧ 27 + i ≠ 18 ∧ 27 + i ≠ 19 := by omega
  refine c_code (r := x.2.2) (b := σ 67) (pc.2.1.keep (up2_c hne.1.symm) (up2_c hne.2.1.symm) (up2_c hne.2.2.symm)) ok pc.2.2.1 ?_
  rintro s3 rfl s4 rfl s5 rfl
  unfold wp_X5_forget
  rintro s6 rfl
  rw [up2_c hne.1.symm, up2_c hne.1.symm, pc.2.1.1, sr.1]
  generalize hτ : up2 (up2 (up2 (up2 (up2 σ (27 + i) 0 1) (27 + i) 1 (codeN x.2.2 6)) (27 + i) 2 (x.2.2 0)) (27 + i) 3 (σ 65 9)) 23 2 0 = τ
  have fr : ∀ d, d ≠ 27 + i → d ≠ 23 → τ d = σ d := fun d h0 h1 => by rw [← hτ, up2_c h1, up2_c h0, up2_c h0, up2_c h0, up2_c h0]
  have k0 : τ (27 + i) 0 = 1 := by rw [← hτ, up2_c (by omega), up2_n (by decide), up2_n (by decide), up2_n (by decide), up2_s]
  have k1 : τ (27 + i) 1 = codeN x.2.2 6 := by rw [← hτ, up2_c (by omega), up2_n (by decide), up2_n (by decide), up2_s]
  have k2 : τ (27 + i) 2 = x.2.2 0 := by rw [← hτ, up2_c (by omega), up2_n (by decide), up2_s]
  have k3 : τ (27 + i) 3 = σ 65 9 := by rw [← hτ, up2_c (by omega), up2_s]
  have p2 : τ 23 2 = 0 := by rw [← hτ, up2_s]
  have p3 : τ 23 3 = σ 23 3 := by rw [← hτ, up2_n (by decide), up2_c (by omega), up2_c (by omega), up2_c (by omega), up2_c (by omega)]
  have t65 : τ 65 = σ 65 := fr 65 (by omega) (by omega)
  have t69 : τ 69 = x.2.2 := (fr 69 (by omega) (by omega)).trans pm.2.2
  have t80 : τ 80 = σ 80 := fr 80 (by omega) (by omega)
  refine m_part τ _ (fun q => by omega) (fun _ u fu gu u11 u80 => ⟨rfl, ?_⟩)
  have f : ∀ d, d ≠ 27 + i → d ≠ 23 → d ≠ 65 → d ≠ 80 → u d = σ d := fun d h0 h1 h2 h3 => (fu d h2 h3).trans (fr d h0 h1)
  have g' : ∀ j, j ≠ 11 → u 65 j = σ 65 j := fun j hj => by rw [gu j hj, t65]
  have u7 : u 67 = σ 67 := f 67 (by omega) (by omega) (by omega) (by omega)
  have u8 : u 8 = σ 8 := f 8 (by omega) (by omega) (by omega) (by omega)
  have u69 : u 69 = x.2.2 := (fu 69 (by decide) (by decide)).trans t69
  refine ⟨by rw [u7]; exact ok, by rw [u7]; exact bc.keep (fun d h0 h1 => f d (by omega) (by omega) (by omega) (by omega)), ⟨(0, x.2.1, x.2.2), ?_, ?_⟩, ?_, ?_, ?_, ?_, ?_⟩
  · rw [u7]
    refine ⟨⟨by rw [fu 23 (by decide) (by decide)]; exact p2, by show (0 : Int) ≤ 0 ∧ (0 : Int) ≤ 30; omega, by rw [fu 23 (by decide) (by decide), p3]; exact pc.1.2.2.1, fun z h0 h1 => by have : z < 0 := h1; omega⟩, pc.2.1.keep (f 17 (by omega) (by omega) (by omega) (by omega)) (f 18 (by omega) (by omega) (by omega) (by omega)) (f 19 (by omega) (by omega) (by omega) (by omega)), pc.2.2⟩
  · exact ⟨⟨u11, fun z h0 h1 => by have : z < 0 := h1; omega⟩, by show (0 : Int) ≤ 0 ∧ (0 : Int) ≤ 30; omega, u69⟩
  · exact tr.keep (by rw [u8]) (by rw [u8]) (f 9 (by omega) (by omega) (by omega) (by omega)) (f 68 (by omega) (by omega) (by omega) (by omega)) (g' 3 (by decide)) (g' 6 (by decide))
  · intro l hl
    have e80 : ∀ z : Nat, u 80 z = if (z : Int) = 15 * (i : Int) then 1 else if (z : Int) = 15 * (i : Int) + 1 then τ 65 9 else if 15 * (i : Int) + 2 ≤ (z : Int) ∧ (z : Int) < 15 * (i : Int) + 15 then τ 69 ((z : Int) - (15 * (i : Int) + 2)).toNat else τ 80 z := fun z => u80 (z : Int) (by omega)
    by_cases hli : l = i
    · rw [hli]
      have er : NightEq x.2.2 (imgRow u i) := by
        intro j hj
        show _ = u 80 (15 * i + 2 + j)
        rw [e80, if_neg (by omega), if_neg (by omega), if_pos (by omega), t69, show (((15 * i + 2 + j : Nat) : Int) - (15 * (i : Int) + 2)).toNat = j by omega]
      have a0 : u 80 (15 * i) = 1 := by rw [e80, if_pos (by omega)]
      have a1 : u 80 (15 * i + 1) = σ 65 9 := by rw [e80, if_neg (by omega), if_pos (by omega), t65]
      rw [a0, a1, u7]
      refine ⟨by rw [fu (27 + i) (by omega) (by omega)]; exact k0, Or.inr rfl, fun _ => ⟨pc.2.2.1.congr er, pc.2.2.2.congr er, sr.2, ?_, ?_, ?_⟩⟩
      · rw [fu (27 + i) (by omega) (by omega), k1]; exact codeN_congr er 6 (by omega)
      · rw [fu (27 + i) (by omega) (by omega), k2]; exact er 0 (by omega)
      · rw [fu (27 + i) (by omega) (by omega), k3]
    · have em : ∀ z : Nat, 15 * l ≤ z → z < 15 * l + 15 → u 80 z = σ 80 z := fun z h0 h1 => by
        rw [e80, if_neg (by omega), if_neg (by omega), if_neg (by omega), t80]
      have er : NightEq (imgRow σ l) (imgRow u l) := fun j hj => (em _ (by omega) (by omega)).symm
      obtain ⟨c1, c2, c3⟩ := ir l hl
      rw [em _ (by omega) (by omega), em (15 * l + 1) (by omega) (by omega), u7]
      unfold ImgC
      rw [f (27 + l) (by omega) (by omega) (by omega) (by omega)]
      refine ⟨c1, c2, fun hk => ?_⟩
      obtain ⟨d1, d2, d3, d4, d5, d6⟩ := c3 hk
      exact ⟨d1.congr er, d2.congr er, d3, by rw [d4]; exact codeN_congr er 6 (by omega), by rw [d5]; exact er 0 (by omega), d6⟩
  · exact sr.keep (f 0 (by omega) (by omega) (by omega) (by omega)) (g' 9 (by decide))
  · exact nr.keep (by rw [f 60 (by omega) (by omega) (by omega) (by omega)]) (f 61 (by omega) (by omega) (by omega) (by omega)) (f 62 (by omega) (by omega) (by omega) (by omega)) (f 77 (by omega) (by omega) (by omega) (by omega)) (f 78 (by omega) (by omega) (by omega) (by omega)) (g' 18 (by decide)) u7
  · exact br.keep (f 63 (by omega) (by omega) (by omega) (by omega)) (f 64 (by omega) (by omega) (by omega) (by omega)) (f 79 (by omega) (by omega) (by omega) (by omega)) (g' 21 (by decide))
