theorem night_in {b t : Nat → Int} (ok : BedOk b) (nk : NightOk b t) {e : Nat} (h0 : 1 ≤ e) (h1 : e ≤ 12) : -1 ≤ t e ∧ t e ≤ 99 := by
  have h6 := ok.s6
  by_cases c : e ≤ 6
  · have := (nk.1 ((e : Int) - 1) (by omega) (by omega)).1
    unfold whoOf at this
    rw [show (1 + ((e : Int) - 1)).toNat = e by omega] at this
    omega
  · have := (nk.1 ((e : Int) - 7) (by omega) (by omega)).2.2
    unfold warmOf at this
    rw [show (7 + ((e : Int) - 7)).toNat = e by omega] at this
    omega
theorem code_row {b t u : Nat → Int} (ok : BedOk b) (nt : NightOk b t) (nu : NightOk b u) : codeN t 6 = codeN u 6 ↔ ∀ e : Nat, 1 ≤ e → e ≤ 12 → t e = u e := by
  rw [codeN_inj ok nt ok nu 6 (Nat.le_refl _)]
  constructor
  · intro h e h0 h1
    by_cases c : e ≤ 6
    · have := (h ((e : Int) - 1) (by omega) (by omega)).1
      unfold whoOf at this
      rw [show (1 + ((e : Int) - 1)).toNat = e by omega] at this
      exact this
    · have := (h ((e : Int) - 7) (by omega) (by omega)).2
      unfold warmOf at this
      rw [show (7 + ((e : Int) - 7)).toNat = e by omega] at this
      exact this
  · intro h p h0 h1
    exact ⟨h _ (by omega) (by omega), h _ (by omega) (by omega)⟩
theorem m_isState {σ : Mem} {b t u : Nat → Int} {i : Nat} {Q : Int → Prop} (ok : BedOk b) (nt : NightOk b t) (nu : NightOk b u) (hi : i ≤ 200) (h76 : ∀ e : Nat, 1 ≤ e → e ≤ 12 → σ 76 (12 * i + e - 1) = t e) (h69 : σ 69 = u) (hq : Q (if codeN t 6 = codeN u 6 then 1 else 0)) : wp_X12_isState (i : Int) σ Q := by
  unfold wp_X12_isState
  rw [h69]
  refine ⟨fun k y2 y3 => ∃ e : Nat, y3 = (e : Int) ∧ (1 ≤ e ∧ e ≤ 13) ∧ k + e = 13 ∧ ((y2 = 1 ∧ ∀ e' : Nat, 1 ≤ e' → e' < e → t e' = u e') ∨ (y2 = 0 ∧ ∃ e' : Nat, 1 ≤ e' ∧ e' ≤ 12 ∧ t e' ≠ u e')), ?_, 12, 1, rfl, by omega, rfl, Or.inl ⟨rfl, fun e' h0 h1 => by omega⟩⟩
  rintro k y2 y3 ⟨e, rfl, e1, e2, e3⟩
  have hy : y2 = 0 ∨ y2 = 1 := by rcases e3 with h | h <;> omega
  refine ⟨inR_s (by omega) (by omega), fun h => ⟨hy, ?_⟩, fun h => ⟨inR_s (by omega) (by omega), ?_⟩⟩
  · rcases e3 with ⟨c1, c2⟩ | ⟨c1, e', g0, g1, g2⟩
    · rw [if_pos ((code_row ok nt nu).mpr (fun e' g0 g1 => c2 e' g0 (by omega)))] at hq
      rw [c1]; exact hq
    · rw [if_neg (fun z => g2 ((code_row ok nt nu).mp z e' g0 g1))] at hq
      rw [c1]; exact hq
  · have ei : (((12 * (i : Int)) + (e : Int)) - 1).toNat = 12 * i + e - 1 := by omega
    rw [ei, h76 e (by omega) (by omega), show (e : Int).toNat = e by omega]
    have r1 := night_in ok nt (e := e) (by omega) (by omega)
    have r2 := night_in ok nu (e := e) (by omega) (by omega)
    refine ⟨⟨fun _ => trivial, fun _ => ⟨by omega, by omega, inR_s (by omega) (by omega), inR_s (by omega) (by omega)⟩⟩, ?_⟩
    intro v9 hv x3 hx
    refine ⟨k - 1, by omega, e + 1, by omega, by omega, by omega, ?_⟩
    rcases e3 with ⟨c1, c2⟩ | ⟨c1, c2⟩
    · rw [if_neg (by omega)] at hv
      by_cases c : t e = u e
      · rw [if_pos c] at hv
        refine Or.inl ⟨hv, fun e' g0 g1 => ?_⟩
        by_cases ce : e' = e
        · rw [ce]; exact c
        · exact c2 e' g0 (by omega)
      · rw [if_neg c] at hv
        exact Or.inr ⟨hv, e, by omega, by omega, c⟩
    · rw [if_pos c1] at hv
      exact Or.inr ⟨hv, c2⟩
def stV (b r : Nat → Int) (a len : Int) (j : Nat) : Int := if len = -1 then -1 else if a = -1 then len else cntL b (st b r j) (hot b) a (len.toNat * (b 3).toNat)
theorem m_steadyCore {σ : Mem} {b r : Nat → Int} {a : Int} {Q : Int → Mem → Prop} (ha : inR a) (h7 : σ 67 = b) (ok : BedOk b) (nk : NightOk b r) (hk : hrsOk r) (m9 : σ 69 = r) (h2 : 2 ≤ b 0)
    (hq : ∀ (u : Mem) (len : Int) (j : Nat), SD b r len j → (∀ d, d ≠ 70 → d ≠ 72 → d ≠ 76 → u d = σ d) → Q (stV b r a len j) u) {P : Prop} (hP : P ↔ (wp_X12_asides σ (fun s3 => ∃ I36 : Nat → Int → Int → Mem → Prop, (∀ (k36 : Nat) (y2_4 : Int) (y3_5 : Int) (s6 : Mem), I36 k36 y2_4 y3_5 s6 → (inR y3_5) ∧ ∃ X163 : Prop, (X163 → ∃ I168 : Nat → Int → Int → Mem → Prop, (∀ (k168 : Nat) (y3_8 : Int) (y4_9 : Int) (s10 : Mem), I168 k168 y3_8 y4_9 s10 → (inR y4_9) ∧ (inR (y2_4 * (s10 67 3))) ∧ ∃ X223 : Prop, (X223 → wp_X12_backs s10 (fun s13 => (inR y2_4) ∧ (y2_4 = (-1) → Q (-1) s13) ∧ (¬ (y2_4 = (-1)) → (a = (-1) → Q y2_4 s13) ∧ (¬ (a = (-1)) → Q y3_8 s13)))) ∧ (y2_4 * (s10 67 3) ≤ y4_9 → X223) ∧ (¬ (y2_4 * (s10 67 3) ≤ y4_9) → (a = (-1) → X223) ∧ (¬ (a = (-1)) → wp_X12_lawful s10 (fun r15 => wp_X12_goesOn r15 s10 (fun s16 => wp_X12_hottest s16 (fun r17 => ((0 ≤ 1 + r17 ∧ 1 + r17 < 13)) ∧ (inR (s16 69 (1 + r17).toNat)) ∧ ∀ v20 : Int, v20 = (if s16 69 (1 + r17).toNat = a then 1 else 0) → ∀ x3_21 : Int, x3_21 = y3_8 + v20 → ∀ x4_22 : Int, x4_22 = y4_9 + 1 → ∃ k23, k23 < k168 ∧ I168 k23 x3_21 x4_22 s16)))))) ∧ ∃ k25, I168 k25 0 0 s6) ∧ (201 ≤ y3_5 → X163) ∧ (¬ (201 ≤ y3_5) → (inR y2_4) ∧ (y2_4 = (-1) → ∀ x4_27 : Int, x4_27 = y3_5 - 1 → ∃ I53 : Nat → Int → Int → Prop, (∀ (k53 : Nat) (y2_28 : Int) (y4_29 : Int), I53 k53 y2_28 y4_29 → (inR y4_29) ∧ ∃ X87 : Prop, (X87 → ∃ I90 : Nat → Int → Mem → Prop, (∀ (k90 : Nat) (y4_31 : Int) (s32 : Mem), I90 k90 y4_31 s32 → (inR y4_31) ∧ (13 ≤ y4_31 → ∃ I127 : Nat → Int → Mem → Prop, (∀ (k127 : Nat) (y4_34 : Int) (s35 : Mem), I127 k127 y4_34 s35 → (inR y4_34) ∧ (inR (s35 67 3)) ∧ ∃ X157 : Prop, (X157 → ∀ x3_38 : Int, x3_38 = y3_5 + 1 → ∃ k39, k39 < k36 ∧ I36 k39 y2_28 x3_38 s35) ∧ (s35 67 3 ≤ y4_34 → X157) ∧ (¬ (s35 67 3 ≤ y4_34) → (inR y2_28) ∧ (y2_28 = (-1) → wp_X12_lawful s35 (fun r41 => wp_X12_goesOn r41 s35 (fun s42 => ∀ x4_43 : Int, x4_43 = y4_34 + 1 → ∃ k44, k44 < k127 ∧ I127 k44 x4_43 s42))) ∧ (¬ (y2_28 = (-1)) → X157))) ∧ ∃ k45, I127 k45 0 s32) ∧ (¬ (13 ≤ y4_31) → ((0 ≤ y4_31 ∧ y4_31 < 13)) ∧ ((0 ≤ ((12 * y3_5) + y4_31) - 1 ∧ ((12 * y3_5) + y4_31) - 1 < 2412)) ∧ ∀ s48 : Mem, s48 = up2 s32 76 (((12 * y3_5) + y4_31) - 1).toNat (s32 69 y4_31.toNat) → ∀ x4_49 : Int, x4_49 = y4_31 + 1 → ∃ k50, k50 < k90 ∧ I90 k50 x4_49 s48)) ∧ ∃ k51, I90 k51 1 s6) ∧ (y4_29 < 0 → X87) ∧ (¬ (y4_29 < 0) → (inR y2_28) ∧ (y2_28 = (-1) → wp_X12_isState y4_29 s6 (fun r53 => (inR r53) ∧ ∀ v55 : Int, v55 = (if r53 = 0 then (-1) else y3_5 - y4_29) → ∀ x4_56 : Int, x4_56 = y4_29 + (-1) → ∃ k57, k57 < k53 ∧ I53 k57 v55 x4_56)) ∧ (¬ (y2_28 = (-1)) → X87))) ∧ ∃ k59, I53 k59 y2_4 x4_27) ∧ (¬ (y2_4 = (-1)) → X163))) ∧ ∃ k60, I36 k60 (-1) 0 s3))) : P := by
  refine hP.mpr ?_
  have hb := ok.n6
  have h6 := ok.s6
  have hl := ok.2.2.2.1
  unfold hrsOk at hk
  generalize hL : (b 3).toNat = L at *
  have eL : b 3 = (L : Int) := by omega
  have hst : ∀ k, st b r k = itL b r (k * L) := fun k => by unfold st; rw [hL]
  have kst : ∀ k, NightOk b (st b r k) := fun k => by rw [hst]; exact itL_ok ok nk _
  have st0 : ∀ k, st b r k 0 = r 0 + ((k * L : Nat) : Int) := fun k => by rw [hst]; exact itL_0 b r _
  have hhot := hot_in h2
  have hst1 : ∀ k, itL b (st b r k) L = st b r (k + 1) := fun k => by rw [hst, hst, ← itL_add, Nat.add_mul, Nat.one_mul]
  refine m_asides (fun w fw gw => ?_)
  have w72 : ∀ j : Nat, j < 13 → w 72 j = r j := fun j hj => by rw [gw j hj, m9]
  have w69 : w 69 = r := by rw [fw 69 (by decide), m9]
  have w7 : w 67 = b := by rw [fw 67 (by decide), h7]
  refine ⟨fun k y2 y3 s => ∃ j : Nat, y3 = (j : Int) ∧ j ≤ 201 ∧ k + j = 201 ∧ (∀ d, d ≠ 69 → d ≠ 70 → d ≠ 76 → s d = w d) ∧ (∀ e : Nat, 13 ≤ e → s 69 e = r e) ∧ ((y2 = -1 ∧ s 69 = st b r j ∧ (∀ i e : Nat, i < j → 1 ≤ e → e ≤ 12 → s 76 (12 * i + e - 1) = st b r i e) ∧ (∀ i i' : Nat, i < i' → i' < j → cd b r i ≠ cd b r i')) ∨ (∃ jj kk : Nat, kk ≤ 200 ∧ jj < kk ∧ y2 = (kk : Int) - (jj : Int) ∧ cd b r jj = cd b r kk ∧ (∀ i i' : Nat, i < i' → i' < kk → cd b r i ≠ cd b r i') ∧ s 69 = st b r kk)), ?_, 201, 0, rfl, by omega, rfl, fun _ _ _ _ => rfl, fun e _ => by rw [w69], Or.inl ⟨rfl, by rw [w69, hst, Nat.zero_mul]; rfl, fun i e h0 => by omega, fun i i' h0 h1 => by omega⟩⟩
  rintro k y2 y3 s ⟨j, rfl, j1, j2, j3, j9, j4⟩
  have hmul : j * L ≤ 201 * 8 := Nat.mul_le_mul j1 (by omega)
  have s7 : s 67 = b := by rw [j3 67 (by decide) (by decide) (by decide), w7]
  have ry2 : -1 ≤ y2 ∧ y2 ≤ 200 ∧ y2 ≠ 0 := by
    rcases j4 with h | ⟨jj, kk, h1, h2, h3, _⟩
    · omega
    · omega
  refine ⟨inR_s (by omega) (by omega), y2 ≠ -1 ∨ j = 201, fun hX => ?_, fun h => Or.inr (by omega), fun h => ⟨inR_s (by omega) (by omega), fun hy => ?_, fun hy => Or.inl hy⟩⟩
  · -- the end
    obtain ⟨jj, kk, hsd, hkk, hs9, hcd, hjk⟩ : ∃ jj kk : Nat, SD b r y2 jj ∧ kk ≤ 201 ∧ s 69 = st b r kk ∧ (y2 ≠ -1 → cd b r jj = cd b r kk) ∧ (y2 ≠ -1 → y2 = (kk : Int) - (jj : Int) ∧ jj < kk) := by
      rcases j4 with ⟨c1, c2, c3, c4⟩ | ⟨jj, kk, c1, c2, c3, c4, c5, c6⟩
      · have ej : j = 201 := by omega
        exact ⟨0, j, Or.inr ⟨c1, fun i i' g0 g1 => c4 i i' g0 (by omega)⟩, j1, c2, fun z => absurd c1 z, fun z => absurd c1 z⟩
      · exact ⟨jj, kk, Or.inl ⟨kk, c1, c2, c3, c4, c5⟩, by omega, c6, fun _ => c4, fun _ => ⟨c3, c2⟩⟩
    have hmk : kk * L ≤ 201 * 8 := Nat.mul_le_mul hkk (by omega)
    have hmy : y2.toNat * L ≤ 200 * 8 := Nat.mul_le_mul (by omega) (by omega)
    have ey : y2 ≠ -1 → y2 * (L : Int) = ((y2.toNat * L : Nat) : Int) := fun hy => by rw [Int.natCast_mul, Int.toNat_of_nonneg (by omega)]
    generalize hBd : y2.toNat * L = B at *
    have ey1 : y2 = -1 → y2 * (L : Int) = -(L : Int) := fun hy => by rw [hy]; omega
    have eyr : -8 ≤ y2 * (L : Int) ∧ y2 * (L : Int) ≤ 1600 := by
      by_cases c : y2 = -1
      · rw [ey1 c]; omega
      · rw [ey c]; omega
    refine ⟨fun k' y3 y4 s' => ∃ l : Nat, y4 = (l : Int) ∧ l ≤ B ∧ k' + l = B ∧ (y2 = -1 → l = 0) ∧ y3 = cntL b (st b r kk) (hot b) a l ∧ (∀ d, d ≠ 69 → d ≠ 70 → d ≠ 76 → s' d = w d) ∧ s' 69 = itL b (st b r kk) l, ?_, B, 0, rfl, by omega, rfl, fun _ => rfl, rfl, j3, hs9⟩
    rintro k' y3 y4 s' ⟨l, rfl, l1, l2, l5, rfl, l3, l4⟩
    have s'7 : s' 67 = b := by rw [l3 67 (by decide) (by decide) (by decide), w7]
    have kl := itL_ok ok (kst kk) l
    have h0l := itL_0 b (st b r kk) l
    have h0k := st0 kk
    rw [s'7, eL]
    refine ⟨inR_s (by omega) (by omega), inR_s (by omega) (by omega), y2 * (L : Int) ≤ (l : Int) ∨ a = -1, fun hx => ?_, fun hx => Or.inl hx, fun hx => ⟨fun h => Or.inr h, fun hna => ?_⟩⟩
    · refine m_backs (r := r) (fun e he => by rw [l3 72 (by decide) (by decide) (by decide)]; exact w72 e he) (fun e he => ?_) (fun z fz hz => ?_)
      · rw [l4, itL_hi ok l he, hst, itL_hi ok _ he]
      · have ff : ∀ d, d ≠ 70 → d ≠ 72 → d ≠ 76 → z d = σ d := by
          intro d g0 g1 g2
          by_cases hd : d = 69
          · rw [hd, hz, m9]
          · rw [fz d hd, l3 d hd g0 g2, fw d g1]
        have fin := hq z y2 jj hsd ff
        unfold stV at fin
        rw [hL] at fin
        refine ⟨inR_s (by omega) (by omega), fun c => ?_, fun c => ⟨fun c2 => ?_, fun c2 => ?_⟩⟩
        · rw [if_pos c] at fin; exact fin
        · rw [if_neg c, if_pos c2] at fin; exact fin
        · rw [if_neg c, if_neg c2, hBd] at fin
          have el : l = B := by
            rcases hx with hx | hx
            · rw [ey c] at hx; omega
            · exact absurd hx c2
          have eq0 : st b r jj 0 % b 3 = st b r kk 0 % b 3 := by
            rw [st0, st0, eL]
            have hj2 := hjk c
            have e3 : kk * L = jj * L + (kk - jj) * L := by rw [← Nat.add_mul, show jj + (kk - jj) = kk by omega]
            rw [e3, Int.natCast_add, ← Int.add_assoc, Int.natCast_mul (kk - jj) L, Int.add_mul_emod_self_right]
          have eww : WW (st b r jj) (st b r kk) := by
            have := (codeN_inj ok (kst jj) ok (kst kk) 6 (Nat.le_refl _)).mp (hcd c)
            exact fun p p0 p1 => this p p0 (by omega)
          rw [el, ← cntL_ww ok eww eq0 hhot.1 (by omega)]
          exact fin
    · have hyn : y2 ≠ -1 := fun c => hx (by rw [ey1 c]; omega)
      have hlB : l < B := by
        by_cases q : l < B
        · exact q
        · exact absurd (by rw [ey hyn]; omega) hx
      have hlw := lawW_in (r := itL b (st b r kk) l) ok
      refine m_lawful (by rw [s'7]; exact ok) (by rw [l4, h0l, h0k]; exact ⟨inR_s (by omega) (by omega), by omega⟩) ?_
      have elw : lawOf (s' 67) (s' 69 0 % s' 67 3) = lawW b (itL b (st b r kk) l) := by rw [s'7, l4]; rfl
      rw [elw]
      refine m_goesOn (by rw [s'7]; exact ok) (by rw [s'7, l4]; exact kl) (inR_s (by omega) (by omega)) (Or.inl (by rw [s'7]; exact h2)) (fun u hu fu => ?_)
      have u9 : u 69 = itL b (st b r kk) (l + 1) := by rw [hu, s'7, l4]; rfl
      have u7 : u 67 = b := by rw [fu 67 (by decide) (by decide), s'7]
      refine m_hottest (by rw [u7]; exact ok) (by rw [u7]; exact h2) ?_
      rw [u7, u9]
      have hwr := ((itL_ok ok (kst kk) (l + 1)).1 (hot b) hhot.1 (by omega)).1
      have ew : itL b (st b r kk) (l + 1) (1 + hot b).toNat = whoOf (itL b (st b r kk) (l + 1)) (hot b) := rfl
      rw [ew]
      refine ⟨by omega, inR_s (by omega) (by omega), ?_⟩
      rintro v20 rfl x3 rfl x4 rfl
      exact ⟨k' - 1, by omega, l + 1, by omega, by omega, by omega, fun z => absurd z hyn, rfl, fun d g0 g1 g2 => by rw [fu d g0 g1]; exact l3 d g0 g1 g2, u9⟩
  · -- one more round
    obtain ⟨c2, c3, c4⟩ : s 69 = st b r j ∧ (∀ i e : Nat, i < j → 1 ≤ e → e ≤ 12 → s 76 (12 * i + e - 1) = st b r i e) ∧ (∀ i i' : Nat, i < i' → i' < j → cd b r i ≠ cd b r i') := by
      rcases j4 with ⟨_, c⟩ | ⟨jj, kk, _, _, _, _⟩
      · exact c
      · omega
    rintro x4 rfl
    refine ⟨fun k' y2' y4 => ∃ i : Nat, y4 = (i : Int) - 1 ∧ i ≤ j ∧ k' = i ∧ ((y2' = -1 ∧ ∀ i' : Nat, i ≤ i' → i' < j → cd b r i' ≠ cd b r j) ∨ (∃ jj : Nat, jj < j ∧ y2' = (j : Int) - (jj : Int) ∧ cd b r jj = cd b r j)), ?_, j, j, rfl, Nat.le_refl _, rfl, Or.inl ⟨hy, fun i' h0 h1 => by omega⟩⟩
    rintro k' y2' y4 ⟨i, rfl, i1, ek, i3⟩
    have ry2' : -1 ≤ y2' ∧ y2' ≤ 201 := by
      rcases i3 with h | ⟨jj, h1, h2, _⟩ <;> omega
    refine ⟨inR_s (by omega) (by omega), y2' = -1 → i = 0, fun hX => ?_, fun h1 => fun _ => by omega, fun h1 => ⟨inR_s (by omega) (by omega), fun h3 => ?_, fun h3 => fun z => absurd z h3⟩⟩
    · refine ⟨fun k y4 s' => ∃ e : Nat, y4 = (e : Int) ∧ (1 ≤ e ∧ e ≤ 13) ∧ k + e = 13 ∧ (∀ d, d ≠ 76 → s' d = s d) ∧ (∀ i e' : Nat, i < j → 1 ≤ e' → e' ≤ 12 → s' 76 (12 * i + e' - 1) = st b r i e') ∧ (∀ e' : Nat, 1 ≤ e' → e' < e → s' 76 (12 * j + e' - 1) = st b r j e'), ?_, 12, 1, rfl, by omega, rfl, fun _ _ => rfl, c3, fun e' h0 h1 => by omega⟩
      rintro k9 y4 s' ⟨e, rfl, e1, e2, e3, e4, e5⟩
      refine ⟨inR_s (by omega) (by omega), fun h4 => ?_, fun h4 => ⟨by omega, by omega, ?_⟩⟩
      · refine ⟨fun k y4 s2 => ∃ l : Nat, y4 = (l : Int) ∧ l ≤ L ∧ k + l = L ∧ (∀ d, d ≠ 69 → d ≠ 70 → s2 d = s' d) ∧ s2 69 = itL b (st b r j) l ∧ (y2' ≠ -1 → l = 0), ?_, L, 0, rfl, by omega, rfl, fun _ _ _ => rfl, by rw [e3 69 (by decide), c2]; rfl, fun _ => rfl⟩
        rintro k12 y4 s2 ⟨l, rfl, l1, l2, l3, l4, l5⟩
        have s27 : s2 67 = b := by rw [l3 67 (by decide) (by decide), e3 67 (by decide), s7]
        have h0l := itL_0 b (st b r j) l
        have h0j := st0 j
        rw [s27, eL]
        refine ⟨inR_s (by omega) (by omega), inR_s (by omega) (by omega), y2' ≠ -1 ∨ l = L, fun hx => ?_, fun h5 => Or.inr (by omega), fun h5 => ⟨inR_s (by omega) (by omega), fun h8 => ?_, fun h8 => Or.inl h8⟩⟩
        · rintro x3 rfl
          refine ⟨k - 1, by omega, j + 1, by omega, by omega, by omega, fun d g0 g1 g2 => by rw [l3 d g0 g1, e3 d g2]; exact j3 d g0 g1 g2, fun e he => by rw [l4, itL_hi ok l he, hst, itL_hi ok _ he], ?_⟩
          by_cases c : y2' = -1
          · have el : l = L := by rcases hx with h | h; exact absurd c h; exact h
            refine Or.inl ⟨c, by rw [l4, el, hst1], fun i e g0 g1 g2 => ?_, fun i i' g0 g1 => ?_⟩
            · rw [l3 76 (by decide) (by decide)]
              by_cases ci : i = j
              · rw [ci]; exact e5 e g1 (by omega)
              · exact e4 i e (by omega) g1 g2
            · by_cases ci : i' = j
              · rw [ci]
                rcases i3 with ⟨_, i4⟩ | ⟨jj, z1, z2, _⟩
                · exact i4 i (by have := hX c; omega) (by omega)
                · omega
              · exact c4 i i' g0 (by omega)
          · have el := l5 c
            rcases i3 with ⟨z, _⟩ | ⟨jj, z1, z2, z3⟩
            · exact absurd z c
            · exact Or.inr ⟨jj, j, by omega, z1, z2, z3, c4, by rw [l4, el]; rfl⟩
        · have hlw := lawW_in (r := itL b (st b r j) l) ok
          refine m_lawful (by rw [s27]; exact ok) (by rw [l4, h0l, h0j]; exact ⟨inR_s (by omega) (by omega), by omega⟩) ?_
          have elw : lawOf (s2 67) (s2 69 0 % s2 67 3) = lawW b (itL b (st b r j) l) := by rw [s27, l4]; rfl
          rw [elw]
          refine m_goesOn (by rw [s27]; exact ok) (by rw [s27, l4]; exact itL_ok ok (kst j) l) (inR_s (by omega) (by omega)) (Or.inl (by rw [s27]; exact h2)) (fun u hu fu => ?_)
          rintro x4 rfl
          refine ⟨k12 - 1, by omega, l + 1, by omega, by omega, by omega, fun d g0 g1 => by rw [fu d g0 g1]; exact l3 d g0 g1, ?_, fun z => absurd h8 z⟩
          rw [hu, s27, l4]; rfl
      · rintro s48 rfl x4 rfl
        have ei : (((12 * (j : Int)) + (e : Int)) - 1).toNat = 12 * j + e - 1 := by omega
        rw [ei, show (e : Int).toNat = e by omega, e3 69 (by decide), c2]
        refine ⟨k9 - 1, by omega, e + 1, by omega, by omega, by omega, fun d hd => by rw [up2_c hd]; exact e3 d hd, fun i e' g0 g1 g2 => ?_, fun e' g0 g1 => ?_⟩
        · rw [up2_n (by omega)]; exact e4 i e' g0 g1 g2
        · rw [up2_e]
          by_cases ce : e' = e
          · rw [if_pos (by rw [ce]), ce]
          · rw [if_neg (by omega)]; exact e5 e' g0 (by omega)
    · obtain ⟨i', rfl⟩ : ∃ i' : Nat, i = i' + 1 := ⟨i - 1, by omega⟩
      rw [show (((i' + 1 : Nat) : Int) - 1) = (i' : Int) by omega]
      refine m_isState ok (kst i') (kst j) (by omega) (fun e g0 g1 => c3 i' e (by omega) g0 g1) c2 ?_
      have i4 : ∀ q : Nat, i' + 1 ≤ q → q < j → cd b r q ≠ cd b r j := by
        rcases i3 with ⟨_, z⟩ | ⟨jj, z1, z2, _⟩
        · exact z
        · omega
      refine ⟨by split <;> exact inR_s (by omega) (by omega), ?_⟩
      rintro v55 rfl x4 rfl
      refine ⟨i', by omega, i', by omega, by omega, rfl, ?_⟩
      by_cases c : codeN (st b r i') 6 = codeN (st b r j) 6
      · rw [if_pos c, if_neg (by decide)]
        exact Or.inr ⟨i', by omega, rfl, c⟩
      · rw [if_neg c, if_pos rfl]
        refine Or.inl ⟨rfl, fun q g0 g1 => ?_⟩
        by_cases cq : q = i'
        · rw [cq]; exact c
        · exact i4 q (by omega) g1
theorem m_steady {σ : Mem} {b r : Nat → Int} {a : Int} {Q : Int → Mem → Prop} (ha : inR a) (h7 : σ 67 = b) (ok : BedOk b) (nk : NightOk b r) (hk : hrsOk r) (m9 : σ 69 = r)
    (hq1 : ¬ (a = -1 ∨ (0 ≤ a ∧ a < b 2)) → Q (-1000000001) σ)
    (hq2 : (a = -1 ∨ (0 ≤ a ∧ a < b 2)) → b 0 = 0 → Q (-1000000003) σ)
    (hq : (a = -1 ∨ (0 ≤ a ∧ a < b 2)) → b 0 ≠ 0 → ∀ (u : Mem) (len : Int) (j : Nat), SD b r len j → (∀ d, d ≠ 70 → d ≠ 72 → d ≠ 76 → u d = σ d) → Q (stV b r a len j) u) : wp_X12_steady a σ Q := by
  have hb := ok.n6
  unfold wp_X12_steady
  refine ⟨ha, a = -1 ∨ (0 ≤ a ∧ a < b 2), fun q => ?_, fun h => Or.inl h, fun h => m_isSleeper (by rw [h7]; exact ok) ha ?_⟩
  · rw [h7]
    refine ⟨inR_s (by omega) (by omega), hq2 q, fun c => ?_⟩
    have h2 : 2 ≤ b 0 := by
      rcases ok.1 with z | z
      · exact absurd z c
      · exact z.1
    exact m_steadyCore ha h7 ok nk hk m9 h2 (hq q c) Iff.rfl
  · rw [h7]
    by_cases c : 0 ≤ a ∧ a < b 2
    · rw [if_pos c]
      exact ⟨inR_s (by omega) (by omega), fun z => absurd z (by decide), fun _ => Or.inr c⟩
    · rw [if_neg c]
      exact ⟨inR_0, fun _ => hq1 (fun z => by rcases z with z | z; exact h z; exact c z), fun z => absurd rfl z⟩
theorem pub_steady {a : Int} (ha : inR a) : Good (fun σ Q => wp_X11_steady a σ Q) (fun σ Q => wp_X12_steady a σ Q) := by
  intro σ hR
  have hR' := hR
  obtain ⟨ok, bc, ⟨x, pc, pm⟩, rs⟩ := hR'
  show wp_X11_steady a σ (fun r t => wp_X12_steady a t (fun r' u => r = r' ∧ Rel u))
  have nk := pc.2.2.1
  have m9 := pm.2.2
  have hb := ok.n6
  have hk := pc.2.2.2
  unfold wp_X11_steady
  refine ⟨ha, a = -1 ∨ (0 ≤ a ∧ a < σ 67 2), fun q => ?_, fun h => Or.inl h, fun h => c_hasSleeper bc ok ha ?_⟩
  · rw [bc.1]
    refine ⟨inR_s (by omega) (by omega), fun c => m_steady ha rfl ok nk hk m9 (fun z => absurd q z) (fun _ _ => ⟨rfl, hR⟩) (fun _ z => absurd c z), fun c => ?_⟩
    have h2 : 2 ≤ σ 67 0 := by
      rcases ok.1 with z | z
      · exact absurd z c
      · exact z.1
    refine c_seekS bc pc.2.1 ok nk hk (fun t len j sd ft t2 t3 => ?_)
    have md : ∀ (v : Int) (s : Mem), (∀ d, d ≠ 20 → d ≠ 21 → d ≠ 22 → d ≠ 58 → d ≠ 59 → s d = σ d) → v = stV (σ 67) x.2.2 a len j → wp_X12_steady a s (fun r' u => v = r' ∧ Rel u) := by
      intro v s fs hv
      refine m_steady ha (fs 67 (by decide) (by decide) (by decide) (by decide) (by decide)) ok nk hk (by rw [fs 69 (by decide) (by decide) (by decide) (by decide) (by decide), m9]) (fun z => absurd q z) (fun _ z => absurd z c) (fun _ _ u len' j' sd' fu => ⟨?_, ?_⟩)
      · obtain ⟨e1, e2⟩ := sd.uniq sd'
        rw [hv, ← e1]
        unfold stV
        by_cases cl : len = -1
        · rw [if_pos cl, if_pos cl]
        · rw [if_neg cl, if_neg cl, ← e2 cl]
      · have f : ∀ d, d ≠ 20 → d ≠ 21 → d ≠ 22 → d ≠ 58 → d ≠ 59 → d ≠ 70 → d ≠ 72 → d ≠ 76 → u d = σ d := fun d g0 g1 g2 g3 g4 g5 g6 g7 => by rw [fu d g5 g6 g7]; exact fs d g0 g1 g2 g3 g4
        have u65 : u 65 = σ 65 := f 65 (by decide) (by decide) (by decide) (by decide) (by decide) (by decide) (by decide) (by decide)
        refine hR.tried (fun d hd => ?_) (by rw [f 60 (by decide) (by decide) (by decide) (by decide) (by decide) (by decide) (by decide) (by decide)]) ⟨by rw [u65], by rw [u65], by rw [u65], by rw [u65], by rw [u65], by rw [u65]⟩
        unfold jk at hd
        exact f d (by omega) (by omega) (by omega) (by omega) (by omega) (by omega) (by omega) (by omega)
    have hlen : len = -1 ∨ (1 ≤ len ∧ len ≤ 200 ∧ j ≤ 200) := by
      rcases sd with ⟨k, a1, a2, a3, _⟩ | ⟨a1, _⟩
      · right; omega
      · left; exact a1
    dsimp only
    rw [t2]
    unfold stV at md
    refine ⟨fun c1 => md _ t ft ?_, fun c1 => ⟨inR_s (by omega) (by omega), fun c2 => md _ t ft ?_, fun c2 => ?_⟩⟩
    · by_cases cl : len = -1
      · rw [if_pos cl]; exact cl
      · rw [if_neg cl, if_pos c1]
    · rw [if_pos c2]; exact c2
    · refine c_hours (n := len.toNat) (bc.keep (fun d g0 g1 => ft d (by omega) (by omega) (by omega) (by omega) (by omega))) (pc.2.1.keep (ft 17 (by decide) (by decide) (by decide) (by decide) (by decide)) (ft 18 (by decide) (by decide) (by decide) (by decide) (by decide)) (ft 19 (by decide) (by decide) (by decide) (by decide) (by decide))) ok nk hk h2 ha (j := j) (by omega) (by omega) (t3 c2) (by rw [t2]; omega) (fun u fu => md _ u (fun d g0 g1 g2 g3 g4 => by rw [fu d g0 g1 g2]; exact ft d g0 g1 g2 g3 g4) ?_)
      rw [if_neg c2, if_neg c1]
  · by_cases c : 0 ≤ a ∧ a < σ 67 2
    · rw [if_pos c]
      exact ⟨inR_s (by omega) (by omega), fun z => absurd z (by decide), fun _ => Or.inr c⟩
    · rw [if_neg c]
      exact ⟨inR_0, fun _ => m_steady ha rfl ok nk hk m9 (fun _ => ⟨rfl, hR⟩) (fun z => absurd z (fun z => by rcases z with z | z; exact h z; exact c z)) (fun z => absurd z (fun z => by rcases z with z | z; exact h z; exact c z)), fun z => absurd rfl z⟩
