/-! ===== the model's small methods ===== -/
theorem m_in {v lo hi : Int} {σ : Mem} {Q : Int → Prop} (h1 : inR v) (h2 : inR lo) (h3 : inR hi) (hq : Q (if lo ≤ v ∧ v ≤ hi then 1 else 0)) : wp_X12_in v lo hi σ Q := by
  unfold wp_X12_in
  refine ⟨inL_s h1, inL_s h2, fun h => ?_, fun h => ⟨inL_s h3, fun g => ?_, fun g => ?_⟩⟩
  · rw [if_neg (by omega)] at hq; exact hq
  · rw [if_neg (by omega)] at hq; exact hq
  · rw [if_pos (by omega)] at hq; exact hq
theorem m_isPlace {s : Int} {σ : Mem} {Q : Int → Prop} (ok : BedOk (σ 67)) (h1 : inR s) (hq : Q (if 0 ≤ s ∧ s < σ 67 0 then 1 else 0)) : wp_X12_isPlace s σ Q := by
  have := ok.n6
  unfold wp_X12_isPlace
  refine ⟨h1, inR_s (by omega) (by omega), m_in h1 inR_0 (inR_s (by omega) (by omega)) ?_⟩
  have e : (if 0 ≤ s ∧ s ≤ σ 67 0 - 1 then (1 : Int) else 0) = if 0 ≤ s ∧ s < σ 67 0 then 1 else 0 := by
    split <;> split <;> omega
  rw [e]
  refine ⟨?_, hq⟩
  split <;> omega
theorem m_isSleeper {s : Int} {σ : Mem} {Q : Int → Prop} (ok : BedOk (σ 67)) (h1 : inR s) (hq : Q (if 0 ≤ s ∧ s < σ 67 2 then 1 else 0)) : wp_X12_isSleeper s σ Q := by
  have := ok.s6
  unfold wp_X12_isSleeper
  refine ⟨h1, inR_s (by omega) (by omega), m_in h1 inR_0 (inR_s (by omega) (by omega)) ?_⟩
  have e : (if 0 ≤ s ∧ s ≤ σ 67 2 - 1 then (1 : Int) else 0) = if 0 ≤ s ∧ s < σ 67 2 then 1 else 0 := by
    split <;> split <;> omega
  rw [e]
  refine ⟨?_, hq⟩
  split <;> omega
theorem m_gives {s : Int} {σ : Mem} {Q : Int → Prop} (h1 : -1 ≤ s) (h2 : s < 6) (hq : Q (if s = -1 then 0 else givesOf (σ 67) s)) : wp_X12_gives s σ Q := by
  unfold wp_X12_gives
  refine ⟨inR_s (by omega) (by omega), fun h => ?_, fun h => ⟨by omega, ?_⟩⟩
  · rw [if_pos h] at hq; exact hq
  · rw [if_neg h] at hq; exact hq
theorem m_loses {s : Int} {σ : Mem} {Q : Int → Prop} (h1 : 0 ≤ s) (h2 : s < 6) (hq : Q (losesOf (σ 67) s)) : wp_X12_loses s σ Q := by
  unfold wp_X12_loses
  exact ⟨by omega, hq⟩
theorem m_more {s : Int} {σ : Mem} {Q : Int → Prop} (h1 : 0 ≤ s) (h2 : s < 6) (hq : Q (moreOf (σ 67) (σ 69) s)) : wp_X12_more s σ Q := by
  unfold wp_X12_more
  exact ⟨by omega, by omega, hq⟩
theorem m_placeOf {s : Int} {σ : Mem} {Q : Int → Prop} (ok : BedOk (σ 67)) (nk : NightOk (σ 67) (σ 69)) (hs : inR s) (hq : Q (plOf (σ 67) (σ 69) s)) : wp_X12_placeOf s σ Q := by
  have hn := ok.n6
  unfold wp_X12_placeOf
  refine ⟨fun k y2 y3 => ∃ n : Nat, y3 = (n : Int) ∧ (n : Int) ≤ σ 67 0 ∧ y2 = plN (σ 69) s n ∧ k + n = (σ 67 0).toNat, ?_, (σ 67 0).toNat, 0, rfl, by omega, rfl, rfl⟩
  rintro k y2 y3 ⟨n, rfl, h1, rfl, h2⟩
  refine ⟨inR_s (by omega) (by omega), inR_s (by omega) (by omega), fun h => ?_, fun h => ⟨by omega, ?_, hs, ?_⟩⟩
  · have e : n = (σ 67 0).toNat := by omega
    rw [e]; exact hq
  · have := (nk.1 (n : Int) (by omega) (by omega)).1
    have h6 := ok.s6
    unfold whoOf at this
    exact inR_s (by omega) (by omega)
  · rintro v rfl x rfl
    refine ⟨k - 1, by omega, n + 1, by omega, by omega, ?_, by omega⟩
    rw [plN]
    rfl
theorem m_inBed {σ : Mem} {Q : Int → Prop} (ok : BedOk (σ 67)) (nk : NightOk (σ 67) (σ 69)) (hq : Q (inV (σ 67) (σ 69))) : wp_X12_inBed σ Q := by
  have hn := ok.n6
  have h6 := ok.s6
  unfold wp_X12_inBed
  refine ⟨fun k y1 y2 => ∃ n : Nat, y2 = (n : Int) ∧ (n : Int) ≤ σ 67 0 ∧ y1 = bset (inT (σ 69) n) ∧ k + n = (σ 67 0).toNat, ?_, (σ 67 0).toNat, 0, rfl, by omega, rfl, rfl⟩
  rintro k y1 y2 ⟨n, rfl, h1, rfl, h2⟩
  refine ⟨inR_s (by omega) (by omega), inR_s (by omega) (by omega), fun h => ?_, fun h => ?_⟩
  · have e : n = (σ 67 0).toNat := by omega
    rw [e]; exact hq
  · have hw := (nk.1 (n : Int) (by omega) (by omega)).1
    have hw' : σ 69 (1 + (n : Int)).toNat = whoOf (σ 69) (n : Int) := rfl
    rw [hw']
    refine ⟨by omega, inR_s (by omega) (by omega), ?_⟩
    rintro v rfl x rfl x2 rfl
    refine ⟨k - 1, by omega, n + 1, by omega, by omega, ?_, by omega⟩
    by_cases hm : whoOf (σ 69) (n : Int) = -1
    · rw [if_pos hm, bset_or0]
      refine bset_ext (fun s g0 g1 => ?_)
      rw [inT_succ, hm, decide_eq_false (by omega), Bool.or_false]
    · rw [if_neg hm, bset_or _ (by omega) (by omega)]
      refine bset_ext (fun s g0 g1 => ?_)
      rw [inT_succ]
def awT (b r : Nat → Int) (n : Nat) (s : Int) : Bool := decide (s < (n : Int)) && awS b r s
theorem more_in {b r : Nat → Int} (ok : BedOk b) (nk : NightOk b r) {s : Int} (h0 : 0 ≤ s) (h1 : s < b 2) : -98 ≤ moreOf b r s ∧ moreOf b r s ≤ 99 := by
  have h6 := ok.s6
  have a := (nk.1 s h0 (by omega)).2.2
  have b := (ok.2.2.2.2.2.1 s h0 h1).2.2.2
  unfold moreOf
  omega
theorem m_awake {σ : Mem} {Q : Int → Prop} (ok : BedOk (σ 67)) (nk : NightOk (σ 67) (σ 69)) (hq : Q (awV (σ 67) (σ 69))) : wp_X12_awake σ Q := by
  have hn := ok.n6
  have h6 := ok.s6
  unfold wp_X12_awake
  refine ⟨fun k y1 y2 => ∃ n : Nat, y2 = (n : Int) ∧ (n : Int) ≤ σ 67 2 ∧ y1 = bset (awT (σ 67) (σ 69) n) ∧ k + n = (σ 67 2).toNat, ?_, (σ 67 2).toNat, 0, rfl, by omega, ?_, rfl⟩
  rintro k y1 y2 ⟨n, rfl, h1, rfl, h2⟩
  refine ⟨inR_s (by omega) (by omega), inR_s (by omega) (by omega), fun h => ?_, fun h => ?_⟩
  · have e : (n : Int) = σ 67 2 := by omega
    have e2 : bset (awT (σ 67) (σ 69) n) = awV (σ 67) (σ 69) := by
      refine bset_ext (fun s g0 g1 => ?_)
      unfold awT
      by_cases hs : s < (n : Int)
      · rw [decide_eq_true hs, Bool.true_and]
      · rw [decide_eq_false hs, Bool.false_and]
        unfold awS
        cases hi : inS (σ 67) (σ 69) s with
        | false => rfl
        | true => have := inS_lt ok nk g0 hi; omega
    rw [e2]; exact hq
  · refine m_inBed ok nk ?_
    have ht := bset_test (inS (σ 67) (σ 69)) (s := (n : Int)) (by omega) (by omega)
    unfold inV
    rw [ht]
    have hm := more_in ok nk (s := (n : Int)) (by omega) (by omega)
    refine ⟨by split <;> exact inR_s (by omega) (by omega), fun v => v = if awS (σ 67) (σ 69) (n : Int) then zshl 1 (n : Int) else 0, ?_, awS (σ 67) (σ 69) (n : Int) = false, ?_, ?_, ?_⟩
    · rintro v rfl x rfl x2 rfl
      refine ⟨k - 1, by omega, n + 1, by omega, by omega, ?_, by omega⟩
      cases ha : awS (σ 67) (σ 69) (n : Int) with
      | false =>
        rw [if_neg (by decide), bset_or0]
        refine bset_ext (fun s g0 g1 => ?_)
        unfold awT
        by_cases hs : s = (n : Int)
        · rw [hs, ha, Bool.and_false, Bool.and_false]
        · by_cases h3 : s < (n : Int)
          · rw [decide_eq_true h3, decide_eq_true (by omega)]
          · rw [decide_eq_false h3, decide_eq_false (by omega)]
      | true =>
        rw [if_pos rfl, bset_or _ (by omega) (by omega)]
        refine bset_ext (fun s g0 g1 => ?_)
        unfold awT
        by_cases hs : s = (n : Int)
        · rw [hs, ha, decide_eq_true rfl, Bool.or_true, decide_eq_true (by omega)]; rfl
        · rw [decide_eq_false hs, Bool.or_false]
          by_cases h3 : s < (n : Int)
          · rw [decide_eq_true h3, decide_eq_true (by omega)]
          · rw [decide_eq_false h3, decide_eq_false (by omega)]
    · intro ha
      rw [ha]; rfl
    · intro hi
      refine m_more (by omega) (by omega) ⟨inR_s (by omega) (by omega), fun h3 => ?_, fun h3 => ?_⟩
      · unfold awS
        rw [decide_eq_false (by omega), Bool.and_false]
      · have hi : inS (σ 67) (σ 69) (n : Int) = true := by
          cases hh : inS (σ 67) (σ 69) (n : Int) with
          | true => rfl
          | false => rw [hh] at hi; simp at hi
        unfold awS
        rw [hi, decide_eq_true (by omega)]; rfl
    · intro hi
      have hi : inS (σ 67) (σ 69) (n : Int) = false := by
        cases hh : inS (σ 67) (σ 69) (n : Int) with
        | false => rfl
        | true => rw [hh] at hi; simp at hi
      unfold awS
      rw [hi]; rfl
  · refine (bset_0.symm.trans ?_)
    refine bset_ext (fun s g0 g1 => ?_)
    unfold awT
    rw [decide_eq_false (by omega)]; rfl
theorem coldN_in {b r : Nat → Int} (ok : BedOk b) (nk : NightOk b r) : ∀ n : Nat, (n : Int) ≤ b 2 → (coldN b r n = -1 ∧ ∀ s : Int, 0 ≤ s → s < (n : Int) → inS b r s = false) ∨ (2 ≤ coldN b r n ∧ coldN b r n ≤ 199 ∧ (∃ s : Int, 0 ≤ s ∧ s < (n : Int) ∧ inS b r s = true ∧ coldN b r n = 100 + moreOf b r s) ∧ ∀ s : Int, 0 ≤ s → s < (n : Int) → inS b r s = true → coldN b r n ≤ 100 + moreOf b r s)
  | 0, _ => Or.inl ⟨rfl, fun s h0 h1 => by omega⟩
  | n + 1, h => by
    have hm := more_in ok nk (s := (n : Int)) (by omega) (by omega)
    have ih := coldN_in ok nk n (by omega)
    unfold coldN
    by_cases hi : inS b r (n : Int) = true
    · by_cases hc : coldN b r n = -1 ∨ 100 + moreOf b r (n : Int) < coldN b r n
      · rw [if_pos ⟨hi, hc⟩]
        refine Or.inr ⟨by omega, by omega, ⟨(n : Int), by omega, by omega, hi, rfl⟩, fun s h0 h1 h2 => ?_⟩
        by_cases hs : s = (n : Int)
        · rw [hs]; omega
        · rcases ih with ⟨_, i2⟩ | ⟨_, _, _, i4⟩
          · rw [i2 s h0 (by omega)] at h2; cases h2
          · have := i4 s h0 (by omega) h2; omega
      · rw [if_neg (fun q => hc q.2)]
        rcases ih with ⟨i1, _⟩ | ⟨i1, i2, ⟨s, j1, j2, j3, j4⟩, i4⟩
        · exact absurd (Or.inl i1) hc
        · refine Or.inr ⟨i1, i2, ⟨s, j1, by omega, j3, j4⟩, fun s h0 h1 h2 => ?_⟩
          by_cases hs : s = (n : Int)
          · rw [hs]; omega
          · exact i4 s h0 (by omega) h2
    · rw [if_neg (fun q => hi q.1)]
      have hi : inS b r (n : Int) = false := by
        cases hh : inS b r (n : Int) with
        | false => rfl
        | true => exact absurd hh hi
      rcases ih with ⟨i1, i2⟩ | ⟨i1, i2, ⟨s, j1, j2, j3, j4⟩, i4⟩
      · refine Or.inl ⟨i1, fun s h0 h1 => ?_⟩
        by_cases hs : s = (n : Int)
        · rw [hs]; exact hi
        · exact i2 s h0 (by omega)
      · refine Or.inr ⟨i1, i2, ⟨s, j1, by omega, j3, j4⟩, fun s h0 h1 h2 => ?_⟩
        by_cases hs : s = (n : Int)
        · rw [hs, hi] at h2; cases h2
        · exact i4 s h0 (by omega) h2
theorem m_coldest {σ : Mem} {Q : Int → Prop} (ok : BedOk (σ 67)) (nk : NightOk (σ 67) (σ 69)) (hq : Q (coldV (σ 67) (σ 69))) : wp_X12_coldest σ Q := by
  have hn := ok.n6
  have h6 := ok.s6
  unfold wp_X12_coldest
  refine ⟨fun k y1 y2 => ∃ n : Nat, y2 = (n : Int) ∧ (n : Int) ≤ σ 67 2 ∧ y1 = coldN (σ 67) (σ 69) n ∧ k + n = (σ 67 2).toNat, ?_, (σ 67 2).toNat, 0, rfl, by omega, rfl, rfl⟩
  rintro k y1 y2 ⟨n, rfl, h1, rfl, h2⟩
  have hc : -1 ≤ coldN (σ 67) (σ 69) n ∧ coldN (σ 67) (σ 69) n ≤ 199 := by
    rcases coldN_in ok nk n h1 with ⟨a, _⟩ | ⟨a, b, _⟩ <;> omega
  refine ⟨inR_s (by omega) (by omega), inR_s (by omega) (by omega), fun h => ?_, fun h => ?_⟩
  · have e : n = (σ 67 2).toNat := by omega
    rw [e]; exact hq
  · refine m_inBed ok nk ?_
    have ht := bset_test (inS (σ 67) (σ 69)) (s := (n : Int)) (by omega) (by omega)
    unfold inV
    rw [ht]
    have hm := more_in ok nk (s := (n : Int)) (by omega) (by omega)
    refine ⟨by split <;> exact inR_s (by omega) (by omega), fun v => v = if inS (σ 67) (σ 69) (n : Int) = true ∧ (coldN (σ 67) (σ 69) n = -1 ∨ 100 + moreOf (σ 67) (σ 69) (n : Int) < coldN (σ 67) (σ 69) n) then 1 else 0, ?_, ¬ (inS (σ 67) (σ 69) (n : Int) = true ∧ (coldN (σ 67) (σ 69) n = -1 ∨ 100 + moreOf (σ 67) (σ 69) (n : Int) < coldN (σ 67) (σ 69) n)), ?_, ?_, ?_⟩
    · rintro v rfl
      refine ⟨by split <;> exact inR_s (by omega) (by omega), fun v => v = coldN (σ 67) (σ 69) (n + 1), ?_, fun h3 => ?_, fun h3 => ?_⟩
      · rintro v rfl x rfl
        exact ⟨k - 1, by omega, n + 1, by omega, by omega, rfl, by omega⟩
      · rw [coldN]
        by_cases h4 : inS (σ 67) (σ 69) (n : Int) = true ∧ (coldN (σ 67) (σ 69) n = -1 ∨ 100 + moreOf (σ 67) (σ 69) (n : Int) < coldN (σ 67) (σ 69) n)
        · rw [if_pos h4] at h3; cases h3
        · rw [if_neg h4]
      · refine m_more (by omega) (by omega) ?_
        rw [coldN]
        by_cases h4 : inS (σ 67) (σ 69) (n : Int) = true ∧ (coldN (σ 67) (σ 69) n = -1 ∨ 100 + moreOf (σ 67) (σ 69) (n : Int) < coldN (σ 67) (σ 69) n)
        · rw [if_pos h4]
        · rw [if_neg h4] at h3; exact absurd rfl h3
    · intro h3
      rw [if_neg h3]
    · intro hi
      have hi : inS (σ 67) (σ 69) (n : Int) = true := by
        cases hh : inS (σ 67) (σ 69) (n : Int) with
        | true => rfl
        | false => rw [hh] at hi; simp at hi
      refine ⟨inR_s (by omega) (by omega), coldN (σ 67) (σ 69) n = -1 ∨ 100 + moreOf (σ 67) (σ 69) (n : Int) < coldN (σ 67) (σ 69) n, fun h3 => ?_, fun h3 => Or.inl h3, fun h3 => ?_⟩
      · rw [if_pos ⟨hi, h3⟩]
      · refine m_more (by omega) (by omega) ⟨inR_s (by omega) (by omega), fun h4 => ?_, fun h4 => ?_⟩
        · intro q
          rcases q.2 with q | q
          · exact h3 q
          · omega
        · exact Or.inr (by omega)
    · intro hi q
      rw [q.1] at hi
      simp at hi
