theorem c_turn {c : Nat} {w : Int} {σ : Mem} {b r : Nat → Int} {Q : Mem → Prop} (hc : isN c) (bc : BedC σ b) (nc : NightC σ c r) (ok : BedOk b) (nk : NightOk b r) (hw : inR w) (hq : ∀ σ' : Mem, NightC σ' c (turnsR b r w) → (∀ d, d ≠ c + 1 → σ' d = σ d) → Q σ') : wp_X4_turn c w σ Q := by
  have hn := ok.n6
  have key : ∀ σ' : Mem, (∀ d, d ≠ c + 1 → σ' d = σ d) → (∀ p : Int, 0 ≤ p → p < 6 → σ' (c + 1) p.toNat = if p < b 0 then tw b r w p else whoOf r p) → Q σ' := by
    intro σ' hf hp
    refine hq σ' ⟨by rw [hf c (by omega), nc.1, turnsR_0], fun p h0 h1 => ⟨by rw [hp p h0 h1, whoOf_turnsR h0], by rw [hf (c + 2) (by omega), (nc.2 p h0 h1).2, warmOf_turnsR hn.2 h0]⟩⟩ hf
  have who : ∀ p : Int, 0 ≤ p → p < 6 → σ (c + 1) p.toNat = whoOf r p := fun p h0 h1 => (nc.2 p h0 h1).1
  unfold wp_X4_turn
  rw [bc.1]
  rintro x2 rfl
  refine ⟨inR_s (by omega) (by omega), fun h => ?_, fun h => ?_⟩
  · rintro x3 rfl
    refine ⟨by omega, ?_⟩
    rintro x4 rfl
    have e0 : σ (c + 1) 0 = whoOf r 0 := who 0 (by omega) (by omega)
    rw [e0, who (b 0 - 1) (by omega) (by omega)]
    refine ⟨hw, fun h1 => ?_, fun h1 => ⟨fun h2 => ?_, fun h2 => ⟨fun h3 => ?_, fun h3 => ?_⟩⟩⟩
    · refine ⟨fun k y s => 0 ≤ y ∧ y ≤ b 0 - 1 ∧ (k : Int) = y ∧ (∀ d, d ≠ c + 1 → s d = σ d) ∧ ∀ p : Int, 0 ≤ p → p < 6 → s (c + 1) p.toNat = if y < p ∧ p < b 0 then whoOf r (p - 1) else whoOf r p, ?_, (b 0 - 1).toNat, by omega, by omega, by omega, fun _ _ => rfl, fun p h0 h1 => by rw [if_neg (by omega)]; exact who p h0 h1⟩
      rintro k y s ⟨i1, i2, i3, i4, i5⟩
      refine ⟨inR_s (by omega) (by omega), fun g => ?_, fun g => ⟨by omega, by omega, ?_⟩⟩
      · rintro s10 rfl
        refine key _ (fun d hd => by rw [up2_c hd]; exact i4 d hd) (fun p h0 h1' => ?_)
        rw [up2_e]
        unfold tw
        rw [if_pos h1]
        by_cases hp : p = 0
        · rw [if_pos (by omega), if_pos (by omega), if_pos hp]
        · rw [if_neg (by omega), i5 p h0 h1', if_neg hp]
          by_cases hp2 : p < b 0
          · rw [if_pos (by omega), if_pos hp2]
          · rw [if_neg (by omega), if_neg hp2]
      · rintro s13 rfl x rfl
        refine ⟨k - 1, by omega, by omega, by omega, by omega, fun d hd => by rw [up2_c hd]; exact i4 d hd, fun p h0 h1' => ?_⟩
        rw [up2_e]
        by_cases hp : p = y
        · rw [if_pos (by rw [hp]), i5 (y - 1) (by omega) (by omega), if_neg (by omega), if_pos (by omega), hp]
        · rw [if_neg (by omega), i5 p h0 h1']
          by_cases hp2 : y < p ∧ p < b 0
          · rw [if_pos hp2, if_pos (by omega)]
          · rw [if_neg hp2, if_neg (by omega)]
    · refine ⟨fun k y s => 0 ≤ y ∧ y ≤ b 0 - 1 ∧ (k : Int) + y = b 0 - 1 ∧ (∀ d, d ≠ c + 1 → s d = σ d) ∧ ∀ p : Int, 0 ≤ p → p < 6 → s (c + 1) p.toNat = if p < y then whoOf r (p + 1) else whoOf r p, ?_, (b 0 - 1).toNat, by omega, by omega, by omega, fun _ _ => rfl, fun p h0 h1 => by rw [if_neg (by omega)]; exact who p h0 h1⟩
      rintro k y s ⟨i1, i2, i3, i4, i5⟩
      refine ⟨inR_s (by omega) (by omega), fun g => ?_, fun g => ⟨by omega, by omega, ?_⟩⟩
      · rintro s10 rfl
        refine key _ (fun d hd => by rw [up2_c hd]; exact i4 d hd) (fun p h0 h1' => ?_)
        rw [up2_e]
        unfold tw
        rw [if_neg h1, if_pos h2]
        by_cases hp : p = b 0 - 1
        · rw [if_pos (by rw [hp]), if_pos (by omega), if_pos hp]
        · rw [if_neg (by omega), i5 p h0 h1', if_neg hp]
          by_cases hp2 : p < b 0
          · rw [if_pos (by omega), if_pos hp2]
          · rw [if_neg (by omega), if_neg hp2]
      · rintro s13 rfl x rfl
        refine ⟨k - 1, by omega, by omega, by omega, by omega, fun d hd => by rw [up2_c hd]; exact i4 d hd, fun p h0 h1' => ?_⟩
        rw [up2_e]
        by_cases hp : p = y
        · rw [if_pos (by rw [hp]), i5 (y + 1) (by omega) (by omega), if_neg (by omega), if_pos (by omega), hp]
        · rw [if_neg (by omega), i5 p h0 h1']
          by_cases hp2 : p < y
          · rw [if_pos hp2, if_pos (by omega)]
          · rw [if_neg hp2, if_neg (by omega)]
    · rintro s27 rfl s28 rfl
      refine key _ (fun d hd => by rw [up2_c hd, up2_c hd]) (fun p h0 h1' => ?_)
      rw [up2_e, up2_e]
      unfold tw
      rw [if_neg h1, if_neg h2, if_pos h3]
      by_cases hp : p = b 0 - 1
      · rw [if_pos (by rw [hp]), if_pos (by omega), if_neg (by omega), if_pos hp]
      · rw [if_neg (by omega)]
        by_cases hp0 : p = 0
        · rw [if_pos (by omega), if_pos (by omega), if_pos hp0]
        · rw [if_neg (by omega), if_neg hp0, if_neg hp, who p h0 h1', ite_self]
    · refine key _ (fun _ _ => rfl) (fun p h0 h1' => ?_)
      unfold tw
      rw [if_neg h1, if_neg h2, if_neg h3, who p h0 h1', ite_self]
  · refine key _ (fun _ _ => rfl) (fun p h0 h1' => ?_)
    have := ok.1
    rw [if_neg (by omega), who p h0 h1']
theorem c_givenFrom {c : Nat} {p : Int} {σ : Mem} {b r : Nat → Int} {Q : Int → Prop} (bc : BedC σ b) (nc : NightC σ c r) (ok : BedOk b) (nk : NightOk b r) (h0 : -1 ≤ p) (h1 : p < 6) (hq : Q (if p = -1 then 0 else gv b (whoOf r p))) : wp_X4_givenFrom c p σ Q := by
  have h6 := ok.s6
  unfold wp_X4_givenFrom
  refine ⟨inR_s (by omega) (by omega), fun h => ?_, fun h => ?_⟩
  · rw [if_pos h] at hq; exact hq
  · rw [if_neg h] at hq
    rw [(nc.2 p (by omega) h1).1]
    have hw := (nk.1 p (by omega) h1).1
    unfold gv at hq
    refine ⟨by omega, inR_s (by omega) (by omega), fun g => ?_, fun g => ⟨by omega, ?_⟩⟩
    · rw [if_pos g] at hq; exact hq
    · rw [if_neg g] at hq
      rw [(bc.2.2.2.2.2.1 _ (by omega) hw.2).2.1]
      exact hq
theorem c_givenTo {c : Nat} {p : Int} {σ : Mem} {b r : Nat → Int} {Q : Int → Prop} (bc : BedC σ b) (nc : NightC σ c r) (ok : BedOk b) (nk : NightOk b r) (h0 : 0 ≤ p) (h1 : p < b 0) (hq : Q (gv b (ahead b r p) + gv b (behind_ b r p))) : wp_X4_givenTo c p σ Q := by
  have hn := ok.n6
  have hb1 := ok.2.1
  unfold wp_X4_givenTo
  rw [bc.1, bc.2.1]
  rintro x2 rfl
  refine ⟨inR_s (by omega) (by omega), ⟨fun _ => trivial, fun _ => inR_s (by omega) (by omega)⟩, ?_⟩
  rintro v4 e4
  have hv4 : (v4 = 0 ∧ (b 1 = 0 ∨ b 0 ≤ 2)) ∨ (v4 = 1 ∧ b 1 = 1 ∧ 2 < b 0) := by
    rw [e4]
    split
    · omega
    · split <;> omega
  clear e4
  refine ⟨inR_s (by omega) (by omega), ⟨fun _ => inR_s (by omega) (by omega), fun _ => trivial⟩, ?_⟩
  rintro v7 e7
  refine ⟨inR_s (by omega) (by omega), ⟨fun _ => inR_s (by omega) (by omega), fun _ => trivial⟩, ?_⟩
  rintro v10 e10
  have h7 : -1 ≤ v7 ∧ v7 < 6 := by rw [e7]; split <;> first | omega | (split <;> omega)
  have h10 : -1 ≤ v10 ∧ v10 < 6 := by rw [e10]; split <;> first | omega | (split <;> omega)
  refine c_givenFrom bc nc ok nk h7.1 h7.2 (c_givenFrom bc nc ok nk h10.1 h10.2 ?_)
  have ea : (if v7 = -1 then 0 else gv b (whoOf r v7)) = gv b (ahead b r p) := by
    unfold ahead
    rw [e7]
    by_cases q : p ≤ 0
    · rw [if_pos q, if_pos q]
      rcases hv4 with ⟨q1, q2⟩ | ⟨q1, q2, q3⟩
      · rw [if_pos q1, if_pos rfl]
        by_cases q3 : b 1 = 1
        · rw [if_pos q3, if_pos (by omega)]; rfl
        · rw [if_neg q3]; rfl
      · rw [if_neg (by omega), if_neg (by omega), if_pos q2, if_neg (by omega)]
    · rw [if_neg q, if_neg q, if_neg (by omega)]
  have eb : (if v10 = -1 then 0 else gv b (whoOf r v10)) = gv b (behind_ b r p) := by
    unfold behind_
    rw [e10]
    by_cases q : b 0 - 1 ≤ p
    · rw [if_pos q, if_pos q]
      rcases hv4 with ⟨q1, q2⟩ | ⟨q1, q2, q3⟩
      · rw [if_pos q1, if_pos rfl]
        by_cases q3 : b 1 = 1
        · rw [if_pos q3, if_pos (by omega)]; rfl
        · rw [if_neg q3]; rfl
      · rw [if_neg (by omega), if_neg (by omega), if_pos q2, if_neg (by omega)]
    · rw [if_neg q, if_neg q, if_neg (by omega)]
  rw [ea, eb]
  exact hq
theorem mul_in {n d : Int} (h0 : 1 ≤ n) (h1 : n ≤ 9) (g0 : -40 ≤ d) (g1 : d ≤ 27) : -360 ≤ n * d ∧ n * d ≤ 243 := by
  have : n = 1 ∨ n = 2 ∨ n = 3 ∨ n = 4 ∨ n = 5 ∨ n = 6 ∨ n = 7 ∨ n = 8 ∨ n = 9 := by omega
  rcases this with rfl | rfl | rfl | rfl | rfl | rfl | rfl | rfl | rfl <;> omega
theorem c_stay {c : Nat} {n : Int} {σ : Mem} {b r : Nat → Int} {Q : Mem → Prop} (hc : isN c) (bc : BedC σ b) (nc : NightC σ c r) (ok : BedOk b) (nk : NightOk b r) (hn1 : 1 ≤ n) (hn9 : n ≤ 9) (hq : ∀ σ' : Mem, NightC σ' c (warmR b r n) → (∀ d, d ≠ c + 2 → σ' d = σ d) → Q σ') : wp_X4_stay c n σ Q := by
  have hn := ok.n6
  have h6 := ok.s6
  have hc7 := isN_ge hc
  unfold wp_X4_stay
  refine ⟨fun k y2 y3 u => ∃ i : Nat, y3 = (i : Int) ∧ (i : Int) ≤ b 0 ∧ k + i = (b 0).toNat ∧ y2 = bset (inT r i) ∧ (∀ d, d ≠ c + 2 → u d = σ d) ∧ ∀ s : Int, 0 ≤ s → s < 6 → u (c + 2) s.toNat = if inT r i s then clamp (warmOf r s + n * dl b r s) else warmOf r s, ?_, (b 0).toNat, 0, rfl, by omega, rfl, rfl, fun _ _ => rfl, fun s h0 h1 => (nc.2 s h0 h1).2⟩
  rintro k y2 y3 u ⟨i, rfl, i1, i2, rfl, i4, i5⟩
  have bu : BedC u b := bc.keep (fun d h0 h1 => i4 d (by omega))
  rw [bu.1]
  refine ⟨inR_s (by omega) (by omega), inR_s (by omega) (by omega), fun h => ?_, fun h => ?_⟩
  · have eS : inT r i = inS b r := funext (fun s => inT_S (b := b) (by omega) s)
    rw [eS] at i5 ⊢
    refine ⟨fun k y v => ∃ j : Nat, y = (j : Int) ∧ (j : Int) ≤ b 2 ∧ k + j = (b 2).toNat ∧ (∀ d, d ≠ c + 2 → v d = σ d) ∧ ∀ s : Int, 0 ≤ s → s < 6 → v (c + 2) s.toNat = if inS b r s = true ∨ s < (j : Int) then clamp (warmOf r s + n * dl b r s) else warmOf r s, ?_, (b 2).toNat, 0, rfl, by omega, rfl, i4, fun s h0 h1 => by
      rw [i5 s h0 h1]
      cases inS b r s with
      | true => rw [if_pos rfl, if_pos (Or.inl rfl)]
      | false => rw [if_neg (by decide), if_neg (by rintro (h | h) <;> first | omega | cases h)]⟩
    rintro k y v ⟨j, rfl, j1, j2, j3, j4⟩
    have bv : BedC v b := bc.keep (fun d h0 h1 => j3 d (by omega))
    rw [bv.2.2.1]
    refine ⟨inR_s (by omega) (by omega), inR_s (by omega) (by omega), fun g => ?_, fun g => ?_⟩
    · refine hq v ⟨by rw [j3 c (by omega), nc.1]; unfold warmR; rw [if_neg (by omega)], fun p h0 h1 => ⟨by rw [j3 (c + 1) (by omega), (nc.2 p h0 h1).1, whoOf_warmR h0 h1], ?_⟩⟩ j3
      rw [j4 p h0 h1, warmOf_warmR h0]
      by_cases hp : p < b 2
      · rw [if_pos (Or.inr (by omega)), if_pos hp]
      · rw [if_neg hp, if_neg]
        rintro (q | q)
        · have := inS_lt ok nk h0 q; omega
        · omega
    · have ht := bset_test (inS b r) (s := (j : Int)) (by omega) (by omega)
      rw [ht]
      have hl := (ok.2.2.2.2.2.1 (j : Int) (by omega) (by omega)).2.2.1
      have hwm := (nk.1 (j : Int) (by omega) (by omega)).2.2
      have hd := dl_in ok nk (s := (j : Int)) (by omega) (by omega)
      have hm := mul_in hn1 hn9 hd.1 hd.2
      refine ⟨by split <;> exact inR_s (by omega) (by omega), fun w => (∀ d, d ≠ c + 2 → w d = σ d) ∧ ∀ s : Int, 0 ≤ s → s < 6 → w (c + 2) s.toNat = if inS b r s = true ∨ s < (j : Int) + 1 then clamp (warmOf r s + n * dl b r s) else warmOf r s, ?_, fun g1 => ?_, fun g1 => ?_⟩
      · rintro w ⟨w1, w2⟩ x rfl
        exact ⟨k - 1, by omega, j + 1, by omega, by omega, by omega, w1, fun s h0 h1 => w2 s h0 h1⟩
      · have hin : inS b r (j : Int) = false := by
          cases hh : inS b r (j : Int) with
          | false => rfl
          | true => rw [hh] at g1; simp at g1
        have hpl : plOf b r (j : Int) = -1 := by
          have := of_decide_eq_false hin
          exact Decidable.of_not_not this
        have ew : v (c + 2) (j : Int).toNat = warmOf r (j : Int) := by
          rw [j4 _ (by omega) (by omega), if_neg (by rw [hin]; rintro (h | h) <;> first | omega | cases h)]
        rw [ew, (bv.2.2.2.2.2.1 (j : Int) (by omega) (by omega)).2.2.1]
        have hdl : dl b r (j : Int) = -2 * losesOf b (j : Int) := by unfold dl; rw [if_pos hpl]
        have hmm : n * dl b r (j : Int) = -(n * 2 * losesOf b (j : Int)) := by rw [hdl, Int.neg_mul, Int.mul_neg, Int.mul_assoc]
        refine ⟨by omega, inR_s (by omega) (by omega), ?_⟩
        rintro s16 rfl
        refine ⟨fun d hd => by rw [up2_c hd]; exact j3 d hd, fun s h0 h1 => ?_⟩
        rw [up2_e]
        by_cases hs : s = (j : Int)
        · rw [if_pos (by rw [hs]), if_pos (Or.inr (by omega)), hs, hmm]
          unfold clamp
          rw [hmm] at hm
          have hx0 : 0 ≤ n * 2 * losesOf b (j : Int) := Int.mul_nonneg (by omega) hl.1
          split <;> first | omega | (split <;> omega)
        · rw [if_neg (by omega), j4 s h0 h1]
          by_cases hq2 : inS b r s = true ∨ s < (j : Int)
          · rw [if_pos hq2, if_pos (by rcases hq2 with q | q <;> first | exact Or.inl q | exact Or.inr (by omega))]
          · rw [if_neg hq2, if_neg (by rintro (q | q) <;> first | exact hq2 (Or.inl q) | exact hq2 (Or.inr (by omega)))]
      · have hin : inS b r (j : Int) = true := by
          cases hh : inS b r (j : Int) with
          | true => rfl
          | false => rw [hh] at g1; simp at g1
        refine ⟨j3, fun s h0 h1 => ?_⟩
        rw [j4 s h0 h1]
        by_cases hq2 : inS b r s = true ∨ s < (j : Int)
        · rw [if_pos hq2, if_pos (by rcases hq2 with q | q <;> first | exact Or.inl q | exact Or.inr (by omega))]
        · rw [if_neg hq2, if_neg]
          rintro (q | q)
          · exact hq2 (Or.inl q)
          · by_cases hs : s = (j : Int)
            · rw [hs] at hq2; exact hq2 (Or.inl hin)
            · exact hq2 (Or.inr (by omega))
  · refine ⟨by omega, ?_⟩
    have hw := (nk.1 (i : Int) (by omega) (by omega)).1
    rw [i4 (c + 1) (by omega), (nc.2 (i : Int) (by omega) (by omega)).1]
    rintro x4 rfl
    refine ⟨inR_s (by omega) (by omega), fun y w => y = bset (inT r (i + 1)) ∧ (∀ d, d ≠ c + 2 → w d = σ d) ∧ ∀ s : Int, 0 ≤ s → s < 6 → w (c + 2) s.toNat = if inT r (i + 1) s then clamp (warmOf r s + n * dl b r s) else warmOf r s, ?_, fun g => ?_, fun g => ?_⟩
    · rintro y w ⟨rfl, w1, w2⟩ x rfl
      exact ⟨k - 1, by omega, i + 1, by omega, by omega, by omega, rfl, w1, w2⟩
    · have e : ∀ s : Int, 0 ≤ s → inT r (i + 1) s = inT r i s := fun s g0 => by rw [inT_succ, g, decide_eq_false (show ¬ s = -1 by omega), Bool.or_false]
      exact ⟨(bset_ext (fun s g0 g1 => e s g0)).symm, i4, fun s h0 h1 => by rw [e s h0]; exact i5 s h0 h1⟩
    · rintro x2 rfl
      have nu : NightC u c (fun j => if j = 0 then r 0 else if j < 7 then r j else u (c + 2) (j - 7)) := ⟨by rw [i4 c (by omega)]; exact nc.1, fun p h0 h1 => ⟨by rw [i4 (c + 1) (by omega), (nc.2 p h0 h1).1]; unfold whoOf; dsimp only; rw [if_neg (by omega), if_pos (by omega)], by unfold warmOf; dsimp only; rw [if_neg (by omega), if_neg (by omega)]; congr 1; omega⟩⟩
      generalize hru : (fun j => if j = 0 then r 0 else if j < 7 then r j else u (c + 2) (j - 7)) = ru at nu
      have ew : ∀ p : Int, 0 ≤ p → p < 6 → whoOf ru p = whoOf r p := fun p h0 h1 => by rw [← (nu.2 p h0 h1).1, i4 (c + 1) (by omega), (nc.2 p h0 h1).1]
      have eh : ∀ p : Int, 0 ≤ p → p < 6 → 0 ≤ warmOf ru p ∧ warmOf ru p ≤ 99 := fun p h0 h1 => by
        rw [← (nu.2 p h0 h1).2, i5 p h0 h1]
        split
        · exact clamp_in _
        · exact (nk.1 p h0 h1).2.2
      have nku : NightOk b ru := ⟨fun p h0 h1 => by rw [ew p h0 h1]; exact ⟨(nk.1 p h0 h1).1, (nk.1 p h0 h1).2.1, eh p h0 h1⟩, fun p q h0 h1 g0 g1 => by rw [ew p h0 h1, ew q g0 g1]; exact nk.2 p q h0 h1 g0 g1⟩
      refine c_givenTo bu nu ok nku (by omega) (by omega) ⟨by omega, ?_⟩
      have ea : ahead b ru (i : Int) = ahead b r (i : Int) := by
        unfold ahead
        by_cases q : (i : Int) ≤ 0
        · rw [if_pos q, if_pos q]
          by_cases q2 : b 0 ≤ 2
          · rw [if_pos q2, if_pos q2]
          · rw [if_neg q2, if_neg q2, ew _ (by omega) (by omega)]
        · rw [if_neg q, if_neg q, ew _ (by omega) (by omega)]
      have eb : behind_ b ru (i : Int) = behind_ b r (i : Int) := by
        unfold behind_
        by_cases q : b 0 - 1 ≤ (i : Int)
        · rw [if_pos q, if_pos q, ew 0 (by omega) (by omega)]
        · rw [if_neg q, if_neg q, ew _ (by omega) (by omega)]
      rw [ea, eb, bu.2.2.2.2.1 (i : Int) (by omega) (by omega), (bu.2.2.2.2.2.1 (whoOf r (i : Int)) (by omega) (by omega)).2.2.1]
      have hnew : inT r i (whoOf r (i : Int)) = false := inT_new nk (by omega) g
      have eu : u (c + 2) (whoOf r (i : Int)).toNat = warmOf r (whoOf r (i : Int)) := by
        rw [i5 _ (by omega) (by omega), hnew]; rfl
      rw [eu]
      rintro x5 hx5
      have hpl : plOf b r (whoOf r (i : Int)) = (i : Int) := (IsPl.uniq ok nk g (Or.inl ⟨by omega, by omega, rfl⟩)).symm
      have hdl : dl b r (whoOf r (i : Int)) = x5 := by
        unfold dl
        rw [hpl, if_neg (by omega), hx5]
        omega
      have hd := dl_in ok nk (s := whoOf r (i : Int)) (by omega) (by omega)
      have hm := mul_in hn1 hn9 hd.1 hd.2
      have hwm := (nk.1 (whoOf r (i : Int)) (by omega) (by omega)).2.2
      rw [hdl] at hm
      refine ⟨inR_s (by omega) (by omega), inR_s (by omega) (by omega), ?_⟩
      rintro s31 rfl
      refine ⟨?_, fun d hd => by rw [up2_c hd]; exact i4 d hd, fun s h0 h1 => ?_⟩
      · rw [bset_or _ (by omega) (by omega)]
        exact bset_ext (fun s g0 g1 => by rw [inT_succ])
      · rw [up2_e, inT_succ]
        by_cases hs : s = whoOf r (i : Int)
        · rw [if_pos (by rw [hs]), decide_eq_true hs, Bool.or_true, if_pos rfl, hs, hdl]
          unfold clamp
          split <;> first | omega | (split <;> omega)
        · rw [if_neg (by omega), decide_eq_false hs, Bool.or_false]
          exact i5 s h0 h1
theorem c_passHour {c : Nat} {w : Int} {σ : Mem} {b r : Nat → Int} {Q : Mem → Prop} (hc : isN c) (bc : BedC σ b) (nc : NightC σ c r) (ok : BedOk b) (nk : NightOk b r) (hw : inR w) (hq : ∀ σ' : Mem, NightC σ' c (goesR b r w) → (∀ d, d ≠ c → d ≠ c + 1 → d ≠ c + 2 → σ' d = σ d) → Q σ') : wp_X4_passHour c w σ Q := by
  have hc7 := isN_ge hc
  unfold wp_X4_passHour
  refine c_turn hc bc nc ok nk hw (fun t nt ft => ?_)
  refine c_stay hc (bc.keep (fun d h0 h1 => ft d (by omega))) nt ok (nk.turns ok w) (by omega) (by omega) (fun u nu fu => ?_)
  rintro s3 rfl
  refine hq _ ⟨?_, fun p h0 h1 => ?_⟩ (fun d h0 h1 h2 => by rw [up2_c h0, fu d h2, ft d h1])
  · rw [up2_s, nu.1, goesR_0]
    unfold warmR
    rw [if_neg (by omega), turnsR_0]
  · rw [up2_c (by omega), up2_c (by omega)]
    unfold goesR
    rw [whoOf_up0 h0, warmOf_up0 h0]
    exact nu.2 p h0 h1
theorem c_lawAt {h : Int} {σ : Mem} {b : Nat → Int} {Q : Int → Prop} (bc : BedC σ b) (ok : BedOk b) (hh : inR h ∧ 0 ≤ h) (hq : Q (lawOf b (h % b 3))) : wp_X0_lawAt h σ Q := by
  have hl := ok.2.2.2.1
  have e : Int.tmod h (b 3) = h % b 3 := Int.tmod_eq_emod_of_nonneg hh.2
  have h1 := Int.emod_nonneg h (show b 3 ≠ 0 by omega)
  have h2 := Int.emod_lt_of_pos h (show 0 < b 3 by omega)
  unfold wp_X0_lawAt
  rw [bc.2.2.2.1, e]
  refine ⟨inR_s (by omega) (by omega), fun g => by omega, fun _ => ⟨hh.1, fun _ => ⟨by omega, by omega, ?_⟩, fun g => absurd hh.2 g⟩⟩
  rw [bc.2.2.2.2.2.2 _ h1 h2]
  exact hq
def lawW (b r : Nat → Int) : Int := lawOf b (r 0 % b 3)
theorem lawW_in {b r : Nat → Int} (ok : BedOk b) : 0 ≤ lawW b r ∧ lawW b r ≤ 3 := by
  have hl := ok.2.2.2.1
  exact ok.2.2.2.2.2.2 _ (Int.emod_nonneg _ (by omega)) (Int.emod_lt_of_pos _ (by omega))
theorem c_passByLaw {c : Nat} {σ : Mem} {b r : Nat → Int} {Q : Mem → Prop} (hc : isN c) (bc : BedC σ b) (nc : NightC σ c r) (ok : BedOk b) (nk : NightOk b r) (hh : inR (r 0) ∧ 0 ≤ r 0) (hq : ∀ σ' : Mem, NightC σ' c (goesR b r (lawW b r)) → (∀ d, d ≠ c → d ≠ c + 1 → d ≠ c + 2 → σ' d = σ d) → Q σ') : wp_X4_passByLaw c σ Q := by
  unfold wp_X4_passByLaw
  have hl := lawW_in (r := r) ok
  rw [nc.1]
  exact c_lawAt bc ok hh (c_passHour hc bc nc ok nk (inR_s (by unfold lawW at hl; omega) (by unfold lawW at hl; omega)) hq)
theorem c_become {c e : Nat} {σ : Mem} {r : Nat → Int} {Q : Mem → Prop} (hc : isN c) (he : isN e) (nc : NightC σ e r) (hq : ∀ σ' : Mem, NightC σ' c r → (∀ d, d ≠ c → d ≠ c + 1 → d ≠ c + 2 → σ' d = σ d) → Q σ') : wp_X4_become c e σ Q := by
  have hce : e + 2 ≠ c + 1 ∧ e ≠ c + 1 ∧ e ≠ c + 2 := by unfold isN at hc he; omega
  unfold wp_X4_become
  rintro s1 rfl s2 rfl s3 rfl
  have a1 : ∀ d, d ≠ c + 1 → upr σ (c + 1) (fun j => if j < 6 then σ (e + 1) j else σ (c + 1) j) d = σ d := fun d h => upr_c h
  refine hq _ ⟨?_, fun p h0 h1 => ⟨?_, ?_⟩⟩ (fun d h0 h1 h2 => by rw [up2_c h0, upr_c h2, upr_c h1])
  · rw [up2_s, upr_c (by omega), upr_c (by omega)]
    exact nc.1
  · rw [up2_c (by omega), upr_c (by omega), upr_s, if_pos (by omega)]
    exact (nc.2 p h0 h1).1
  · rw [up2_c (by omega), upr_s, if_pos (by omega), upr_c (by omega)]
    exact (nc.2 p h0 h1).2
theorem c_code {c : Nat} {σ : Mem} {b r : Nat → Int} {Q : Int → Prop} (nc : NightC σ c r) (ok : BedOk b) (nk : NightOk b r) (hq : Q (codeN r 6)) : wp_X4_code c σ Q := by
  have h6 := ok.s6
  unfold wp_X4_code
  refine ⟨fun k y1 y3 => ∃ n : Nat, n ≤ 6 ∧ y3 = (n : Int) ∧ y1 = codeN r n ∧ k + n = 6, ?_, 6, 0, by omega, rfl, rfl, rfl⟩
  rintro k y1 y3 ⟨n, h1, rfl, rfl, h2⟩
  refine ⟨inR_s (by omega) (by omega), fun h => ?_, fun h => ?_⟩
  · have e : n = 6 := by omega
    rw [e]; exact hq
  · have hw := nk.1 (n : Int) (by omega) (by omega)
    have hcd := codeN_lt5 ok nk n (by omega)
    rw [(nc.2 (n : Int) (by omega) (by omega)).1, (nc.2 (n : Int) (by omega) (by omega)).2, zpack (by omega) (by omega) (by omega) (by omega), yshl10 hcd.1 hcd.2, yor_add hcd.1 hcd.2 (by omega) (by omega)]
    refine ⟨by omega, inR_s (by omega) (by omega), ?_⟩
    rintro x1 rfl x3 rfl
    exact ⟨k - 1, by omega, n + 1, by omega, by omega, rfl, by omega⟩
theorem c_setCode {c : Nat} {h : Int} {σ : Mem} {b r : Nat → Int} {Q : Mem → Prop} (hc : isN c) (ok : BedOk b) (nk : NightOk b r) (hh : h = r 0) (hq : ∀ σ' : Mem, NightC σ' c r → (∀ d, d ≠ c → d ≠ c + 1 → d ≠ c + 2 → σ' d = σ d) → Q σ') : wp_X4_setCode c (codeN r 6) h σ Q := by
  have h6 := ok.s6
  unfold wp_X4_setCode
  refine ⟨fun k y4 y6 s => ∃ n : Nat, n ≤ 6 ∧ y6 + 1 = (n : Int) ∧ k = n ∧ y4 = codeN r n ∧ (∀ d, d ≠ c + 1 → d ≠ c + 2 → s d = σ d) ∧ ∀ p : Int, (n : Int) ≤ p → p < 6 → s (c + 1) p.toNat = whoOf r p ∧ s (c + 2) p.toNat = warmOf r p, ?_, 6, 6, by omega, by omega, rfl, rfl, fun _ _ _ => rfl, fun p h0 h1 => by omega⟩
  rintro k y4 y6 s ⟨n, h1, h2, hk, rfl, h4, h5⟩
  refine ⟨inR_s (by omega) (by omega), fun g => ?_, fun g => ⟨by omega, ?_⟩⟩
  · rintro s5 rfl
    refine hq _ ⟨by rw [up2_s]; exact hh, fun p h0 h7 => ?_⟩ (fun d g0 g1 g2 => by rw [up2_c g0]; exact h4 d g1 g2)
    rw [up2_c (by omega), up2_c (by omega)]
    exact h5 p (by omega) h7
  · obtain ⟨m, rfl⟩ : ∃ m : Nat, n = m + 1 := ⟨n - 1, by omega⟩
    have hcd := codeN_lt ok nk (m + 1) h1
    have hu := codeN_un ok nk (n := m) (by omega)
    rw [yand7 hcd.1 hcd.2, yshr3 hcd.1 hcd.2, yshr10 hcd.1 hcd.2, yand127 (by omega) (by omega), hu.1, hu.2.1, hu.2.2]
    rintro s7 rfl s8 rfl x4 rfl x6 rfl
    refine ⟨m, by omega, m, by omega, by omega, rfl, rfl, fun d g0 g1 => by rw [up2_c g1, up2_c g0]; exact h4 d g0 g1, fun p g0 g1 => ?_⟩
    rw [up2_c (by omega), up2_e, up2_e, up2_c (by omega)]
    by_cases hp : p = (m : Int)
    · rw [if_pos (by omega), if_pos (by omega), hp]; exact ⟨rfl, rfl⟩
    · rw [if_neg (by omega), if_neg (by omega)]
      exact h5 p (by omega) g1
