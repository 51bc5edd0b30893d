/-! ===== the class's nights ===== -/
def BedC (σ : Mem) (b : Nat → Int) : Prop :=
  σ 1 0 = b 0 ∧ σ 1 1 = b 1 ∧ σ 1 2 = b 2 ∧ σ 1 3 = b 3 ∧ (∀ p : Int, 0 ≤ p → p < 6 → σ 2 p.toNat = heatOf b p) ∧
  (∀ s : Int, 0 ≤ s → s < b 2 → σ 3 s.toNat = warm0 b s ∧ σ 4 s.toNat = givesOf b s ∧ σ 5 s.toNat = losesOf b s ∧ σ 6 s.toNat = wakesOf b s) ∧ (∀ i : Int, 0 ≤ i → i < b 3 → σ 7 i.toNat = lawOf b i)
def NightC (σ : Mem) (c : Nat) (r : Nat → Int) : Prop := σ c 3 = r 0 ∧ ∀ p : Int, 0 ≤ p → p < 6 → σ (c + 1) p.toNat = whoOf r p ∧ σ (c + 2) p.toNat = warmOf r p
theorem BedC.keep {σ τ : Mem} {b : Nat → Int} (h : BedC σ b) (hf : ∀ d, 1 ≤ d → d ≤ 7 → τ d = σ d) : BedC τ b := by
  unfold BedC
  rw [hf 1 (by omega) (by omega), hf 2 (by omega) (by omega), hf 3 (by omega) (by omega), hf 4 (by omega) (by omega), hf 5 (by omega) (by omega), hf 6 (by omega) (by omega), hf 7 (by omega) (by omega)]
  exact h
theorem NightC.keep {σ τ : Mem} {c : Nat} {r : Nat → Int} (h : NightC σ c r) (h0 : τ c = σ c) (h1 : τ (c + 1) = σ (c + 1)) (h2 : τ (c + 2) = σ (c + 2)) : NightC τ c r := by
  unfold NightC
  rw [h0, h1, h2]
  exact h
theorem isN_ge {c : Nat} (h : isN c) : 17 ≤ c ∧ c ≤ 48 := by unfold isN at h; omega
theorem c_hasPlace {s : Int} {σ : Mem} {b : Nat → Int} {Q : Int → Prop} (bc : BedC σ b) (ok : BedOk b) (h1 : inR s) (hq : Q (if 0 ≤ s ∧ s < b 0 then 1 else 0)) : wp_X0_hasPlace s σ Q := by
  have hn := ok.n6
  unfold wp_X0_hasPlace
  rw [bc.1]
  refine ⟨h1, fun h => ?_, fun h => ⟨inR_s (by omega) (by omega), fun g => ?_, fun g => ?_⟩⟩
  · rw [if_neg (by omega)] at hq; exact hq
  · rw [if_neg (by omega)] at hq; exact hq
  · rw [if_pos (by omega)] at hq; exact hq
theorem c_hasSleeper {s : Int} {σ : Mem} {b : Nat → Int} {Q : Int → Prop} (bc : BedC σ b) (ok : BedOk b) (h1 : inR s) (hq : Q (if 0 ≤ s ∧ s < b 2 then 1 else 0)) : wp_X0_hasSleeper s σ Q := by
  have hn := ok.s6
  unfold wp_X0_hasSleeper
  rw [bc.2.2.1]
  refine ⟨h1, fun h => ?_, fun h => ⟨inR_s (by omega) (by omega), fun g => ?_, fun g => ?_⟩⟩
  · rw [if_neg (by omega)] at hq; exact hq
  · rw [if_neg (by omega)] at hq; exact hq
  · rw [if_pos (by omega)] at hq; exact hq
theorem c_placeOf {c : Nat} {s : Int} {σ : Mem} {b r : Nat → Int} {Q : Int → Prop} (bc : BedC σ b) (nc : NightC σ c r) (ok : BedOk b) (nk : NightOk b r) (hs : inR s) (hs1 : s ≠ -1) (hq : Q (plOf b r s)) : wp_X4_placeOf c s σ Q := by
  have hn := ok.n6
  have h6 := ok.s6
  unfold wp_X4_placeOf
  rw [bc.1]
  refine ⟨fun k y => ∃ n : Nat, y = (n : Int) ∧ (n : Int) ≤ b 0 ∧ k + n = (b 0).toNat ∧ ∀ p : Int, 0 ≤ p → p < (n : Int) → whoOf r p ≠ s, ?_, (b 0).toNat, 0, rfl, by omega, rfl, fun p h0 h1 => by omega⟩
  rintro k y ⟨n, rfl, i1, i2, i3⟩
  refine ⟨inR_s (by omega) (by omega), inR_s (by omega) (by omega), fun h => ?_, fun h => ?_⟩
  · have e : (-1 : Int) = plOf b r s := IsPl.uniq ok nk hs1 (Or.inr ⟨rfl, fun p h0 h1 => i3 p h0 (by omega)⟩)
    rw [e]; exact hq
  · rw [(nc.2 (n : Int) (by omega) (by omega)).1]
    have hw := (nk.1 (n : Int) (by omega) (by omega)).1
    refine ⟨by omega, inR_s (by omega) (by omega), hs, fun g => ?_, fun g => ?_⟩
    · have e : (n : Int) = plOf b r s := IsPl.uniq ok nk hs1 (Or.inl ⟨by omega, by omega, g⟩)
      rw [e]; exact hq
    · rintro x rfl
      refine ⟨k - 1, by omega, n + 1, by omega, by omega, by omega, fun p h0 h1 => ?_⟩
      by_cases hp : p = (n : Int)
      · rw [hp]; exact g
      · exact i3 p h0 (by omega)
theorem c_inBed {c : Nat} {σ : Mem} {b r : Nat → Int} {Q : Int → Prop} (bc : BedC σ b) (nc : NightC σ c r) (ok : BedOk b) (nk : NightOk b r) (hq : Q (inV b r)) : wp_X4_inBed c σ Q := by
  have hn := ok.n6
  have h6 := ok.s6
  unfold wp_X4_inBed
  rw [bc.1]
  refine ⟨fun k y1 y2 => ∃ n : Nat, y2 = (n : Int) ∧ (n : Int) ≤ b 0 ∧ y1 = bset (inT r n) ∧ k + n = (b 0).toNat, ?_, (b 0).toNat, 0, rfl, by omega, rfl, rfl⟩
  rintro k y1 y2 ⟨n, rfl, h1, rfl, h2⟩
  refine ⟨inR_s (by omega) (by omega), inR_s (by omega) (by omega), fun h => ?_, fun h => ?_⟩
  · have e : n = (b 0).toNat := by omega
    rw [e]; exact hq
  · rw [(nc.2 (n : Int) (by omega) (by omega)).1]
    have hw := (nk.1 (n : Int) (by omega) (by omega)).1
    refine ⟨by omega, inR_s (by omega) (by omega), ?_⟩
    rintro v rfl x rfl
    refine ⟨k - 1, by omega, n + 1, by omega, by omega, ?_, by omega⟩
    by_cases hm : whoOf r (n : Int) = -1
    · rw [if_pos hm]
      refine bset_ext (fun s g0 g1 => ?_)
      rw [inT_succ, hm, decide_eq_false (by omega), Bool.or_false]
    · rw [if_neg hm, bset_or _ (by omega) (by omega)]
      refine bset_ext (fun s g0 g1 => ?_)
      rw [inT_succ]
def upV (b r : Nat → Int) : Int := zand ((zshl 1 (b 2)) - 1) (zxor (inV b r) (-1))
theorem c_up {c : Nat} {σ : Mem} {b r : Nat → Int} {Q : Int → Prop} (bc : BedC σ b) (nc : NightC σ c r) (ok : BedOk b) (nk : NightOk b r) (hq : Q (upV b r)) : wp_X4_up c σ Q := by
  unfold wp_X4_up
  rw [bc.2.2.1]
  exact c_inBed bc nc ok nk hq
/-- no earlier place holds who is in place n -/
theorem inT_new {b r : Nat → Int} (nk : NightOk b r) {n : Nat} (hn : n < 6) (h : whoOf r (n : Int) ≠ -1) : inT r n (whoOf r (n : Int)) = false := by
  unfold inT
  refine decide_eq_false (fun q => q ?_)
  rcases plN_spec r (whoOf r (n : Int)) n with ⟨a, b, c⟩ | ⟨a, _⟩
  · have := nk.2 _ _ a (by omega) (by omega) (by omega) c (by rw [c]; exact h)
    omega
  · exact a
theorem inT_S {b r : Nat → Int} {n : Nat} (h : n = (b 0).toNat) (s : Int) : inT r n s = inS b r s := by rw [h]; rfl
theorem c_awake {c : Nat} {σ : Mem} {b r : Nat → Int} {Q : Int → Prop} (bc : BedC σ b) (nc : NightC σ c r) (ok : BedOk b) (nk : NightOk b r) (hq : Q (awV b r)) : wp_X4_awake c σ Q := by
  have hn := ok.n6
  have h6 := ok.s6
  unfold wp_X4_awake
  rw [bc.1]
  refine ⟨fun k y1 y2 => ∃ n : Nat, y2 = (n : Int) ∧ (n : Int) ≤ b 0 ∧ y1 = bset (fun s => inT r n s && decide (moreOf b r s ≤ 0)) ∧ k + n = (b 0).toNat, ?_, (b 0).toNat, 0, rfl, by omega, rfl, rfl⟩
  rintro k y1 y2 ⟨n, rfl, h1, rfl, h2⟩
  refine ⟨inR_s (by omega) (by omega), inR_s (by omega) (by omega), fun h => ?_, fun h => ⟨by omega, ?_⟩⟩
  · have e : bset (fun s => inT r n s && decide (moreOf b r s ≤ 0)) = awV b r := by
      refine bset_ext (fun s _ _ => ?_)
      rw [inT_S (b := b) (by omega)]; rfl
    rw [e]; exact hq
  · rw [(nc.2 (n : Int) (by omega) (by omega)).1]
    have hw := (nk.1 (n : Int) (by omega) (by omega)).1
    rintro x3 rfl
    refine ⟨inR_s (by omega) (by omega), ⟨fun _ => trivial, fun g => ?_⟩, ?_⟩
    · have hk := (nk.1 (whoOf r (n : Int)) (by omega) (by omega)).2.2
      have hb := (ok.2.2.2.2.2.1 (whoOf r (n : Int)) (by omega) (by omega)).2.2.2
      rw [(nc.2 (whoOf r (n : Int)) (by omega) (by omega)).2, (bc.2.2.2.2.2.1 (whoOf r (n : Int)) (by omega) (by omega)).2.2.2]
      exact ⟨by omega, inR_s (by omega) (by omega), inR_s (by omega) (by omega)⟩
    · rintro v rfl x rfl
      refine ⟨k - 1, by omega, n + 1, by omega, by omega, ?_, by omega⟩
      by_cases hm : whoOf r (n : Int) = -1
      · rw [if_pos hm]
        refine bset_ext (fun s g0 g1 => ?_)
        rw [inT_succ, hm, decide_eq_false (show ¬ s = -1 by omega), Bool.or_false]
      · rw [if_neg hm, (nc.2 (whoOf r (n : Int)) (by omega) (by omega)).2, (bc.2.2.2.2.2.1 (whoOf r (n : Int)) (by omega) (by omega)).2.2.2]
        by_cases hc : wakesOf b (whoOf r (n : Int)) < warmOf r (whoOf r (n : Int))
        · rw [if_pos hc]
          refine bset_ext (fun s g0 g1 => ?_)
          rw [inT_succ]
          by_cases hs : s = whoOf r (n : Int)
          · have hm0 : decide (moreOf b r s ≤ 0) = false := decide_eq_false (by unfold moreOf; rw [hs]; omega)
            rw [hm0, Bool.and_false, Bool.and_false]
          · rw [decide_eq_false hs, Bool.or_false]
        · rw [if_neg hc, bset_or _ (by omega) (by omega)]
          refine bset_ext (fun s g0 g1 => ?_)
          rw [inT_succ]
          by_cases hs : s = whoOf r (n : Int)
          · have hm0 : decide (moreOf b r s ≤ 0) = true := decide_eq_true (by unfold moreOf; rw [hs]; omega)
            rw [hm0, decide_eq_true hs, Bool.or_true, Bool.or_true]; rfl
          · rw [decide_eq_false hs, Bool.or_false, Bool.or_false]
def IsCold (b r : Nat → Int) (F : Int → Bool) (v : Int) : Prop := (v = -1 ∧ ∀ s : Int, 0 ≤ s → s < b 2 → F s = false) ∨ (2 ≤ v ∧ v ≤ 199 ∧ (∃ s : Int, 0 ≤ s ∧ s < b 2 ∧ F s = true ∧ v = 100 + moreOf b r s) ∧ ∀ s : Int, 0 ≤ s → s < b 2 → F s = true → v ≤ 100 + moreOf b r s)
theorem IsCold.uniq {b r : Nat → Int} {F : Int → Bool} {v w : Int} (h : IsCold b r F v) (g : IsCold b r F w) : v = w := by
  rcases h with ⟨h1, h2⟩ | ⟨h1, h2, ⟨s, s1, s2, s3, s4⟩, h4⟩ <;> rcases g with ⟨g1, g2⟩ | ⟨g1, g2, ⟨t, t1, t2, t3, t4⟩, g4⟩
  · omega
  · rw [h2 t t1 t2] at t3; cases t3
  · rw [g2 s s1 s2] at s3; cases s3
  · have := h4 t t1 t2 t3
    have := g4 s s1 s2 s3
    omega
theorem coldV_spec {b r : Nat → Int} (ok : BedOk b) (nk : NightOk b r) : IsCold b r (inS b r) (coldV b r) := by
  have h6 := ok.s6
  have := coldN_in ok nk (b 2).toNat (by omega)
  rw [Int.toNat_of_nonneg h6.1] at this
  exact this
theorem c_coldest {c : Nat} {σ : Mem} {b r : Nat → Int} {Q : Int → Prop} (bc : BedC σ b) (nc : NightC σ c r) (ok : BedOk b) (nk : NightOk b r) (hq : Q (coldV b r)) : wp_X4_coldest c σ Q := by
  have hn := ok.n6
  have h6 := ok.s6
  unfold wp_X4_coldest
  rw [bc.1]
  refine ⟨fun k y1 y2 => ∃ n : Nat, y2 = (n : Int) ∧ (n : Int) ≤ b 0 ∧ IsCold b r (inT r n) y1 ∧ k + n = (b 0).toNat, ?_, (b 0).toNat, 0, rfl, by omega, Or.inl ⟨rfl, fun _ _ _ => rfl⟩, rfl⟩
  rintro k y1 y2 ⟨n, rfl, h1, hI, h2⟩
  have hy : -1 ≤ y1 ∧ y1 ≤ 199 := by rcases hI with ⟨a, _⟩ | ⟨a, b, _⟩ <;> omega
  refine ⟨inR_s (by omega) (by omega), inR_s (by omega) (by omega), fun h => ?_, fun h => ⟨by omega, ?_⟩⟩
  · have e : y1 = coldV b r := IsCold.uniq (F := inS b r) (by
      have : inT r n = inS b r := funext (fun s => inT_S (b := b) (by omega) s)
      rw [← this]; exact hI) (coldV_spec ok nk)
    rw [e]; exact hq
  · rw [(nc.2 (n : Int) (by omega) (by omega)).1]
    have hw := (nk.1 (n : Int) (by omega) (by omega)).1
    rintro x3 rfl
    by_cases hm : whoOf r (n : Int) = -1
    · refine ⟨inR_s (by omega) (by omega), ⟨fun _ => trivial, fun g => absurd hm g⟩, ?_⟩
      rintro v rfl x rfl
      refine ⟨k - 1, by omega, n + 1, by omega, by omega, ?_, by omega⟩
      rw [if_pos hm]
      have e : ∀ s : Int, 0 ≤ s → inT r (n + 1) s = inT r n s := fun s g0 => by rw [inT_succ, hm, decide_eq_false (by omega), Bool.or_false]
      rcases hI with ⟨a, b⟩ | ⟨a, b, ⟨s, s1, s2, s3, s4⟩, d⟩
      · exact Or.inl ⟨a, fun s g0 g1 => by rw [e s g0]; exact b s g0 g1⟩
      · exact Or.inr ⟨a, b, ⟨s, s1, s2, by rw [e s s1]; exact s3, s4⟩, fun s g0 g1 g2 => d s g0 g1 (by rw [← e s g0]; exact g2)⟩
    · have hmo := more_in ok nk (s := whoOf r (n : Int)) (by omega) (by omega)
      rw [(nc.2 (whoOf r (n : Int)) (by omega) (by omega)).2, (bc.2.2.2.2.2.1 (whoOf r (n : Int)) (by omega) (by omega)).2.2.2]
      have em : 100 + warmOf r (whoOf r (n : Int)) - wakesOf b (whoOf r (n : Int)) = 100 + moreOf b r (whoOf r (n : Int)) := by unfold moreOf; omega
      rw [em]
      refine ⟨inR_s (by omega) (by omega), ⟨fun _ => trivial, fun g => ⟨by omega, inR_s (by omega) (by omega), fun _ => trivial, fun _ => inR_s (by omega) (by omega)⟩⟩, ?_⟩
      rintro v rfl x rfl
      refine ⟨k - 1, by omega, n + 1, by omega, by omega, ?_, by omega⟩
      rw [if_neg hm]
      generalize hwe : whoOf r (n : Int) = w at hm hw hmo ⊢
      have e1 : inT r (n + 1) w = true := by rw [inT_succ, hwe, decide_eq_true rfl, Bool.or_true]
      have e2 : ∀ s : Int, s ≠ w → inT r (n + 1) s = inT r n s := fun s g => by rw [inT_succ, hwe, decide_eq_false g, Bool.or_false]
      have e3 : ∀ s : Int, inT r n s = true → inT r (n + 1) s = true := fun s g => by rw [inT_succ, g, Bool.true_or]
      rcases hI with ⟨a, b'⟩ | ⟨a, b', ⟨s, s1, s2, s3, s4⟩, d⟩
      · rw [if_pos a]
        refine Or.inr ⟨by omega, by omega, ⟨w, by omega, by omega, e1, rfl⟩, fun s g0 g1 g2 => ?_⟩
        by_cases hs : s = w
        · rw [hs]; omega
        · rw [e2 s hs, b' s g0 g1] at g2; cases g2
      · rw [if_neg (by omega)]
        by_cases hc : y1 ≤ 100 + moreOf b r w
        · rw [if_pos hc]
          refine Or.inr ⟨a, b', ⟨s, s1, s2, e3 s s3, s4⟩, fun s g0 g1 g2 => ?_⟩
          by_cases hs : s = w
          · rw [hs]; exact hc
          · exact d s g0 g1 (by rw [← e2 s hs]; exact g2)
        · rw [if_neg hc]
          refine Or.inr ⟨by omega, by omega, ⟨w, by omega, by omega, e1, rfl⟩, fun s g0 g1 g2 => ?_⟩
          by_cases hs : s = w
          · rw [hs]; omega
          · have := d s g0 g1 (by rw [← e2 s hs]; exact g2)
            omega
