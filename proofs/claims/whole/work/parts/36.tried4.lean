/-! two beds -/
def sumN (b : Nat → Int) (set : Int) : Nat → Int
  | 0 => 0
  | n + 1 => sumN b set n + (if zand (zshr set (n : Int)) 1 = 1 then givesOf b (n : Int) else -(givesOf b (n : Int)))
theorem sumN_in {b : Nat → Int} (ok : BedOk b) (set : Int) : ∀ n : Nat, (n : Int) ≤ b 2 → -9 * (n : Int) ≤ sumN b set n ∧ sumN b set n ≤ 9 * (n : Int)
  | 0, _ => by unfold sumN; omega
  | n + 1, h => by
    have ih := sumN_in ok set n (by omega)
    have hg := (ok.2.2.2.2.2.1 (n : Int) (by omega) (by omega)).2.1
    unfold sumN
    split <;> omega
def unl (b : Nat → Int) (set : Int) : Int := if 0 ≤ sumN b set (b 2).toNat then sumN b set (b 2).toNat else -(sumN b set (b 2).toNat)
theorem unl_in {b : Nat → Int} (ok : BedOk b) (set : Int) : 0 ≤ unl b set ∧ unl b set ≤ 54 := by
  have h6 := ok.s6
  have := sumN_in ok set (b 2).toNat (by omega)
  unfold unl
  split <;> omega
def tbd (b : Nat → Int) : Nat → Int × Int
  | 0 => (-1, -1)
  | k + 1 => if (tbd b k).1 = -1 ∨ unl b (2 * (k : Int) + 1) < (tbd b k).1 then (unl b (2 * (k : Int) + 1), 2 * (k : Int) + 1) else tbd b k
theorem tbd_in {b : Nat → Int} (ok : BedOk b) : ∀ k : Nat, (k = 0 ∧ tbd b k = (-1, -1)) ∨ (1 ≤ k ∧ 0 ≤ (tbd b k).1 ∧ (tbd b k).1 ≤ 54 ∧ 1 ≤ (tbd b k).2 ∧ (tbd b k).2 ≤ 2 * (k : Int))
  | 0 => Or.inl ⟨rfl, rfl⟩
  | k + 1 => by
    have ih := tbd_in ok k
    have hu := unl_in ok (2 * (k : Int) + 1)
    refine Or.inr ⟨by omega, ?_⟩
    unfold tbd
    by_cases c : (tbd b k).1 = -1 ∨ unl b (2 * (k : Int) + 1) < (tbd b k).1
    · rw [if_pos c]; dsimp only; omega
    · rw [if_neg c]
      rcases ih with ⟨_, e⟩ | ih
      · exact absurd (Or.inl (by rw [e])) c
      · omega
theorem pw_tab : ∀ s : Fin 7, zshl 1 (s.val : Int) = 1 ∧ s.val = 0 ∨ zshl 1 (s.val : Int) = 2 ∧ s.val = 1 ∨ zshl 1 (s.val : Int) = 4 ∧ s.val = 2 ∨ zshl 1 (s.val : Int) = 8 ∧ s.val = 3 ∨ zshl 1 (s.val : Int) = 16 ∧ s.val = 4 ∨ zshl 1 (s.val : Int) = 32 ∧ s.val = 5 ∨ zshl 1 (s.val : Int) = 64 ∧ s.val = 6 := by decide +kernel
theorem pw_in {s : Int} (h0 : 0 ≤ s) (h1 : s ≤ 6) : 1 ≤ zshl 1 s ∧ zshl 1 s ≤ 64 ∧ (s = 0 → zshl 1 s = 1) ∧ (s ≠ 0 → 2 ≤ zshl 1 s ∧ zshl 1 s % 2 = 0) := by
  have T := pw_tab ⟨s.toNat, by omega⟩
  simp only [Int.toNat_of_nonneg h0] at T
  rcases T with ⟨a, c⟩ | ⟨a, c⟩ | ⟨a, c⟩ | ⟨a, c⟩ | ⟨a, c⟩ | ⟨a, c⟩ | ⟨a, c⟩ <;> rw [a] <;> omega
theorem c_unlike {set : Int} {σ : Mem} {b : Nat → Int} {Q : Int → Prop} (bc : BedC σ b) (ok : BedOk b) (hq : Q (unl b set)) : wp_X0_unlike set σ Q := by
  have h6 := ok.s6
  unfold wp_X0_unlike
  rw [bc.2.2.1]
  refine ⟨fun k y z => ∃ i : Nat, z = (i : Int) ∧ (i : Int) ≤ b 2 ∧ k + i = (b 2).toNat ∧ y = sumN b set i, ?_, (b 2).toNat, 0, rfl, by omega, rfl, rfl⟩
  rintro k y z ⟨i, rfl, i1, i2, rfl⟩
  have hs := sumN_in ok set i i1
  refine ⟨inR_s (by omega) (by omega), inR_s (by omega) (by omega), fun h => ⟨inR_s (by omega) (by omega), ?_⟩, fun h => ⟨inR_of _, ⟨fun _ => by omega, fun _ => by omega⟩, ?_⟩⟩
  · have e : i = (b 2).toNat := by omega
    rw [e]; exact hq
  · rw [(bc.2.2.2.2.2.1 (i : Int) (by omega) (by omega)).2.1]
    rintro v rfl x2 rfl x3 rfl
    exact ⟨k - 1, by omega, i + 1, by omega, by omega, by omega, rfl⟩
theorem pub_twoBeds {a : Int} (ha : inR a) : GoodP (fun σ Q => wp_X11_twoBeds a σ Q) (fun σ Q => wp_X12_twoBeds a σ Q) := by
  intro σ ⟨ok, bc, _⟩
  show wp_X11_twoBeds a σ (fun r => wp_X12_twoBeds a σ (fun r' => r = r'))
  have h6 := ok.s6
  have hp := pw_in (s := σ 67 2) h6.1 h6.2
  have e2 : σ 1 2 = σ 67 2 := bc.2.2.1
  generalize hM : zshl 1 (σ 67 2) = M at hp
  have m_part : ∀ v : Int, (¬ (a = 0 ∨ a = 1) → v = -1000000002) → ((a = 0 ∨ a = 1) → v = if a = 0 then (tbd (σ 67) (M / 2).toNat).1 else (tbd (σ 67) (M / 2).toNat).2) → wp_X12_twoBeds a σ (fun r' => v = r') := by
    intro v g1 g2
    unfold wp_X12_twoBeds
    refine ⟨ha, m_in ha inR_0 (inR_s (by omega) (by omega)) ?_⟩
    by_cases q : a = 0 ∨ a = 1
    · rw [if_pos (by omega), hM]
      have g3 := g2 q
      refine ⟨inR_s (by omega) (by omega), fun z => absurd z (by decide), fun _ => ⟨inR_s (by omega) (by omega), fun hz => ?_, fun hz => ?_⟩⟩
      · have e1 : (M / 2).toNat = 0 := by have := hp.2.2.1 hz; omega
        rw [e1] at g3
        have e0 : tbd (σ 67) 0 = (-1, -1) := rfl
        rw [e0] at g3
        rw [g3]
        split <;> rfl
      · refine ⟨fun k y2 y3 y4 => ∃ i : Nat, y4 = 2 * (i : Int) + 1 ∧ 2 * (i : Int) ≤ M ∧ k + i = 40 ∧ ((i = 0 ∧ y2 = -1 ∧ y3 = 0) ∨ (1 ≤ i ∧ y2 = (tbd (σ 67) i).2 ∧ y3 = (tbd (σ 67) i).1)), ?_, 40, 0, by omega, by omega, rfl, Or.inl ⟨rfl, rfl, rfl⟩⟩
        rintro k y2 y3 y4 ⟨i, rfl, i1, i2, i3⟩
        have ht := tbd_in ok i
        refine ⟨inR_s (by omega) (by omega), inR_s (by omega) (by omega), fun h => ?_, fun h => ?_⟩
        · have e : i = (M / 2).toNat := by omega
          have h1i : 1 ≤ i := by have := hp.2.2.2 hz; omega
          rcases i3 with ⟨c, _⟩ | ⟨_, c2, c3⟩
          · omega
          · rw [e] at c2 c3
            refine ⟨fun w => ?_, fun w => ?_⟩
            · rw [if_pos w] at g3; rw [g3, c3]
            · rw [if_neg w] at g3; rw [g3, c2]
        · refine ⟨fun k' y5 y6 => ∃ j : Nat, y6 = (j : Int) ∧ (j : Int) ≤ σ 67 2 ∧ k' + j = (σ 67 2).toNat ∧ y5 = sumN (σ 67) (2 * (i : Int) + 1) j, ?_, (σ 67 2).toNat, 0, rfl, by omega, rfl, rfl⟩
          rintro k' y5 y6 ⟨j, rfl, j1, j2, rfl⟩
          have hs := sumN_in ok (2 * (i : Int) + 1) j j1
          refine ⟨inR_s (by omega) (by omega), fun h1 => ⟨inR_s (by omega) (by omega), ?_⟩, fun h1 => ⟨inR_of _, fun v => v = if zand (zshr (2 * (i : Int) + 1) (j : Int)) 1 = 1 then givesOf (σ 67) (j : Int) else -(givesOf (σ 67) (j : Int)), ?_, fun c => m_gives (by omega) (by omega) ?_, fun c => m_gives (by omega) (by omega) ?_⟩⟩
          · have e : j = (σ 67 2).toNat := by omega
            rw [e]
            intro v14 hv
            have hv' : v14 = unl (σ 67) (2 * (i : Int) + 1) := hv
            have hu := unl_in ok (2 * (i : Int) + 1)
            refine ⟨inR_s (by omega) (by omega), ⟨fun _ => trivial, fun _ => ⟨inR_s (by omega) (by omega), inR_s (by omega) (by omega)⟩⟩, ?_⟩
            intro v18 hv18
            have hcase : (v18 = 1 ∧ (y2 = -1 ∨ v14 < y3)) ∨ (v18 = 0 ∧ y2 ≠ -1 ∧ y3 ≤ v14) := by
              rw [hv18]
              split
              · omega
              · split <;> omega
            refine ⟨inR_s (by omega) (by omega), ?_⟩
            intro v20 hv20 v21 hv21 x4 hx4
            refine ⟨k - 1, by omega, i + 1, by omega, by omega, by omega, Or.inr ⟨by omega, ?_⟩⟩
            rw [tbd]
            rcases hcase with ⟨d1, d2⟩ | ⟨d1, d2, d3⟩
            · rw [if_neg (by omega)] at hv20 hv21
              have cc : (tbd (σ 67) i).1 = -1 ∨ unl (σ 67) (2 * (i : Int) + 1) < (tbd (σ 67) i).1 := by
                rcases i3 with ⟨c, c2, c3⟩ | ⟨c, c2, c3⟩
                · left; rw [c]; rfl
                · right; rw [← hv', ← c3]; omega
              rw [if_pos cc]
              exact ⟨hv20, by rw [hv21, hv']⟩
            · rw [if_pos d1] at hv20 hv21
              rcases i3 with ⟨c, c2, c3⟩ | ⟨c, c2, c3⟩
              · exact absurd c2 d2
              · rw [if_neg (by rw [← hv', ← c3]; omega)]
                exact ⟨by rw [hv20, c2], by rw [hv21, c3]⟩
          · rintro v rfl x5 rfl x6 rfl
            exact ⟨k' - 1, by omega, j + 1, by omega, by omega, by omega, rfl⟩
          · show (if (j : Int) = -1 then 0 else givesOf (σ 67) (j : Int)) = _
            rw [if_neg (show ¬ (j : Int) = -1 by omega), if_pos c]
          · show -(if (j : Int) = -1 then 0 else givesOf (σ 67) (j : Int)) = _
            rw [if_neg (show ¬ (j : Int) = -1 by omega), if_neg c]
    · rw [if_neg (by omega)]
      exact ⟨inR_0, fun _ => g1 q, fun z => absurd rfl z⟩
  unfold wp_X11_twoBeds
  rw [e2, hM]
  refine ⟨ha, a = 0 ∨ a = 1, fun q => ?_, fun h => Or.inl h, fun h => ⟨fun h2 => Or.inr h2, fun h2 => m_part _ (fun _ => rfl) (fun z => by omega)⟩⟩
  refine ⟨fun k y2 y3 y4 => ∃ i : Nat, y4 = 2 * (i : Int) + 1 ∧ 2 * (i : Int) ≤ M ∧ k + i = 40 ∧ y2 = (tbd (σ 67) i).1 ∧ y3 = (tbd (σ 67) i).2, ?_, 40, 0, by omega, by omega, rfl, rfl, rfl⟩
  rintro k y2 y3 y4 ⟨i, rfl, i1, i2, rfl, rfl⟩
  have ht := tbd_in ok i
  have hr1 : -1 ≤ (tbd (σ 67) i).1 ∧ (tbd (σ 67) i).1 ≤ 54 := by
    rcases ht with ⟨_, e⟩ | h
    · rw [e]; dsimp only; omega
    · omega
  refine ⟨inR_s (by omega) (by omega), inR_s (by omega) (by omega), fun h => ?_, fun h => c_unlike bc ok ?_⟩
  · have e : i = (M / 2).toNat := by omega
    rw [e]
    exact ⟨fun w => m_part _ (fun z => absurd q z) (fun _ => by rw [if_pos w]), fun w => m_part _ (fun z => absurd q z) (fun _ => by rw [if_neg w])⟩
  · have hu := unl_in ok (2 * (i : Int) + 1)
    refine ⟨inR_s (by omega) (by omega), ⟨fun _ => trivial, fun _ => inR_s (by omega) (by omega)⟩, ?_⟩
    intro z2 hz2 z3 hz3 x4 hx4
    refine ⟨k - 1, by omega, i + 1, by omega, by omega, by omega, ?_⟩
    rw [tbd]
    by_cases c1 : (tbd (σ 67) i).1 = -1
    · rw [if_pos c1] at hz2 hz3
      rw [if_pos (Or.inl c1)]
      exact ⟨hz2, hz3⟩
    · rw [if_neg c1] at hz2 hz3
      by_cases c2 : (tbd (σ 67) i).1 ≤ unl (σ 67) (2 * (i : Int) + 1)
      · rw [if_pos c2] at hz2 hz3
        rw [if_neg (by omega)]
        exact ⟨hz2, hz3⟩
      · rw [if_neg c2] at hz2 hz3
        rw [if_pos (by omega)]
        exact ⟨hz2, hz3⟩
/-! rows of words -/
def wd (row n k : Int) : Int := zand (zshr row (2 * ((n - 1) - k))) 3
theorem wd_R (row n k : Int) : inR (wd row n k) := inR_of _
def wsf (row n : Int) : Nat → Int := fun k => wd row n ((k : Int) % n)
/-- v: whether nobody is awake behind any of n hours -/
def SL (b ws r : Nat → Int) (n v : Int) : Prop := (v = 1 ∧ ∀ k : Nat, (k : Int) < n → awV b (itB b ws r (k + 1)) = 0) ∨ (v = 0 ∧ ∃ k : Nat, (k : Int) < n ∧ awV b (itB b ws r (k + 1)) ≠ 0)
theorem SL.uniq {b ws r : Nat → Int} {n v w : Int} (h : SL b ws r n v) (g : SL b ws r n w) : v = w := by
  rcases h with ⟨h1, h2⟩ | ⟨h1, k, k1, k2⟩ <;> rcases g with ⟨g1, g2⟩ | ⟨g1, l, l1, l2⟩
  · rw [h1, g1]
  · exact absurd (h2 l l1) l2
  · exact absurd (g2 k k1) k2
  · rw [h1, g1]
theorem m_sleeps {row words n : Int} {σ : Mem} {Q : Int → Mem → Prop} (ok : BedOk (σ 67)) (nk : NightOk (σ 67) (σ 69)) (hN : 2 ≤ σ 67 0) (hw0 : 1 ≤ words) (hw1 : words ≤ 5) (hn0 : 0 ≤ n) (hn1 : n ≤ 30)
    (hq : ∀ (v : Int) (u : Mem), SL (σ 67) (wsf row words) (σ 69) n v → (∀ d, d ≠ 69 → d ≠ 70 → u d = σ d) → (∀ j : Nat, 13 ≤ j → u 69 j = σ 69 j) → NightOk (σ 67) (u 69) → (v = 1 → u 69 = itB (σ 67) (wsf row words) (σ 69) n.toNat) → Q v u) : wp_X12_sleeps row words n σ Q := by
  unfold wp_X12_sleeps
  have awr : ∀ y : Nat → Int, 0 ≤ awV (σ 67) y ∧ awV (σ 67) y ≤ 63 := fun y => bset_range _
  refine ⟨fun k y z s => ∃ i : Nat, z = (i : Int) ∧ (i : Int) ≤ n ∧ (k : Int) + i = n ∧ (∀ d, d ≠ 69 → d ≠ 70 → s d = σ d) ∧ s 69 = itB (σ 67) (wsf row words) (σ 69) i ∧ ((y = 1 ∧ ∀ j : Nat, j < i → awV (σ 67) (itB (σ 67) (wsf row words) (σ 69) (j + 1)) = 0) ∨ (y = 0 ∧ ∃ j : Nat, (j : Int) < n ∧ awV (σ 67) (itB (σ 67) (wsf row words) (σ 69) (j + 1)) ≠ 0)), ?_, n.toNat, 0, rfl, by omega, by omega, fun _ _ _ => rfl, rfl, Or.inl ⟨rfl, fun j hj => by omega⟩⟩
  rintro k y z s ⟨i, rfl, i1, i2, i3, i4, i5⟩
  have fin : SL (σ 67) (wsf row words) (σ 69) n y → (y = 1 → (i : Int) = n) → Q y s := fun h h1 => hq y s h i3 (fun j hj => by rw [i4]; exact itB_hi ok i hj) (by rw [i4]; exact itB_ok ok nk i) (fun e => by rw [i4, show i = n.toNat by have := h1 e; omega])
  have hy : y = 0 ∨ y = 1 := by rcases i5 with h | h <;> omega
  refine ⟨inR_s (by omega) (by omega), inR_s (by omega) (by omega), fun h => ⟨hy, ?_⟩, fun h => ⟨inR_s (by omega) (by omega), fun h2 => ⟨hy, ?_⟩, fun h2 => ⟨inR_s (by omega) (by omega), by omega, ?_⟩⟩⟩
  · refine fin ?_ (fun _ => by omega)
    rcases i5 with ⟨c1, c2⟩ | ⟨c1, c2⟩
    · exact Or.inl ⟨c1, fun j hj => c2 j (by omega)⟩
    · exact Or.inr ⟨c1, c2⟩
  · refine fin ?_ (fun e => by omega)
    rcases i5 with ⟨c1, c2⟩ | ⟨c1, c2⟩
    · omega
    · exact Or.inr ⟨c1, c2⟩
  · unfold wp_X12_word
    have c2 : ∀ j : Nat, j < i → awV (σ 67) (itB (σ 67) (wsf row words) (σ 69) (j + 1)) = 0 := by
      rcases i5 with ⟨_, c2⟩ | ⟨c1, _⟩
      · exact c2
      · exact absurd c1 h2
    have s7 : s 67 = σ 67 := i3 67 (by decide) (by decide)
    have et : Int.tmod (i : Int) words = (i : Int) % words := Int.tmod_eq_emod_of_nonneg (by omega)
    rw [et]
    refine m_goesOn (by rw [s7]; exact ok) (by rw [s7, i4]; exact itB_ok ok nk i) (inR_of _) (Or.inl (by rw [s7]; exact hN)) (fun u hu fu => ?_)
    have hu' : u 69 = itB (σ 67) (wsf row words) (σ 69) (i + 1) := by rw [hu, s7, i4]; rfl
    have u7 : u 67 = σ 67 := by rw [fu 67 (by decide) (by decide), s7]
    refine m_awake (by rw [u7]; exact ok) (by rw [u7, hu']; exact itB_ok ok nk _) ?_
    rw [u7, hu']
    have hb2 := awr (itB (σ 67) (wsf row words) (σ 69) (i + 1))
    refine ⟨inR_s (by omega) (by omega), ?_⟩
    rintro v rfl x5 rfl
    refine ⟨k - 1, by omega, i + 1, by omega, by omega, by omega, fun d d0 d1 => by rw [fu d d0 d1]; exact i3 d d0 d1, hu', ?_⟩
    by_cases c : awV (σ 67) (itB (σ 67) (wsf row words) (σ 69) (i + 1)) = 0
    · rw [if_pos c]
      refine Or.inl ⟨rfl, fun j hj => ?_⟩
      by_cases e : j = i
      · rw [e]; exact c
      · exact c2 j (by omega)
    · rw [if_neg c]
      exact Or.inr ⟨rfl, i, by omega, c⟩
theorem c_nobodyWakes {row words n : Int} {σ : Mem} {b r : Nat → Int} {Q : Int → Mem → Prop} (bc : BedC σ b) (nc : NightC σ 17 r) (ok : BedOk b) (nk : NightOk b r) (hw0 : 1 ≤ words) (hw1 : words ≤ 5) (hn0 : 0 ≤ n) (hn1 : n ≤ 30)
    (hq : ∀ (v : Int) (u : Mem), SL b (wsf row words) r n v → (∀ d, d ≠ 20 → d ≠ 21 → d ≠ 22 → u d = σ d) → Q v u) : wp_X7_nobodyWakes 17 n row words σ Q := by
  unfold wp_X7_nobodyWakes
  have awr : ∀ y : Nat → Int, 0 ≤ awV b y ∧ awV b y ≤ 63 := fun y => bset_range _
  refine c_become isN_20 isN_17 nc (fun t nt ft => ?_)
  refine ⟨fun k y z s => ∃ i : Nat, z = (i : Int) ∧ (i : Int) ≤ n ∧ (k : Int) + i = n ∧ y = (i : Int) % words ∧ (∀ d, d ≠ 20 → d ≠ 21 → d ≠ 22 → s d = σ d) ∧ NightC s 20 (itB b (wsf row words) r i) ∧ ∀ j : Nat, j < i → awV b (itB b (wsf row words) r (j + 1)) = 0, ?_, n.toNat, 0, rfl, by omega, by omega, by simp, ft, nt, fun j hj => by omega⟩
  rintro k y z s ⟨i, rfl, i1, i2, rfl, i3, i4, i5⟩
  have bs' : BedC s b := bc.keep (fun d h0 h1 => i3 d (by omega) (by omega) (by omega))
  have hm0 := Int.emod_nonneg (i : Int) (show words ≠ 0 by omega)
  have hm1 := Int.emod_lt_of_pos (i : Int) (show 0 < words by omega)
  refine ⟨inR_s (by omega) (by omega), inR_s (by omega) (by omega), fun h => hq 1 s (Or.inl ⟨rfl, fun j hj => i5 j (by omega)⟩) i3, fun h => ?_⟩
  unfold wp_X11_wordOf
  refine c_passHour isN_20 bs' i4 ok (itB_ok ok nk i) (inR_of _) (fun u nu fu => ?_)
  have fu' : ∀ d, d ≠ 20 → d ≠ 21 → d ≠ 22 → u d = σ d := fun d h0 h1 h2 => (fu d h0 h1 h2).trans (i3 d h0 h1 h2)
  have nu' : NightC u 20 (itB b (wsf row words) r (i + 1)) := nu
  have hb2 := awr (itB b (wsf row words) r (i + 1))
  refine c_awake (bc.keep (fun d h0 h1 => fu' d (by omega) (by omega) (by omega))) nu' ok (itB_ok ok nk (i + 1)) ⟨inR_s (by omega) (by omega), fun c => ⟨inR_s (by omega) (by omega), inR_s (by omega) (by omega), ?_⟩, fun c => hq 0 u (Or.inr ⟨rfl, i, by omega, c⟩) fu'⟩
  intro v13 hv x6 hx6
  refine ⟨k - 1, by omega, i + 1, by omega, by omega, by omega, ?_, fu', nu', fun j hj => ?_⟩
  · have hd := Int.emod_add_mul_ediv (i : Int) words
    rw [hv]
    by_cases e : words ≤ (i : Int) % words + 1
    · rw [if_pos e]
      have e2 : ((i + 1 : Nat) : Int) = words * ((i : Int) / words + 1) := by rw [Int.mul_add, Int.mul_one]; omega
      rw [e2, Int.mul_emod_right]
    · rw [if_neg e]
      have e2 : ((i + 1 : Nat) : Int) = ((i : Int) % words + 1) + words * ((i : Int) / words) := by omega
      have e3 : ((i : Int) % words + 1) % words = (i : Int) % words + 1 := Int.emod_eq_of_lt (by omega) (by omega)
      rw [e2, Int.add_mul_emod_self_left, e3]
  · by_cases e : j = i
    · rw [e]; exact c
    · exact i5 j (by omega)
