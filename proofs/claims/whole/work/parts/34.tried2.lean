theorem pub_goBack {a : Int} (ha : inR a) : Good (fun σ Q => wp_X11_goBack a σ Q) (fun σ Q => wp_X12_goBack a σ Q) := by
  intro σ hR
  have hR' := hR
  obtain ⟨ok, bc, ⟨x, pc, pm⟩, ⟨tr, ir, sr, nr, br⟩⟩ := hR'
  show wp_X11_goBack a σ (fun r t => wp_X12_goBack a t (fun r' u => r = r' ∧ Rel u))
  have hkp : (0 ≤ a ∧ a ≤ 1) → σ 80 (15 * a).toNat = 0 ∨ σ 80 (15 * a).toNat = 1 := by
    intro q
    have := (ir a.toNat (by omega)).2.1
    rw [show 15 * a.toNat = (15 * a).toNat by omega] at this
    exact this
  have m_part : ∀ (t : Mem) (P : Int → Mem → Prop), t 80 = σ 80 → t 69 = σ 69 → (¬ (0 ≤ a ∧ a ≤ 1) → P (-1000000001) t) → ((0 ≤ a ∧ a ≤ 1) → (σ 80 (15 * a).toNat = 0 → P (-1000000003) t) ∧ (¬ σ 80 (15 * a).toNat = 0 → ∀ u : Mem, (∀ d, d ≠ 65 → d ≠ 69 → u d = t d) → (∀ j, j ≠ 11 → j ≠ 9 → u 65 j = t 65 j) → u 65 11 = 0 → u 65 9 = σ 80 (15 * a + 1).toNat → (∀ j : Nat, u 69 j = if j < 13 then σ 80 (15 * a + 2 + (j : Int)).toNat else σ 69 j) → P 1 u)) → wp_X12_goBack a t P := by
    intro t P h80 h69 g1 g2
    unfold wp_X12_goBack
    refine ⟨ha, m_in ha inR_0 (inR_s (by omega) (by omega)) ?_⟩
    by_cases q : 0 ≤ a ∧ a ≤ 1
    · rw [if_pos q, h80]
      obtain ⟨g3, g4⟩ := g2 q
      have := hkp q
      refine ⟨inR_s (by omega) (by omega), fun z => absurd z (by decide), fun _ => ⟨by omega, inR_s (by omega) (by omega), g3, fun hz => ⟨by omega, ?_⟩⟩⟩
      rintro s7 rfl
      refine ⟨fun k y s => 0 ≤ y ∧ y ≤ 13 ∧ (k : Int) + y = 13 ∧ (∀ d, d ≠ 69 → s d = up2 t 65 9 (σ 80 (15 * a + 1).toNat) d) ∧ ∀ j : Nat, s 69 j = if (j : Int) < y then σ 80 (15 * a + 2 + (j : Int)).toNat else σ 69 j, ?_, 13, by omega, by omega, by omega, fun _ _ => rfl, fun j => by rw [if_neg (by omega), up2_c (by decide), h69]⟩
      rintro k y s ⟨i1, i2, i3, i4, i5⟩
      have s80 : s 80 = σ 80 := by rw [i4 80 (by decide), up2_c (by decide), h80]
      rw [s80]
      refine ⟨inR_s (by omega) (by omega), fun h => ?_, fun h => ⟨by omega, by omega, ?_⟩⟩
      · rintro s11 rfl
        refine g4 hz _ (fun d h0 h1 => by rw [up2_c h0, i4 d h1, up2_c h0]) (fun j hj hj2 => by rw [up2_n hj, i4 65 (by decide), up2_n hj2]) (by rw [up2_s]) (by rw [up2_n (by decide), i4 65 (by decide), up2_s]) (fun j => ?_)
        rw [up2_c (by decide), i5]
        by_cases hj : j < 13
        · rw [if_pos (by omega), if_pos hj]
        · rw [if_neg (by omega), if_neg hj]
      · rintro s14 rfl x2 rfl
        refine ⟨k - 1, by omega, by omega, by omega, by omega, fun d hd => by rw [up2_c hd]; exact i4 d hd, fun j => ?_⟩
        rw [up2_e]
        by_cases hj : j = y.toNat
        · rw [if_pos hj, if_pos (by omega), show 15 * a + 2 + (j : Int) = 15 * a + 2 + y by omega]
        · rw [if_neg hj, i5]
          by_cases hj2 : (j : Int) < y
          · rw [if_pos hj2, if_pos (by omega)]
          · rw [if_neg hj2, if_neg (by omega)]
    · rw [if_neg q]
      exact ⟨inR_0, fun _ => g1 q, fun z => absurd rfl z⟩
  unfold wp_X11_goBack
  refine ⟨ha, fun h => m_part σ _ rfl rfl (fun _ => ⟨rfl, hR⟩) (fun q => by omega), fun h => ⟨fun h2 => ⟨by omega, ?_⟩, fun h2 => m_part σ _ rfl rfl (fun _ => ⟨rfl, hR⟩) (fun q => by omega)⟩⟩
  obtain ⟨i, hi, rfl⟩ : ∃ i : Nat, i < 2 ∧ a = (i : Int) := ⟨a.toNat, by omega, by omega⟩
  rw [show (27 + (i : Int).toNat) = 27 + i by omega]
  obtain ⟨c1, c2, c3⟩ := ir i hi
  have e15 : (15 * (i : Int)).toNat = 15 * i := by omega
  rw [c1]
  refine ⟨inR_s (by omega) (by omega), fun hz => m_part σ _ rfl rfl (fun q => by omega) (fun _ => ⟨fun _ => ⟨rfl, hR⟩, fun z => absurd (by rw [e15]; exact hz) z⟩), fun hz => ?_⟩
  obtain ⟨d1, d2, d3, d4, d5, d6⟩ := c3 (by omega)
  rw [d4]
  refine c_setCode isN_17 ok d1 d5 (fun t nt ft => ?_)
  rintro s5 rfl
  unfold wp_X5_forget
  rintro s6 rfl
  rw [ft (27 + i) (by omega) (by omega) (by omega), d6]
  generalize hτ : up2 (up2 t 0 12 (σ 80 (15 * i + 1))) 23 2 0 = τ
  have fr : ∀ d, d ≠ 0 → d ≠ 17 → d ≠ 18 → d ≠ 19 → d ≠ 23 → τ d = σ d := fun d h0 h1 h2 h3 h4 => by rw [← hτ, up2_c h4, up2_c h0]; exact ft d h1 h2 h3
  have tt : ∀ d, d ≠ 0 → d ≠ 23 → τ d = t d := fun d h0 h4 => by rw [← hτ, up2_c h4, up2_c h0]
  have t0 : τ 0 12 = σ 80 (15 * i + 1) := by rw [← hτ, up2_c (by decide), up2_s]
  have p2 : τ 23 2 = 0 := by rw [← hτ, up2_s]
  have p3 : τ 23 3 = σ 23 3 := by rw [← hτ, up2_n (by decide), up2_c (by decide), ft 23 (by decide) (by decide) (by decide)]
  refine m_part τ _ (fr 80 (by decide) (by decide) (by decide) (by decide) (by decide)) (fr 69 (by decide) (by decide) (by decide) (by decide) (by decide)) (fun q => by omega) (fun _ => ⟨fun z => absurd (by rw [e15] at z; exact z) hz, fun _ u fu gu u11 u9 u69 => ⟨rfl, ?_⟩⟩)
  have f : ∀ d, d ≠ 0 ∧ d ≠ 17 ∧ d ≠ 18 ∧ d ≠ 19 ∧ d ≠ 23 ∧ d ≠ 65 ∧ d ≠ 69 → u d = σ d := fun d ⟨h0, h1, h2, h3, h4, h5, h6⟩ => (fu d h5 h6).trans (fr d h0 h1 h2 h3 h4)
  have t65 : τ 65 = σ 65 := fr 65 (by decide) (by decide) (by decide) (by decide) (by decide)
  have g' : ∀ j, j ≠ 11 → j ≠ 9 → u 65 j = σ 65 j := fun j hj hj2 => by rw [gu j hj hj2, t65]
  have u7 : u 67 = σ 67 := f 67 (by decide)
  have u8 : u 8 = σ 8 := f 8 (by decide)
  have er : NightEq (imgRow σ i) (u 69) := by
    intro j hj
    rw [u69, if_pos hj]
    show σ 80 (15 * i + 2 + j) = _
    rw [show (15 * (i : Int) + 2 + (j : Int)).toNat = 15 * i + 2 + j by omega]
  have nu' : NightC u 17 (imgRow σ i) := nt.keep ((fu 17 (by decide) (by decide)).trans (tt 17 (by decide) (by decide))) ((fu 18 (by decide) (by decide)).trans (tt 18 (by decide) (by decide))) ((fu 19 (by decide) (by decide)).trans (tt 19 (by decide) (by decide)))
  refine ⟨by rw [u7]; exact ok, by rw [u7]; exact bc.keep (fun d h0 h1 => f d (by omega)), ⟨(0, x.2.1, u 69), ?_, ?_⟩, ?_, ?_, ?_, ?_, ?_⟩
  · rw [u7]
    refine ⟨⟨by rw [fu 23 (by decide) (by decide)]; exact p2, by show (0 : Int) ≤ 0 ∧ (0 : Int) ≤ 30; omega, by rw [fu 23 (by decide) (by decide), p3]; exact pc.1.2.2.1, fun z h0 h1 => by have : z < 0 := h1; omega⟩, nu'.congr er, d1.congr er, d2.congr er⟩
  · exact ⟨⟨u11, fun z h0 h1 => by have : z < 0 := h1; omega⟩, by show (0 : Int) ≤ 0 ∧ (0 : Int) ≤ 30; omega, rfl⟩
  · exact tr.keep (by rw [u8]) (by rw [u8]) (f 9 (by decide)) (f 68 (by decide)) (g' 3 (by decide) (by decide)) (g' 6 (by decide) (by decide))
  · exact ir.keep (f 27 (by decide)) (f 28 (by decide)) (f 80 (by decide)) u7
  · have e1 : (15 * (i : Int) + 1).toNat = 15 * i + 1 := by omega
    rw [e1] at u9
    exact ⟨by rw [fu 0 (by decide) (by decide), t0, u9], by rw [u9]; exact d3⟩
  · exact nr.keep (by rw [f 60 (by decide)]) (f 61 (by decide)) (f 62 (by decide)) (f 77 (by decide)) (f 78 (by decide)) (g' 18 (by decide) (by decide)) u7
  · exact br.keep (f 63 (by decide)) (f 64 (by decide)) (f 79 (by decide)) (g' 21 (by decide) (by decide))
/-! first awake -/
def itL (b : Nat → Int) (r : Nat → Int) : Nat → Nat → Int
  | 0 => r
  | n + 1 => goesR b (itL b r n) (lawW b (itL b r n))
theorem itL_ok {b r : Nat → Int} (ok : BedOk b) (nk : NightOk b r) : ∀ n : Nat, NightOk b (itL b r n)
  | 0 => nk
  | n + 1 => (itL_ok ok nk n).goes ok _
theorem itL_0 (b r : Nat → Int) : ∀ n : Nat, itL b r n 0 = r 0 + n
  | 0 => by simp [itL]
  | n + 1 => by
    show goesR b (itL b r n) (lawW b (itL b r n)) 0 = _
    rw [goesR_0, itL_0 b r n]
    omega
theorem itL_hi {b r : Nat → Int} (ok : BedOk b) : ∀ (n : Nat) {j : Nat}, 13 ≤ j → itL b r n j = r j
  | 0, _, _ => rfl
  | n + 1, j, h => by
    show goesR b (itL b r n) (lawW b (itL b r n)) j = _
    rw [goesR_hi ok h]
    exact itL_hi ok n h
def nobody (b r : Nat → Int) : Prop := ∀ p : Int, 0 ≤ p → p < b 0 → whoOf r p = -1
theorem inV_0 {b r : Nat → Int} (ok : BedOk b) (nk : NightOk b r) : inV b r = 0 ↔ nobody b r := by
  have hn := ok.n6
  have h6 := ok.s6
  unfold inV
  rw [bset_nz]
  constructor
  · intro h p h0 h1
    have hw := (nk.1 p h0 (by omega)).1
    by_cases he : whoOf r p = -1
    · exact he
    · have := h (whoOf r p) (by omega) (by omega)
      unfold inS at this
      have := of_decide_eq_false this
      rcases plOf_spec (b := b) (r := r) hn.1 (whoOf r p) with ⟨a1, a2, a3⟩ | ⟨a1, a2⟩
      · omega
      · exact absurd rfl (a2 p h0 h1)
  · intro h s h0 h1
    unfold inS
    refine decide_eq_false (fun q => q ?_)
    rcases plOf_spec (b := b) (r := r) hn.1 s with ⟨a1, a2, a3⟩ | ⟨a1, a2⟩
    · have := h _ a1 a2; omega
    · exact a1
theorem nobody_aw {b r : Nat → Int} (ok : BedOk b) (nk : NightOk b r) (h : nobody b r) : awV b r = 0 := by
  have := (inV_0 ok nk).mpr h
  unfold inV at this
  rw [bset_nz] at this
  unfold awV
  rw [bset_nz]
  intro s h0 h1
  unfold awS
  rw [this s h0 h1]; rfl
theorem nobody_goes {b r : Nat → Int} (ok : BedOk b) (h : nobody b r) (w : Int) : nobody b (goesR b r w) := by
  have hn := ok.n6
  intro p h0 h1
  unfold goesR
  rw [whoOf_up0 h0, whoOf_warmR h0 (by omega), whoOf_turnsR h0, if_pos h1, tw_src]
  have := src_in (w := w) h0 h1
  exact h _ this.1 this.2
def lowb (v : Int) : Int := if v % 2 = 1 then 0 else if v / 2 % 2 = 1 then 1 else if v / 4 % 2 = 1 then 2 else if v / 8 % 2 = 1 then 3 else if v / 16 % 2 = 1 then 4 else 5
def FA (b r : Nat → Int) (what v : Int) : Prop := (∃ k : Nat, k < 100 ∧ awV b (itL b r k) ≠ 0 ∧ (∀ j : Nat, j < k → awV b (itL b r j) = 0) ∧ v = if what = 0 then (k : Int) else lowb (awV b (itL b r k))) ∨ ((∀ j : Nat, j < 100 → awV b (itL b r j) = 0) ∧ v = -1)
theorem FA.uniq {b r : Nat → Int} {what v w : Int} (h : FA b r what v) (g : FA b r what w) : v = w := by
  rcases h with ⟨k, k1, k2, k3, k4⟩ | ⟨h1, h2⟩ <;> rcases g with ⟨l, l1, l2, l3, l4⟩ | ⟨g1, g2⟩
  · have e : k = l := by
      rcases Nat.lt_trichotomy k l with c | c | c
      · exact absurd (l3 k c) k2
      · exact c
      · exact absurd (k3 l c) l2
    rw [k4, l4, e]
  · exact absurd (g1 k k1) k2
  · exact absurd (h1 l l1) l2
  · rw [h2, g2]
theorem ntz_tab : ∀ v : Fin 64, v.val = 0 ∨ (0 < zand (zxor (v.val : Int) (-1)) ((v.val : Int) - 1) ∧ zand (zxor (v.val : Int) (-1)) ((v.val : Int) - 1) ≤ 4 ∧ 1 + zushr (zand (zxor (v.val : Int) (-1)) ((v.val : Int) - 1)) 1 = lowb (v.val : Int)) ∨ (4 < zand (zxor (v.val : Int) (-1)) ((v.val : Int) - 1) ∧ zand (zxor (v.val : Int) (-1)) ((v.val : Int) - 1) ≤ 16 ∧ 1 + 2 + zushr (zushr (zand (zxor (v.val : Int) (-1)) ((v.val : Int) - 1)) 2) 1 = lowb (v.val : Int)) ∨ (16 < zand (zxor (v.val : Int) (-1)) ((v.val : Int) - 1) ∧ zand (zxor (v.val : Int) (-1)) ((v.val : Int) - 1) ≤ 256 ∧ zushr (zand (zxor (v.val : Int) (-1)) ((v.val : Int) - 1)) 4 ≤ 4 ∧ -1000000 ≤ zushr (zand (zxor (v.val : Int) (-1)) ((v.val : Int) - 1)) 4 ∧ 1 + 4 + zushr (zushr (zand (zxor (v.val : Int) (-1)) ((v.val : Int) - 1)) 4) 1 = lowb (v.val : Int)) ∨ (zand (zxor (v.val : Int) (-1)) ((v.val : Int) - 1) = 0 ∧ zand 0 32 = lowb (v.val : Int)) := by decide +kernel
theorem c_ntz {v : Int} {σ : Mem} {Q : Int → Prop} (h0 : 0 < v) (h1 : v ≤ 63) (hq : Q (lowb v)) : wp_J6_numberOfTrailingZeros_0f7a4 v σ Q := by
  have T := ntz_tab ⟨v.toNat, by omega⟩
  simp only [Int.toNat_of_nonneg (show 0 ≤ v by omega)] at T
  unfold wp_J6_numberOfTrailingZeros_0f7a4
  intro x0 hx0
  rw [← hx0] at T
  have hr : inR x0 := by rw [hx0]; exact inR_of _
  rcases T with T | ⟨a1, a2, a3⟩ | ⟨a1, a2, a3⟩ | ⟨a1, a2, a3, a4, a5⟩ | ⟨a1, a2⟩
  · omega
  · refine ⟨hr, fun _ => ⟨fun a b => a = x0 ∧ b = 1, ?_, fun _ => ⟨rfl, rfl⟩, fun h => by omega⟩, fun h => by omega⟩
    rintro y0 y1 ⟨rfl, rfl⟩
    refine ⟨hr, fun a b => a = y0 ∧ b = 1, ?_, fun _ => ⟨rfl, rfl⟩, fun h => by omega⟩
    rintro z0 z1 ⟨e0, rfl⟩
    rw [e0]
    refine ⟨hr, fun a b => a = y0 ∧ b = 1, ?_, fun _ => ⟨rfl, rfl⟩, fun h => by omega⟩
    rintro w0 w1 ⟨e1, rfl⟩
    rw [e1]
    refine ⟨hr, fun a b => a = y0 ∧ b = 1, ?_, fun _ => ⟨rfl, rfl⟩, fun h => by omega⟩
    rintro u0 u1 ⟨e2, rfl⟩
    rw [e2, a3]
    exact hq
  · refine ⟨hr, fun _ => ⟨fun a b => a = x0 ∧ b = 1, ?_, fun _ => ⟨rfl, rfl⟩, fun h => by omega⟩, fun h => by omega⟩
    rintro y0 y1 ⟨rfl, rfl⟩
    refine ⟨hr, fun a b => a = y0 ∧ b = 1, ?_, fun _ => ⟨rfl, rfl⟩, fun h => by omega⟩
    rintro z0 z1 ⟨e0, rfl⟩
    rw [e0]
    refine ⟨hr, fun a b => a = y0 ∧ b = 1, ?_, fun _ => ⟨rfl, rfl⟩, fun h => by omega⟩
    rintro w0 w1 ⟨e1, rfl⟩
    rw [e1]
    refine ⟨hr, fun a b => a = zushr y0 2 ∧ b = 1 + 2, ?_, fun h => by omega, fun h => ?_⟩
    · rintro u0 u1 ⟨e2, e3⟩
      rw [e2, e3, a3]
      exact hq
    · rintro x1 rfl x2 rfl
      exact ⟨rfl, rfl⟩
  · refine ⟨hr, fun _ => ⟨fun a b => a = x0 ∧ b = 1, ?_, fun _ => ⟨rfl, rfl⟩, fun h => by omega⟩, fun h => by omega⟩
    rintro y0 y1 ⟨rfl, rfl⟩
    refine ⟨hr, fun a b => a = y0 ∧ b = 1, ?_, fun _ => ⟨rfl, rfl⟩, fun h => by omega⟩
    rintro z0 z1 ⟨e0, rfl⟩
    rw [e0]
    refine ⟨hr, fun a b => a = zushr y0 4 ∧ b = 1 + 4, ?_, fun h => by omega, fun h => ?_⟩
    · rintro w0 w1 ⟨e1, e2⟩
      rw [e1, e2]
      refine ⟨inR_s (by omega) (by omega), fun a b => a = zushr y0 4 ∧ b = 1 + 4, ?_, fun _ => ⟨rfl, rfl⟩, fun h => by omega⟩
      rintro u0 u1 ⟨e3, e4⟩
      rw [e3, e4, a5]
      exact hq
    · rintro x1 rfl x2 rfl
      exact ⟨rfl, rfl⟩
  · refine ⟨hr, fun h => by omega, fun _ => ?_⟩
    rw [a1, a2]
    exact hq
theorem low_tab : ∀ v : Fin 64, v.val = 0 ∨ ((0 ≤ lowb (v.val : Int) ∧ lowb (v.val : Int) ≤ 5) ∧ zand (zshr (v.val : Int) (lowb (v.val : Int))) 1 = 1 ∧ ∀ s : Fin 6, (s.val : Int) < lowb (v.val : Int) → zand (zshr (v.val : Int) (s.val : Int)) 1 = 0) := by decide +kernel
theorem m_least {v : Int} {σ : Mem} {Q : Int → Prop} (h0 : 0 < v) (h1 : v ≤ 63) (hq : Q (lowb v)) : wp_X12_least v σ Q := by
  have T := low_tab ⟨v.toNat, by omega⟩
  simp only [Int.toNat_of_nonneg (show 0 ≤ v by omega)] at T
  rcases T with T | ⟨⟨a1, a2⟩, a3, a4⟩
  · omega
  · unfold wp_X12_least
    refine ⟨fun k y => 0 ≤ y ∧ y ≤ lowb v ∧ (k : Int) + y = lowb v, ?_, (lowb v).toNat, by omega, by omega, by omega⟩
    rintro k y ⟨i1, i2, i3⟩
    refine ⟨inR_of _, fun h => ?_, fun h => ?_⟩
    · rintro x1 rfl
      have hne : y ≠ lowb v := fun e => by rw [e, a3] at h; omega
      exact ⟨k - 1, by omega, by omega, by omega, by omega⟩
    · by_cases e : y = lowb v
      · rw [e]; exact hq
      · have := a4 ⟨y.toNat, by omega⟩ (by show ((y.toNat : Nat) : Int) < _; omega)
        have e2 : (((⟨y.toNat, by omega⟩ : Fin 6).val : Nat) : Int) = y := by show ((y.toNat : Nat) : Int) = y; omega
        rw [e2] at this
        exact absurd this h
theorem pub_firstAwake {a : Int} (ha : inR a) : Good (fun σ Q => wp_X11_firstAwake a σ Q) (fun σ Q => wp_X12_firstAwake a σ Q) := by
  intro σ hR
  have hR' := hR
  obtain ⟨ok, bc, ⟨x, pc, pm⟩, rs⟩ := hR'
  show wp_X11_firstAwake a σ (fun r t => wp_X12_firstAwake a t (fun r' u => r = r' ∧ Rel u))
  have p4 : hrsOk x.2.2 := pc.2.2.2
  unfold hrsOk at p4
  have nk := pc.2.2.1
  have m9 := pm.2.2
  have awr : ∀ y : Nat → Int, 0 ≤ awV (σ 67) y ∧ awV (σ 67) y ≤ 63 := fun y => bset_range _
  have m_part : ∀ (t : Mem) (P : Int → Mem → Prop), t 67 = σ 67 → t 69 = σ 69 → (¬ (a = 0 ∨ a = 1) → P (-1000000002) t) → ((a = 0 ∨ a = 1) → ∀ (v : Int) (u : Mem), FA (σ 67) x.2.2 a v → (∀ d, d ≠ 70 → d ≠ 72 → u d = t d) → P v u) → wp_X12_firstAwake a t P := by
    intro t P h7 h9 g1 g2
    unfold wp_X12_firstAwake
    refine ⟨ha, m_in ha inR_0 (inR_s (by omega) (by omega)) ?_⟩
    by_cases q : a = 0 ∨ a = 1
    · rw [if_pos (by omega)]
      refine ⟨inR_s (by omega) (by omega), fun z => absurd z (by decide), fun _ => m_asides (fun w fw gw => ?_)⟩
      have w72 : ∀ j : Nat, j < 13 → w 72 j = x.2.2 j := fun j hj => by rw [gw j hj, h9, m9]
      have fin : ∀ (s : Mem) (n : Nat) (v : Int), (∀ d, d ≠ 69 → d ≠ 70 → s d = w d) → s 69 = itL (σ 67) x.2.2 n → FA (σ 67) x.2.2 a v → wp_X12_backs s (fun s9 => P v s9) := by
        intro s n v fs hs hv
        refine m_backs (r := x.2.2) (fun j hj => by rw [fs 72 (by decide) (by decide)]; exact w72 j hj) (fun j hj => by rw [hs]; exact itL_hi ok n hj) (fun u fu hu => ?_)
        refine g2 q v u hv (fun d h0 h1 => ?_)
        by_cases hd : d = 69
        · rw [hd, hu, h9, m9]
        · rw [fu d hd, fs d hd h0, fw d h1]
      refine ⟨fun k y z s => ∃ n : Nat, n ≤ 100 ∧ z = (n : Int) ∧ k + n = 100 ∧ (∀ d, d ≠ 69 → d ≠ 70 → s d = w d) ∧ s 69 = itL (σ 67) x.2.2 n ∧ ((y = -1 ∧ ∀ j : Nat, j < n → awV (σ 67) (itL (σ 67) x.2.2 j) = 0) ∨ (y ≠ -1 ∧ inR y ∧ FA (σ 67) x.2.2 a y)), ?_, 100, 0, by omega, rfl, rfl, fun _ _ _ => rfl, by rw [fw 69 (by decide), h9, m9]; rfl, Or.inl ⟨rfl, fun j hj => by omega⟩⟩
      rintro k y z s ⟨n, n1, rfl, n3, n4, n5, n6⟩
      have s7 : s 67 = σ 67 := by rw [n4 67 (by decide) (by decide), fw 67 (by decide), h7]
      have oks : BedOk (s 67) := by rw [s7]; exact ok
      have nks : NightOk (s 67) (s 69) := by rw [s7, n5]; exact itL_ok ok nk n
      refine ⟨inR_s (by omega) (by omega), FA (σ 67) x.2.2 a y, fun hv => fin s n y n4 n5 hv, fun h => ?_, fun h => ⟨?_, fun h2 => ?_, fun h2 => ?_⟩⟩
      · rcases n6 with ⟨c1, c2⟩ | ⟨c1, c2, c3⟩
        · exact Or.inr ⟨fun j hj => c2 j (by omega), c1⟩
        · exact c3
      · rcases n6 with ⟨c1, c2⟩ | ⟨c1, c2, c3⟩
        · rw [c1]; exact inR_s (by omega) (by omega)
        · exact c2
      · have c2 : ∀ j : Nat, j < n → awV (σ 67) (itL (σ 67) x.2.2 j) = 0 := by
          rcases n6 with ⟨_, c2⟩ | ⟨c1, _, _⟩
          · exact c2
          · exact absurd h2 c1
        refine m_inBed oks nks ?_
        rw [s7, n5]
        have hbr := bset_range (inS (σ 67) (itL (σ 67) x.2.2 n))
        refine ⟨inR_s (by unfold inV; omega) (by unfold inV; omega), fun h3 => ?_, fun h3 => ?_⟩
        · -- nobody lies in the bed
          have hnb := (inV_0 ok (itL_ok ok nk n)).mp h3
          have later : ∀ i : Nat, nobody (σ 67) (itL (σ 67) x.2.2 (n + i)) := by
            intro i
            induction i with
            | zero => exact hnb
            | succ i ih => exact nobody_goes ok ih _
          refine Or.inr ⟨fun j hj => ?_, h2⟩
          by_cases c : j < n
          · exact c2 j c
          · obtain ⟨i, rfl⟩ : ∃ i : Nat, j = n + i := ⟨j - n, by omega⟩
            exact nobody_aw ok (itL_ok ok nk _) (later i)
        · refine m_awake oks nks ?_
          rw [s7, n5]
          have hb2 := awr (itL (σ 67) x.2.2 n)
          have h0n : itL (σ 67) x.2.2 n 0 = x.2.2 0 + n := itL_0 _ _ _
          have hN : 2 ≤ σ 67 0 := by
            rcases ok.1 with c | c
            · exfalso
              refine h3 ((inV_0 ok (itL_ok ok nk n)).mpr (fun p p0 p1 => by omega))
            · exact c.1
          have hl := lawW_in (r := itL (σ 67) x.2.2 n) ok
          refine ⟨inR_s (by omega) (by omega), fun v => (v = -1 ∧ awV (σ 67) (itL (σ 67) x.2.2 n) = 0) ∨ (v ≠ -1 ∧ inR v ∧ FA (σ 67) x.2.2 a v), ?_, fun h4 => Or.inl ⟨rfl, h4⟩, fun h4 => ⟨fun h5 => ?_, fun h5 => ?_⟩⟩
          · intro v hv
            refine m_lawful oks (by rw [n5, h0n]; exact ⟨inR_s (by omega) (by omega), by omega⟩) ?_
            rw [s7, n5]
            refine m_goesOn oks nks (inR_s (by unfold lawW at hl; omega) (by unfold lawW at hl; omega)) (Or.inl (by rw [s7]; exact hN)) (fun u hu fu => ?_)
            rintro x3 rfl
            refine ⟨k - 1, by omega, n + 1, by omega, by omega, by omega, fun d d0 d1 => by rw [fu d d0 d1]; exact n4 d d0 d1, by rw [hu, s7, n5]; rfl, ?_⟩
            rcases hv with ⟨v1, v2⟩ | hv
            · refine Or.inl ⟨v1, fun j hj => ?_⟩
              by_cases c : j = n
              · rw [c]; exact v2
              · exact c2 j (by omega)
            · exact Or.inr hv
          · refine Or.inr ⟨by omega, inR_s (by omega) (by omega), Or.inl ⟨n, by omega, h4, c2, ?_⟩⟩
            rw [if_pos h5]
          · refine m_awake oks nks ?_
            rw [s7, n5]
            refine m_least (by omega) (by omega) (Or.inr ⟨?_, ?_, Or.inl ⟨n, by omega, h4, c2, ?_⟩⟩)
            · have : 0 ≤ lowb (awV (σ 67) (itL (σ 67) x.2.2 n)) := by unfold lowb; repeat' split
                                                                      all_goals omega
              omega
            · unfold lowb
              repeat' split
              all_goals exact inR_s (by omega) (by omega)
            · rw [if_neg h5]
      · rcases n6 with ⟨c1, _⟩ | ⟨_, _, c3⟩
        · exact absurd c1 h2
        · exact c3
    · rw [if_neg (by omega)]
      exact ⟨inR_0, fun _ => g1 q, fun z => absurd rfl z⟩
  have done : ∀ (v : Int) (t : Mem), (a = 0 ∨ a = 1) → FA (σ 67) x.2.2 a v → (∀ d, d ≠ 20 → d ≠ 21 → d ≠ 22 → t d = σ d) → wp_X12_firstAwake a t (fun r' u => v = r' ∧ Rel u) := by
    intro v t q hv ft
    refine m_part t _ (ft 67 (by decide) (by decide) (by decide)) (ft 69 (by decide) (by decide) (by decide)) (fun z => absurd q z) (fun _ v' u hv' fu => ⟨hv.uniq hv', ?_⟩)
    have f : ∀ d, d ≠ 20 → d ≠ 21 → d ≠ 22 → d ≠ 70 → d ≠ 72 → u d = σ d := fun d h0 h1 h2 h3 h4 => (fu d h3 h4).trans (ft d h0 h1 h2)
    have u65 : u 65 = σ 65 := f 65 (by decide) (by decide) (by decide) (by decide) (by decide)
    refine hR.tried (fun d hd => ?_) (by rw [f 60 (by decide) (by decide) (by decide) (by decide) (by decide)]) ⟨by rw [u65], by rw [u65], by rw [u65], by rw [u65], by rw [u65], by rw [u65]⟩
    unfold jk at hd
    exact f d (by omega) (by omega) (by omega) (by omega) (by omega)
  unfold wp_X11_firstAwake
  refine ⟨ha, a = 0 ∨ a = 1, fun q => ?_, fun h => Or.inl h, fun h => ⟨fun h2 => Or.inr h2, fun h2 => m_part σ _ rfl rfl (fun _ => ⟨rfl, hR⟩) (fun z => by omega)⟩⟩
  refine c_become isN_20 isN_17 pc.2.1 (fun t nt ft => ?_)
  refine ⟨fun k y s => ∃ n : Nat, n ≤ 100 ∧ y = (n : Int) ∧ k + n = 100 ∧ (∀ d, d ≠ 20 → d ≠ 21 → d ≠ 22 → s d = σ d) ∧ NightC s 20 (itL (σ 67) x.2.2 n) ∧ ∀ j : Nat, j < n → awV (σ 67) (itL (σ 67) x.2.2 j) = 0, ?_, 100, 0, by omega, rfl, rfl, ft, nt, fun j hj => by omega⟩
  rintro k y s ⟨n, n1, rfl, n3, n4, n5, n6⟩
  have bs' : BedC s (σ 67) := bc.keep (fun d h0 h1 => n4 d (by omega) (by omega) (by omega))
  have nkn := itL_ok ok nk n
  refine ⟨inR_s (by omega) (by omega), fun h => done (-1) s q (Or.inr ⟨fun j hj => n6 j (by omega), rfl⟩) n4, fun h => c_awake bs' n5 ok nkn ?_⟩
  have hb2 := awr (itL (σ 67) x.2.2 n)
  have h0n : itL (σ 67) x.2.2 n 0 = x.2.2 0 + n := itL_0 _ _ _
  refine ⟨inR_s (by omega) (by omega), fun h2 => ?_, fun h2 => ⟨fun h3 => ?_, fun h3 => c_ntz (by omega) (by omega) ?_⟩⟩
  · refine c_passByLaw isN_20 bs' n5 ok nkn (by rw [h0n]; exact ⟨inR_s (by omega) (by omega), by omega⟩) (fun u nu fu => ?_)
    rintro x2 rfl
    refine ⟨k - 1, by omega, n + 1, by omega, by omega, by omega, fun d h0 h1 h4 => by rw [fu d h0 h1 h4]; exact n4 d h0 h1 h4, nu, fun j hj => ?_⟩
    by_cases c : j = n
    · rw [c]; exact h2
    · exact n6 j (by omega)
  · exact done _ s q (Or.inl ⟨n, by omega, h2, n6, by rw [if_pos h3]⟩) n4
  · exact done _ s q (Or.inl ⟨n, by omega, h2, n6, by rw [if_neg h3]⟩) n4
