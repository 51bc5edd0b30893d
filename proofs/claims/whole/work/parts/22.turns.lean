/-! ===== an hour ===== -/
def tw (b r : Nat → Int) (w p : Int) : Int :=
  if w = 1 then (if p = 0 then whoOf r (b 0 - 1) else whoOf r (p - 1))
  else if w = 2 then (if p = b 0 - 1 then whoOf r 0 else whoOf r (p + 1))
  else if w = 3 then (if p = 0 then whoOf r (b 0 - 1) else if p = b 0 - 1 then whoOf r 0 else whoOf r p)
  else whoOf r p
def turnsR (b r : Nat → Int) (w : Int) : Nat → Int := fun j => if 1 ≤ j ∧ (j : Int) ≤ b 0 then tw b r w ((j : Int) - 1) else r j
theorem whoOf_turnsR {b r : Nat → Int} {w p : Int} (h0 : 0 ≤ p) : whoOf (turnsR b r w) p = if p < b 0 then tw b r w p else whoOf r p := by
  unfold whoOf turnsR
  by_cases h : p < b 0
  · rw [if_pos (by omega), if_pos h]
    congr 1
    omega
  · rw [if_neg (by omega), if_neg h]
theorem warmOf_turnsR {b r : Nat → Int} {w s : Int} (hn : b 0 ≤ 6) (h0 : 0 ≤ s) : warmOf (turnsR b r w) s = warmOf r s := by
  unfold warmOf turnsR
  rw [if_neg (by omega)]
theorem turnsR_0 {b r : Nat → Int} {w : Int} : turnsR b r w 0 = r 0 := by
  unfold turnsR
  rw [if_neg (by omega)]
/-- which place the one in p after a turn came from -/
def src (b : Nat → Int) (w p : Int) : Int :=
  if w = 1 then (if p = 0 then b 0 - 1 else p - 1)
  else if w = 2 then (if p = b 0 - 1 then 0 else p + 1)
  else if w = 3 then (if p = 0 then b 0 - 1 else if p = b 0 - 1 then 0 else p)
  else p
theorem tw_src (b r : Nat → Int) (w p : Int) : tw b r w p = whoOf r (src b w p) := by
  unfold tw src
  split
  · split <;> rfl
  · split
    · split <;> rfl
    · split
      · split
        · rfl
        · split <;> rfl
      · rfl
theorem src_in {b : Nat → Int} {w p : Int} (h0 : 0 ≤ p) (h1 : p < b 0) : 0 ≤ src b w p ∧ src b w p < b 0 := by
  unfold src
  split
  · split <;> omega
  · split
    · split <;> omega
    · split
      · split
        · omega
        · split <;> omega
      · omega
theorem src_inj {b : Nat → Int} {w p q : Int} (h0 : 0 ≤ p) (h1 : p < b 0) (g0 : 0 ≤ q) (g1 : q < b 0) (h : src b w p = src b w q) : p = q := by
  unfold src at h
  by_cases h1 : w = 1
  · rw [if_pos h1, if_pos h1] at h; split at h <;> split at h <;> omega
  · rw [if_neg h1, if_neg h1] at h
    by_cases h2 : w = 2
    · rw [if_pos h2, if_pos h2] at h; split at h <;> split at h <;> omega
    · rw [if_neg h2, if_neg h2] at h
      by_cases h3 : w = 3
      · rw [if_pos h3, if_pos h3] at h
        repeat' split at h
        all_goals omega
      · rw [if_neg h3, if_neg h3] at h; exact h
theorem NightOk.turns {b r : Nat → Int} (ok : BedOk b) (nk : NightOk b r) (w : Int) : NightOk b (turnsR b r w) := by
  have hn := ok.n6
  refine ⟨fun p h0 h1 => ?_, fun p q h0 h1 g0 g1 he hne => ?_⟩
  · rw [whoOf_turnsR h0, warmOf_turnsR hn.2 h0]
    by_cases h : p < b 0
    · rw [if_pos h, tw_src]
      have hs := src_in (w := w) h0 h
      exact ⟨(nk.1 _ hs.1 (by omega)).1, fun q => by omega, (nk.1 p h0 h1).2.2⟩
    · rw [if_neg h]
      exact nk.1 p h0 h1
  · rw [whoOf_turnsR h0] at he hne
    rw [whoOf_turnsR g0] at he
    by_cases h : p < b 0
    · rw [if_pos h, tw_src] at he hne
      have hs := src_in (w := w) h0 h
      by_cases g : q < b 0
      · rw [if_pos g, tw_src] at he
        have gs := src_in (w := w) g0 g
        exact src_inj h0 h g0 g (nk.2 _ _ hs.1 (by omega) gs.1 (by omega) he hne)
      · rw [if_neg g] at he
        have := (nk.1 q g0 g1).2.1 (by omega)
        omega
    · rw [if_neg h] at he hne
      have := (nk.1 p h0 h1).2.1 (by omega)
      omega
theorem m_turns {w : Int} {σ : Mem} {Q : Mem → Prop} (ok : BedOk (σ 67)) (hw : inR w) (hN : 2 ≤ σ 67 0 ∨ w = 0) (hq : ∀ σ' : Mem, σ' 69 = turnsR (σ 67) (σ 69) w → (∀ d, d ≠ 69 → σ' d = σ d) → Q σ') : wp_X12_turns w σ Q := by
  have hn := ok.n6
  unfold wp_X12_turns
  rintro x2 rfl
  refine ⟨hw, fun h1 => ?_, fun h1 => ⟨fun h2 => ?_, fun h2 => ⟨fun h3 => ?_, fun h3 => ?_⟩⟩⟩
  · have hN : 2 ≤ σ 67 0 := by omega
    refine ⟨by omega, ?_⟩
    rintro x3 rfl
    refine ⟨fun k y s => 1 ≤ y ∧ y ≤ σ 67 0 ∧ (k : Int) = y ∧ (∀ d, d ≠ 69 → s d = σ d) ∧ ∀ j : Nat, s 69 j = if y < (j : Int) ∧ (j : Int) ≤ σ 67 0 then σ 69 (j - 1) else σ 69 j, ?_, (σ 67 0).toNat, by omega, by omega, by omega, fun _ _ => rfl, fun j => by rw [if_neg (by omega)]⟩
    rintro k y s ⟨i1, i2, i3, i4, i5⟩
    refine ⟨inR_s (by omega) (by omega), fun h => ?_, fun h => ⟨by omega, by omega, ?_⟩⟩
    · rintro s8 rfl
      refine hq _ ?_ (fun d hd => by rw [up2_c hd]; exact i4 d hd)
      funext j
      rw [up2_e]
      unfold turnsR tw whoOf
      by_cases hj : j = 1
      · subst hj
        rw [if_pos rfl, if_pos (by omega), if_pos h1, if_pos (by omega)]
        congr 1
        omega
      · rw [if_neg hj, i5]
        by_cases hj2 : 1 ≤ j ∧ (j : Int) ≤ σ 67 0
        · rw [if_pos hj2, if_pos (by omega), if_pos h1, if_neg (by omega)]
          congr 1
          omega
        · rw [if_neg hj2, if_neg (by omega)]
    · rintro s11 rfl x rfl
      refine ⟨k - 1, by omega, by omega, by omega, by omega, fun d hd => by rw [up2_c hd]; exact i4 d hd, fun j => ?_⟩
      rw [up2_e]
      by_cases hj : j = y.toNat
      · rw [if_pos hj, i5, if_neg (by omega), if_pos (by omega)]
        congr 1
        omega
      · rw [if_neg hj, i5]
        by_cases hj2 : y < (j : Int) ∧ (j : Int) ≤ σ 67 0
        · rw [if_pos hj2, if_pos (by omega)]
        · rw [if_neg hj2, if_neg (by omega)]
  · have hN : 2 ≤ σ 67 0 := by omega
    rintro x3 rfl
    refine ⟨fun k y s => 1 ≤ y ∧ y ≤ σ 67 0 ∧ (k : Int) + y = σ 67 0 ∧ (∀ d, d ≠ 69 → s d = σ d) ∧ ∀ j : Nat, s 69 j = if 1 ≤ j ∧ (j : Int) < y then σ 69 (j + 1) else σ 69 j, ?_, (σ 67 0 - 1).toNat, by omega, by omega, by omega, fun _ _ => rfl, fun j => by rw [if_neg (by omega)]⟩
    rintro k y s ⟨i1, i2, i3, i4, i5⟩
    refine ⟨inR_s (by omega) (by omega), inR_s (by omega) (by omega), fun h => ⟨by omega, ?_⟩, fun h => ⟨by omega, by omega, ?_⟩⟩
    · rintro s8 rfl
      refine hq _ ?_ (fun d hd => by rw [up2_c hd]; exact i4 d hd)
      funext j
      rw [up2_e]
      unfold turnsR tw whoOf
      by_cases hj : j = (σ 67 0).toNat
      · rw [if_pos hj, if_pos (by omega), if_neg h1, if_pos h2, if_pos (by omega)]
        rfl
      · rw [if_neg hj, i5]
        by_cases hj2 : 1 ≤ j ∧ (j : Int) ≤ σ 67 0
        · rw [if_pos hj2, if_pos (by omega), if_neg h1, if_pos h2, if_neg (by omega)]
          congr 1
          omega
        · rw [if_neg hj2, if_neg (by omega)]
    · rintro s11 rfl x rfl
      refine ⟨k - 1, by omega, by omega, by omega, by omega, fun d hd => by rw [up2_c hd]; exact i4 d hd, fun j => ?_⟩
      rw [up2_e]
      by_cases hj : j = y.toNat
      · rw [if_pos hj, i5, if_neg (by omega), if_pos (by omega)]
        congr 1
        omega
      · rw [if_neg hj, i5]
        by_cases hj2 : 1 ≤ j ∧ (j : Int) < y
        · rw [if_pos hj2, if_pos (by omega)]
        · rw [if_neg hj2, if_neg (by omega)]
  · have hN : 2 ≤ σ 67 0 := by omega
    rintro x3 rfl
    refine ⟨by omega, ?_⟩
    rintro s30 rfl s31 rfl
    refine hq _ ?_ (fun d hd => by rw [up2_c hd, up2_c hd])
    funext j
    rw [up2_e, up2_e]
    unfold turnsR tw whoOf
    by_cases hj : j = (σ 67 0).toNat
    · rw [if_pos hj, if_pos (by omega), if_neg h1, if_neg h2, if_pos h3, if_neg (by omega), if_pos (by omega)]
      rfl
    · rw [if_neg hj]
      by_cases hj1 : j = 1
      · subst hj1
        rw [if_pos rfl, if_pos (by omega), if_neg h1, if_neg h2, if_pos h3, if_pos (by omega)]
        congr 1
        omega
      · rw [if_neg hj1]
        by_cases hj2 : 1 ≤ j ∧ (j : Int) ≤ σ 67 0
        · rw [if_pos hj2, if_neg h1, if_neg h2, if_pos h3, if_neg (by omega), if_neg (by omega)]
          congr 1
          omega
        · rw [if_neg hj2]
  · refine hq _ ?_ (fun _ _ => rfl)
    funext j
    unfold turnsR tw whoOf
    by_cases hj2 : 1 ≤ j ∧ (j : Int) ≤ σ 67 0
    · rw [if_pos hj2, if_neg h1, if_neg h2, if_neg h3]
      congr 1
      omega
    · rw [if_neg hj2]
def clamp (x : Int) : Int := if 0 ≤ x then (if x ≤ 99 then x else 99) else 0
theorem clamp_in (x : Int) : 0 ≤ clamp x ∧ clamp x ≤ 99 := by
  unfold clamp
  split
  · split <;> omega
  · omega
def gv (b : Nat → Int) (x : Int) : Int := if x = -1 then 0 else givesOf b x
def ahead (b r : Nat → Int) (p : Int) : Int := if p ≤ 0 then (if b 1 = 1 then (if b 0 ≤ 2 then -1 else whoOf r (b 0 - 1)) else -1) else whoOf r (p - 1)
def behind_ (b r : Nat → Int) (p : Int) : Int := if b 0 - 1 ≤ p then (if b 1 = 1 then (if b 0 ≤ 2 then -1 else whoOf r 0) else -1) else whoOf r (p + 1)
/-- by how much one is warmer behind an hour without a turn, uncut -/
def dl (b r : Nat → Int) (s : Int) : Int := if plOf b r s = -1 then -2 * losesOf b s else heatOf b (plOf b r s) + gv b (ahead b r (plOf b r s)) + gv b (behind_ b r (plOf b r s)) - losesOf b s
def warmR (b t : Nat → Int) (n : Int) : Nat → Int := fun j => if 7 ≤ j ∧ (j : Int) < 7 + b 2 then clamp (t j + n * dl b t ((j : Int) - 7)) else t j
def goesR (b r : Nat → Int) (w : Int) : Nat → Int := up1 (warmR b (turnsR b r w) 1) 0 (r 0 + 1)
theorem gv_in {b : Nat → Int} (ok : BedOk b) {x : Int} (h0 : -1 ≤ x) (h1 : x < b 2) : 0 ≤ gv b x ∧ gv b x ≤ 9 := by
  unfold gv
  split
  · omega
  · exact (ok.2.2.2.2.2.1 x (by omega) h1).2.1
theorem ahead_in {b r : Nat → Int} (ok : BedOk b) (nk : NightOk b r) {p : Int} (h0 : 0 ≤ p) (h1 : p < b 0) : -1 ≤ ahead b r p ∧ ahead b r p < b 2 := by
  have hn := ok.n6
  have hs := ok.s6
  unfold ahead
  split
  · split
    · split
      · omega
      · exact (nk.1 _ (by omega) (by omega)).1
    · omega
  · exact (nk.1 _ (by omega) (by omega)).1
theorem behind_in {b r : Nat → Int} (ok : BedOk b) (nk : NightOk b r) {p : Int} (h0 : 0 ≤ p) (h1 : p < b 0) : -1 ≤ behind_ b r p ∧ behind_ b r p < b 2 := by
  have hn := ok.n6
  have hs := ok.s6
  unfold behind_
  split
  · split
    · split
      · omega
      · exact (nk.1 _ (by omega) (by omega)).1
    · omega
  · exact (nk.1 _ (by omega) (by omega)).1
theorem dl_in {b r : Nat → Int} (ok : BedOk b) (nk : NightOk b r) {s : Int} (h0 : 0 ≤ s) (h1 : s < b 2) : -40 ≤ dl b r s ∧ dl b r s ≤ 27 := by
  have hn := ok.n6
  have hl := (ok.2.2.2.2.2.1 s h0 h1).2.2.1
  unfold dl
  split
  · omega
  · rename_i hp
    rcases plOf_spec (b := b) (r := r) hn.1 s with ⟨g1, g2, g3⟩ | ⟨g1, g2⟩
    · have a := gv_in ok (ahead_in ok nk g1 g2).1 (ahead_in ok nk g1 g2).2
      have c := gv_in ok (behind_in ok nk g1 g2).1 (behind_in ok nk g1 g2).2
      have d := ok.2.2.2.2.1 _ g1 (by omega)
      omega
    · exact absurd g1 hp
theorem whoOf_warmR {b t : Nat → Int} {n p : Int} (h0 : 0 ≤ p) (h1 : p < 6) : whoOf (warmR b t n) p = whoOf t p := by
  unfold whoOf warmR
  rw [if_neg (by omega)]
theorem warmOf_warmR {b t : Nat → Int} {n s : Int} (h0 : 0 ≤ s) : warmOf (warmR b t n) s = if s < b 2 then clamp (warmOf t s + n * dl b t s) else warmOf t s := by
  unfold warmOf warmR
  by_cases h : s < b 2
  · rw [if_pos (by omega), if_pos h, show ((7 + s).toNat : Int) - 7 = s by omega]
  · rw [if_neg (by omega), if_neg h]
theorem NightOk.warm {b t : Nat → Int} (nk : NightOk b t) (n : Int) : NightOk b (warmR b t n) := by
  refine ⟨fun p h0 h1 => ?_, fun p q h0 h1 g0 g1 => ?_⟩
  · rw [whoOf_warmR h0 h1, warmOf_warmR h0]
    refine ⟨(nk.1 p h0 h1).1, (nk.1 p h0 h1).2.1, ?_⟩
    split
    · exact clamp_in _
    · exact (nk.1 p h0 h1).2.2
  · rw [whoOf_warmR h0 h1, whoOf_warmR g0 g1]
    exact nk.2 p q h0 h1 g0 g1
theorem whoOf_up0 {r : Nat → Int} {v p : Int} (h0 : 0 ≤ p) : whoOf (up1 r 0 v) p = whoOf r p := by
  unfold whoOf up1
  rw [if_neg (by omega)]
theorem warmOf_up0 {r : Nat → Int} {v p : Int} (h0 : 0 ≤ p) : warmOf (up1 r 0 v) p = warmOf r p := by
  unfold warmOf up1
  rw [if_neg (by omega)]
theorem NightOk.up0 {b r : Nat → Int} (nk : NightOk b r) (v : Int) : NightOk b (up1 r 0 v) := by
  refine ⟨fun p h0 h1 => ?_, fun p q h0 h1 g0 g1 => ?_⟩
  · rw [whoOf_up0 h0, warmOf_up0 h0]; exact nk.1 p h0 h1
  · rw [whoOf_up0 h0, whoOf_up0 g0]; exact nk.2 p q h0 h1 g0 g1
theorem NightOk.goes {b r : Nat → Int} (ok : BedOk b) (nk : NightOk b r) (w : Int) : NightOk b (goesR b r w) := ((nk.turns ok w).warm 1).up0 _
theorem goesR_0 {b r : Nat → Int} {w : Int} : goesR b r w 0 = r 0 + 1 := by simp [goesR, up1]
theorem m_goesOn {w : Int} {σ : Mem} {Q : Mem → Prop} (ok : BedOk (σ 67)) (nk : NightOk (σ 67) (σ 69)) (hw : inR w) (hN : 2 ≤ σ 67 0 ∨ w = 0) (hq : ∀ σ' : Mem, σ' 69 = goesR (σ 67) (σ 69) w → (∀ d, d ≠ 69 → d ≠ 70 → σ' d = σ d) → Q σ') : wp_X12_goesOn w σ Q := by
  have hn := ok.n6
  have h6 := ok.s6
  unfold wp_X12_goesOn
  refine m_turns ok hw hN (fun t ht hf => ?_)
  have hb : t 67 = σ 67 := hf 67 (by decide)
  have nk' := nk.turns ok w
  rintro x2 rfl
  rw [hb]
  refine ⟨fun k y s => ∃ n : Nat, y = (n : Int) ∧ (n : Int) ≤ σ 67 2 ∧ k + n = (σ 67 2).toNat ∧ s 69 = t 69 ∧ (∀ d, d ≠ 69 → d ≠ 70 → s d = σ d) ∧ ∀ j : Int, 0 ≤ j → j < (n : Int) → s 70 j.toNat = dl (σ 67) (t 69) j, ?_, (σ 67 2).toNat, 0, rfl, by omega, rfl, rfl, fun d h1 h2 => hf d h1, fun j h0 h1 => by omega⟩
  rintro k y s ⟨n, rfl, i1, i2, i3, i4, i5⟩
  have sb : s 67 = σ 67 := i4 67 (by decide) (by decide)
  rw [sb]
  refine ⟨inR_s (by omega) (by omega), inR_s (by omega) (by omega), fun h => ?_, fun h => ?_⟩
  · -- the warmths
    refine ⟨fun k y u => ∃ m : Nat, y = (m : Int) ∧ (m : Int) ≤ σ 67 2 ∧ k + m = (σ 67 2).toNat ∧ (∀ d, d ≠ 69 → d ≠ 70 → u d = σ d) ∧ u 70 = s 70 ∧ ∀ j : Nat, u 69 j = if 7 ≤ j ∧ (j : Int) < 7 + (m : Int) then clamp (t 69 j + 1 * dl (σ 67) (t 69) ((j : Int) - 7)) else t 69 j, ?_, (σ 67 2).toNat, 0, rfl, by omega, rfl, i4, rfl, fun j => by rw [i3, if_neg (by omega)]⟩
    rintro k y u ⟨m, rfl, j1, j2, j3, j4, j5⟩
    have ub : u 67 = σ 67 := j3 67 (by decide) (by decide)
    rw [ub]
    refine ⟨inR_s (by omega) (by omega), inR_s (by omega) (by omega), fun g => ?_, fun g => ⟨by omega, by omega, ?_⟩⟩
    · rintro s11 rfl
      refine hq _ ?_ (fun d h1 h2 => by rw [up2_c h1]; exact j3 d h1 h2)
      funext j
      rw [up2_e]
      unfold goesR up1
      by_cases hj : j = 0
      · subst hj
        rw [if_pos rfl, if_pos rfl, j5, if_neg (by omega), ht, turnsR_0]
      · rw [if_neg hj, if_neg hj, j5]
        unfold warmR
        have e : (m : Int) = σ 67 2 := by omega
        rw [e, ht]
    · rintro x4 rfl
      have e1 : u 69 (7 + (m : Int)).toNat = warmOf (t 69) (m : Int) := by
        rw [j5, if_neg (by omega)]; rfl
      have e2 : u 70 (m : Int).toNat = dl (σ 67) (t 69) (m : Int) := by
        rw [j4]; exact i5 _ (by omega) (by omega)
      rw [e1, e2]
      have hd : -40 ≤ dl (σ 67) (t 69) (m : Int) ∧ dl (σ 67) (t 69) (m : Int) ≤ 27 := by rw [ht]; exact dl_in ok nk' (by omega) (by omega)
      have hwm : 0 ≤ warmOf (t 69) (m : Int) ∧ warmOf (t 69) (m : Int) ≤ 99 := by rw [ht]; exact (nk'.1 _ (by omega) (by omega)).2.2
      refine ⟨inR_s (by omega) (by omega), ?_⟩
      rintro v rfl s17 rfl x3 rfl
      refine ⟨k - 1, by omega, m + 1, by omega, by omega, by omega, fun d h1 h2 => by rw [up2_c h1]; exact j3 d h1 h2, by rw [up2_c (by decide)]; exact j4, fun j => ?_⟩
      rw [up2_e]
      by_cases hj : j = (7 + (m : Int)).toNat
      · rw [if_pos hj, if_pos (show 7 ≤ j ∧ (j : Int) < 7 + ((m + 1 : Nat) : Int) by omega)]
        unfold clamp
        have e3 : t 69 j + 1 * dl (σ 67) (t 69) ((j : Int) - 7) = warmOf (t 69) (m : Int) + dl (σ 67) (t 69) (m : Int) := by
          unfold warmOf
          rw [Int.one_mul, hj]
          congr 2
          omega
        rw [e3]
      · rw [if_neg hj, j5]
        by_cases hj2 : 7 ≤ j ∧ (j : Int) < 7 + (m : Int)
        · rw [if_pos hj2, if_pos (by omega)]
        · rw [if_neg hj2, if_neg (by omega)]
  · have ok' : BedOk (s 67) := by rw [sb]; exact ok
    have nks : NightOk (s 67) (s 69) := by rw [sb, i3, ht]; exact nk'
    refine m_placeOf ok' nks (inR_s (by omega) (by omega)) ?_
    rw [sb, i3]
    have hp := plOf_spec (b := σ 67) (r := t 69) hn.1 (n : Int)
    have hpr : -1 ≤ plOf (σ 67) (t 69) (n : Int) ∧ plOf (σ 67) (t 69) (n : Int) < σ 67 0 ∨ plOf (σ 67) (t 69) (n : Int) = -1 := by rcases hp with h | h <;> omega
    refine ⟨inR_s (by omega) (by omega), fun u => u 69 = t 69 ∧ (∀ d, d ≠ 69 → d ≠ 70 → u d = σ d) ∧ ∀ j : Int, 0 ≤ j → j < (n : Int) + 1 → u 70 j.toNat = dl (σ 67) (t 69) j, ?_, fun h1 => ?_, fun h1 => ?_⟩
    · rintro u ⟨u1, u2, u3⟩ x rfl
      exact ⟨k - 1, by omega, n + 1, by omega, by omega, by omega, u1, u2, fun j g0 g1 => u3 j g0 (by omega)⟩
    · refine m_loses (by omega) (by omega) ⟨by omega, ?_⟩
      rintro s30 rfl
      refine ⟨by rw [up2_c (by decide)]; exact i3, fun d g0 g1 => by rw [up2_c g1]; exact i4 d g0 g1, fun j g0 g1 => ?_⟩
      rw [up2_e]
      by_cases hj : j = (n : Int)
      · rw [if_pos (by rw [hj]), hj, sb]
        unfold dl
        rw [if_pos h1]
      · rw [if_neg (by omega)]
        exact i5 j g0 (by omega)
    · rcases hp with ⟨p1, p2, p3⟩ | ⟨p1, p2⟩
      · generalize hpe : plOf (σ 67) (t 69) (n : Int) = pp at p1 p2 p3 h1 ⊢
        have ha : ahead (σ 67) (t 69) pp = if pp ≤ 0 then if σ 67 1 = 1 then if σ 67 0 ≤ 2 then (-1) else t 69 (σ 67 0).toNat else (-1) else t 69 pp.toNat := by
          unfold ahead whoOf
          by_cases q : pp ≤ 0
          · rw [if_pos q, if_pos q]
            congr 4
            omega
          · rw [if_neg q, if_neg q]
            congr 1
            omega
        have hbh : behind_ (σ 67) (t 69) pp = if σ 67 0 - 1 ≤ pp then if σ 67 1 = 1 then if σ 67 0 ≤ 2 then (-1) else t 69 1 else (-1) else t 69 (pp + 2).toNat := by
          unfold behind_ whoOf
          by_cases q : σ 67 0 - 1 ≤ pp
          · rw [if_pos q, if_pos q]
            rfl
          · rw [if_neg q, if_neg q]
            congr 1
            omega
        have hr1 : inR (σ 67 1) := by rcases ok.2.1 with h | h <;> rw [h] <;> exact inR_s (by omega) (by omega)
        have hai := ahead_in (r := t 69) ok (by rw [ht]; exact nk') p1 p2
        have hbi := behind_in (r := t 69) ok (by rw [ht]; exact nk') p1 p2
        refine ⟨⟨fun _ => ⟨hr1, fun _ => ⟨inR_s (by omega) (by omega), fun _ => trivial, fun _ => by omega⟩, fun _ => trivial⟩, fun _ => by omega⟩, ?_⟩
        rw [← ha]
        rintro v rfl
        refine ⟨inR_s (by omega) (by omega), ⟨fun _ => ⟨hr1, fun _ => inR_s (by omega) (by omega), fun _ => trivial⟩, fun _ => by omega⟩, ?_⟩
        rw [← hbh]
        rintro v40 rfl
        refine ⟨by omega, m_gives hai.1 (by omega) (m_gives hbi.1 (by omega) (m_loses (by omega) (by omega) ⟨by omega, ?_⟩))⟩
        rintro s46 rfl
        refine ⟨by rw [up2_c (by decide)]; exact i3, fun d g0 g1 => by rw [up2_c g1]; exact i4 d g0 g1, fun j g0 g1 => ?_⟩
        rw [up2_e]
        by_cases hj : j = (n : Int)
        · rw [if_pos (by rw [hj]), hj, sb]
          unfold dl
          rw [hpe, if_neg h1]
          rfl
        · rw [if_neg (by omega)]
          exact i5 j g0 (by omega)
      · exact absurd p1 h1
theorem m_lawful {σ : Mem} {Q : Int → Prop} (ok : BedOk (σ 67)) (hh : inR (σ 69 0) ∧ 0 ≤ σ 69 0) (hq : Q (lawOf (σ 67) (σ 69 0 % σ 67 3))) : wp_X12_lawful σ Q := by
  have hl := ok.2.2.2.1
  have e : Int.tmod (σ 69 0) (σ 67 3) = σ 69 0 % σ 67 3 := Int.tmod_eq_emod_of_nonneg hh.2
  have h1 := Int.emod_nonneg (σ 69 0) (show σ 67 3 ≠ 0 by omega)
  have h2 := Int.emod_lt_of_pos (σ 69 0) (show 0 < σ 67 3 by omega)
  unfold wp_X12_lawful
  rw [e]
  exact ⟨hh.1, inR_s (by omega) (by omega), by omega, by omega, hq⟩
