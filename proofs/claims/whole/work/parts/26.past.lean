/-! ===== what can be undone ===== -/
def NightEq (r t : Nat → Int) : Prop := ∀ j : Nat, j < 13 → r j = t j
theorem NightEq.who {r t : Nat → Int} (h : NightEq r t) {p : Int} (h0 : 0 ≤ p) (h1 : p < 6) : whoOf r p = whoOf t p := h _ (by omega)
theorem NightEq.warm {r t : Nat → Int} (h : NightEq r t) {p : Int} (h0 : 0 ≤ p) (h1 : p < 6) : warmOf r p = warmOf t p := h _ (by omega)
theorem NightEq.symm {r t : Nat → Int} (h : NightEq r t) : NightEq t r := fun j hj => (h j hj).symm
theorem NightEq.rfl' {r : Nat → Int} : NightEq r r := fun _ _ => rfl
theorem NightEq.trans {r t u : Nat → Int} (h : NightEq r t) (g : NightEq t u) : NightEq r u := fun j hj => (h j hj).trans (g j hj)
theorem NightOk.congr {b r t : Nat → Int} (h : NightEq r t) (nk : NightOk b r) : NightOk b t :=
  ⟨fun p h0 h1 => by rw [← h.who h0 h1, ← h.warm h0 h1]; exact nk.1 p h0 h1, fun p q h0 h1 g0 g1 => by rw [← h.who h0 h1, ← h.who g0 g1]; exact nk.2 p q h0 h1 g0 g1⟩
theorem hrsOk.congr {r t : Nat → Int} (h : NightEq r t) (k : hrsOk r) : hrsOk t := by unfold hrsOk; rw [← h 0 (by omega)]; exact k
theorem NightC.congr {σ : Mem} {c : Nat} {r t : Nat → Int} (h : NightEq r t) (nc : NightC σ c r) : NightC σ c t :=
  ⟨by rw [← h 0 (by omega)]; exact nc.1, fun p h0 h1 => by rw [← h.who h0 h1, ← h.warm h0 h1]; exact nc.2 p h0 h1⟩
theorem codeN_congr {r t : Nat → Int} (h : NightEq r t) : ∀ n : Nat, n ≤ 6 → codeN r n = codeN t n
  | 0, _ => rfl
  | n + 1, hn => by rw [codeN, codeN, codeN_congr h n (by omega), h.who (by omega) (by omega), h.warm (by omega) (by omega)]
def posP (nx u i : Int) : Int := if nx - u + i < 0 then nx - u + i + 30 else nx - u + i
def PastC (σ : Mem) (b : Nat → Int) (u : Int) (e : Int → Nat → Int) : Prop :=
  σ 23 2 = u ∧ (0 ≤ u ∧ u ≤ 30) ∧ (0 ≤ σ 23 3 ∧ σ 23 3 < 30) ∧ ∀ i : Int, 0 ≤ i → i < u → NightOk b (e i) ∧ hrsOk (e i) ∧ σ 24 (posP (σ 23 3) u i).toNat = codeN (e i) 6 ∧ σ 25 (posP (σ 23 3) u i).toNat = e i 0
theorem PastC.congr {σ : Mem} {b : Nat → Int} {u : Int} {e f : Int → Nat → Int} (h : ∀ i : Int, 0 ≤ i → i < u → NightEq (e i) (f i)) (p : PastC σ b u e) : PastC σ b u f :=
  ⟨p.1, p.2.1, p.2.2.1, fun i h0 h1 => by
    obtain ⟨a, b, c, d⟩ := p.2.2.2 i h0 h1
    exact ⟨a.congr (h i h0 h1), b.congr (h i h0 h1), by rw [← codeN_congr (h i h0 h1) 6 (by omega)]; exact c, by rw [← h i h0 h1 0 (by omega)]; exact d⟩⟩
theorem PastC.keep {σ τ : Mem} {b : Nat → Int} {u : Int} {e : Int → Nat → Int} (p : PastC σ b u e) (h3 : τ 23 = σ 23) (h4 : τ 24 = σ 24) (h5 : τ 25 = σ 25) : PastC τ b u e := by
  unfold PastC
  rw [h3, h4, h5]
  exact p
def note (u : Int) (e : Int → Nat → Int) (r : Nat → Int) : Int → Nat → Int := fun i => if u = 30 then (if i < 29 then e (i + 1) else r) else (if i < u then e i else r)
def nu (u : Int) : Int := if u = 30 then 30 else u + 1
theorem nu_in {u : Int} (h : 0 ≤ u ∧ u ≤ 30) : 0 ≤ nu u ∧ nu u ≤ 30 := by unfold nu; split <;> omega
theorem c_remember {σ : Mem} {b r : Nat → Int} {u : Int} {e : Int → Nat → Int} {Q : Mem → Prop} (ok : BedOk b) (nk : NightOk b r) (hk : hrsOk r) (nc : NightC σ 17 r) (pc : PastC σ b u e)
    (hq : ∀ σ' : Mem, PastC σ' b (nu u) (note u e r) → (∀ d, d ≠ 23 → d ≠ 24 → d ≠ 25 → σ' d = σ d) → Q σ') : wp_X5_remember 17 σ Q := by
  obtain ⟨p1, p2, p3, p4⟩ := pc
  unfold wp_X5_remember
  refine c_code nc ok nk ⟨p3, ?_⟩
  rintro s3 rfl
  rw [up2_c (by decide), up2_c (by decide)]
  refine ⟨p3, ?_⟩
  rintro s5 rfl
  rw [up2_c (by decide), up2_c (by decide)]
  refine ⟨inR_s (by omega) (by omega), ?_⟩
  rintro v7 e7 s8 rfl
  have ec : up2 (up2 (up2 σ 24 (σ 23 3).toNat (codeN r 6)) 25 (σ 23 3).toNat (σ 17 3)) 23 3 v7 23 2 = u := by rw [up2_n (by decide), up2_c (by decide), up2_c (by decide)]; exact p1
  rw [ec]
  refine ⟨inR_s (by omega) (by omega), ?_⟩
  rintro s10 rfl
  have hv : 0 ≤ v7 ∧ v7 < 30 ∧ (v7 = σ 23 3 + 1 ∨ (v7 = 0 ∧ σ 23 3 = 29)) := by rw [e7]; split <;> omega
  refine hq _ ⟨?_, nu_in p2, ?_, fun i h0 h1 => ?_⟩ (fun d h0 h1 h2 => by rw [up2_c h0, up2_c h0, up2_c h2, up2_c h1])
  · rw [up2_s]; unfold nu; split <;> omega
  · rw [up2_n (by decide), up2_s]; exact ⟨hv.1, hv.2.1⟩
  · have f3 : up2 (up2 (up2 (up2 σ 24 (σ 23 3).toNat (codeN r 6)) 25 (σ 23 3).toNat (σ 17 3)) 23 3 v7) 23 2 (min (u + 1) 30) 23 3 = v7 := by rw [up2_n (by decide), up2_s]
    have f4 : ∀ j, up2 (up2 (up2 (up2 σ 24 (σ 23 3).toNat (codeN r 6)) 25 (σ 23 3).toNat (σ 17 3)) 23 3 v7) 23 2 (min (u + 1) 30) 24 j = if j = (σ 23 3).toNat then codeN r 6 else σ 24 j := fun j => by rw [up2_c (by decide), up2_c (by decide), up2_c (by decide), up2_e]
    have f5 : ∀ j, up2 (up2 (up2 (up2 σ 24 (σ 23 3).toNat (codeN r 6)) 25 (σ 23 3).toNat (σ 17 3)) 23 3 v7) 23 2 (min (u + 1) 30) 25 j = if j = (σ 23 3).toNat then σ 17 3 else σ 25 j := fun j => by rw [up2_c (by decide), up2_c (by decide), up2_e, up2_c (by decide)]
    rw [f3, f4, f5]
    unfold note
    by_cases hu : u = 30
    · have en : nu u = 30 := by unfold nu; rw [if_pos hu]
      rw [en] at h1 ⊢
      rw [if_pos hu]
      by_cases hi : i < 29
      · rw [if_pos hi]
        have ep : posP v7 30 i = posP (σ 23 3) u (i + 1) := by unfold posP; split <;> split <;> omega
        have hne : ¬ (posP (σ 23 3) u (i + 1)).toNat = (σ 23 3).toNat := by unfold posP; split <;> omega
        rw [ep, if_neg hne, if_neg hne]
        exact p4 (i + 1) (by omega) (by omega)
      · rw [if_neg hi]
        have ep : posP v7 30 i = σ 23 3 := by unfold posP; split <;> omega
        rw [ep, if_pos rfl, if_pos rfl]
        exact ⟨nk, hk, rfl, nc.1⟩
    · have en : nu u = u + 1 := by unfold nu; rw [if_neg hu]
      rw [en] at h1 ⊢
      rw [if_neg hu]
      by_cases hi : i < u
      · rw [if_pos hi]
        have ep : posP v7 (u + 1) i = posP (σ 23 3) u i := by unfold posP; split <;> split <;> omega
        have hne : ¬ (posP (σ 23 3) u i).toNat = (σ 23 3).toNat := by unfold posP; split <;> omega
        rw [ep, if_neg hne, if_neg hne]
        exact p4 i h0 hi
      · rw [if_neg hi]
        have ep : posP v7 (u + 1) i = σ 23 3 := by unfold posP; split <;> omega
        rw [ep, if_pos rfl, if_pos rfl]
        exact ⟨nk, hk, rfl, nc.1⟩
theorem c_bringBack {σ : Mem} {b : Nat → Int} {u n : Int} {e : Int → Nat → Int} {Q : Mem → Prop} (ok : BedOk b) (pc : PastC σ b u e) (h1 : 1 ≤ n) (h2 : n ≤ u)
    (hq : ∀ σ' : Mem, PastC σ' b (u - n) e → NightC σ' 17 (e (u - n)) → (∀ d, d ≠ 23 → d ≠ 17 → d ≠ 18 → d ≠ 19 → σ' d = σ d) → Q σ') : wp_X5_bringBack 17 n σ Q := by
  obtain ⟨p1, p2, p3, p4⟩ := pc
  unfold wp_X5_bringBack
  rw [p1]
  refine ⟨inR_s (by omega) (by omega), fun h => by omega, fun _ => ⟨inR_s (by omega) (by omega), fun _ => ⟨inR_s (by omega) (by omega), ?_⟩, fun h => absurd h2 h⟩⟩
  rintro v4 e4 s5 rfl s6 rfl
  have hv : v4 = posP (σ 23 3) u (u - n) ∧ 0 ≤ v4 ∧ v4 < 30 := by rw [e4]; unfold posP; split <;> split <;> omega
  have f3 : up2 (up2 σ 23 3 v4) 23 2 (up2 σ 23 3 v4 23 2 - n) 23 3 = v4 := by rw [up2_n (by decide), up2_s]
  have f2 : up2 (up2 σ 23 3 v4) 23 2 (up2 σ 23 3 v4 23 2 - n) 23 2 = u - n := by rw [up2_s, up2_n (by decide), p1]
  rw [f3, up2_c (by decide), up2_c (by decide), up2_c (by decide), up2_c (by decide)]
  obtain ⟨q1, q2, q3, q4⟩ := p4 (u - n) (by omega) (by omega)
  refine ⟨⟨hv.2.1, hv.2.2⟩, ?_⟩
  rw [hv.1, q3, ← hv.1, hv.1, q4, ← hv.1]
  refine c_setCode isN_17 ok q1 rfl (fun t nt ft => ?_)
  refine hq t ⟨?_, by omega, ?_, fun i g0 g1 => ?_⟩ nt (fun d g0 g1 g2 g3 => by rw [ft d g1 g2 g3, up2_c g0, up2_c g0])
  · rw [ft 23 (by decide) (by decide) (by decide), f2]
  · rw [ft 23 (by decide) (by decide) (by decide), f3]; exact hv.2
  · rw [ft 23 (by decide) (by decide) (by decide), ft 24 (by decide) (by decide) (by decide), ft 25 (by decide) (by decide) (by decide), f3, up2_c (by decide), up2_c (by decide), up2_c (by decide), up2_c (by decide)]
    have ep : posP v4 (u - n) i = posP (σ 23 3) u i := by
      rw [hv.1]; unfold posP; repeat' split
      all_goals omega
    rw [ep]
    exact p4 i g0 (by omega)
def entM (σ : Mem) : Int → Nat → Int := fun i j => σ 71 (13 * i + (j : Int)).toNat
def PastM (σ : Mem) (u : Int) (e : Int → Nat → Int) : Prop := σ 65 11 = u ∧ ∀ i : Int, 0 ≤ i → i < u → NightEq (entM σ i) (e i)
theorem m_notes {σ : Mem} {u : Int} {e : Int → Nat → Int} {Q : Mem → Prop} (pm : PastM σ u e) (hu : 0 ≤ u ∧ u ≤ 30)
    (hq : ∀ σ' : Mem, PastM σ' (nu u) (note u e (σ 69)) → (∀ d, d ≠ 71 → d ≠ 65 → σ' d = σ d) → (∀ j, j ≠ 11 → σ' 65 j = σ 65 j) → Q σ') : wp_X12_notes σ Q := by
  obtain ⟨p1, p2⟩ := pm
  unfold wp_X12_notes
  rw [p1]
  refine ⟨inR_s (by omega) (by omega), fun s => (∀ d, d ≠ 71 → d ≠ 65 → s d = σ d) ∧ (∀ j, j ≠ 11 → s 65 j = σ 65 j) ∧ s 65 11 = nu u - 1 ∧ ∀ i : Int, 0 ≤ i → i < nu u - 1 → NightEq (entM s i) (note u e (σ 69) i), ?_, fun h => ?_, fun h => ?_⟩
  · rintro s ⟨f1, f2, f3, f4⟩
    have hnu := nu_in hu
    have hnu1 : 0 ≤ nu u - 1 ∧ nu u - 1 ≤ 29 := by unfold nu; split <;> omega
    refine ⟨fun k y t => 0 ≤ y ∧ y ≤ 13 ∧ (k : Int) + y = 13 ∧ (∀ d, d ≠ 71 → t d = s d) ∧ ∀ q : Int, 0 ≤ q → t 71 q.toNat = if 13 * (nu u - 1) ≤ q ∧ q < 13 * (nu u - 1) + y then σ 69 (q - 13 * (nu u - 1)).toNat else s 71 q.toNat, ?_, 13, by omega, by omega, by omega, fun _ _ => rfl, fun q h0 => by rw [if_neg (by omega)]⟩
    rintro k y t ⟨g1, g2, g3, g4, g5⟩
    have t65 : t 65 = s 65 := g4 65 (by decide)
    rw [t65, f3]
    refine ⟨inR_s (by omega) (by omega), fun h => ?_, fun h => ⟨by omega, by omega, ?_⟩⟩
    · rintro s6 rfl
      refine hq _ ⟨by rw [up2_s]; omega, fun i h0 h1 j hj => ?_⟩ (fun d h0 h1 => by rw [up2_c h1, g4 d h0]; exact f1 d h0 h1) (fun j hj => by rw [up2_n hj, t65]; exact f2 j hj)
      show up2 t 65 11 (nu u - 1 + 1) 71 (13 * i + (j : Int)).toNat = _
      rw [up2_c (by decide), g5 _ (by omega)]
      by_cases hi : i = nu u - 1
      · rw [if_pos (by omega)]
        have en : note u e (σ 69) i = σ 69 := by
          unfold note nu at *
          split
          · rename_i q; rw [if_pos q] at hi; rw [if_neg (by omega)]
          · rename_i q; rw [if_neg q] at hi; rw [if_neg (by omega)]
        rw [en]
        congr 1
        omega
      · rw [if_neg (by omega)]
        exact f4 i h0 (by omega) j hj
    · rintro s9 rfl x rfl
      have t69 : t 69 y.toNat = σ 69 y.toNat := by rw [g4 69 (by decide), f1 69 (by decide) (by decide)]
      rw [t69]
      refine ⟨k - 1, by omega, by omega, by omega, by omega, fun d hd => by rw [up2_c hd]; exact g4 d hd, fun q h0 => ?_⟩
      rw [up2_e]
      by_cases hqq : q = 13 * (nu u - 1) + y
      · rw [if_pos (by omega), if_pos (by omega)]
        congr 1
        omega
      · rw [if_neg (by omega), g5 q h0]
        by_cases hq3 : 13 * (nu u - 1) ≤ q ∧ q < 13 * (nu u - 1) + y
        · rw [if_pos hq3, if_pos (by omega)]
        · rw [if_neg hq3, if_neg (by omega)]
  · have en : nu u = 30 := by unfold nu; rw [if_pos h]
    refine ⟨fun k y t => 13 ≤ y ∧ y ≤ 390 ∧ (k : Int) + y = 390 ∧ (∀ d, d ≠ 71 → t d = σ d) ∧ ∀ q : Int, 0 ≤ q → t 71 q.toNat = if q < y - 13 then σ 71 (q + 13).toNat else σ 71 q.toNat, ?_, 377, by omega, by omega, by omega, fun _ _ => rfl, fun q h0 => by rw [if_neg (by omega)]⟩
    rintro k y t ⟨g1, g2, g3, g4, g5⟩
    refine ⟨inR_s (by omega) (by omega), fun h' => ?_, fun h' => ⟨by omega, by omega, ?_⟩⟩
    · rintro s16 rfl
      refine ⟨fun d h0 h1 => by rw [up2_c h1, g4 d h0], fun j hj => by rw [up2_n hj, g4 65 (by decide)], by rw [up2_s]; omega, fun i h0 h1 j hj => ?_⟩
      show up2 t 65 11 29 71 (13 * i + (j : Int)).toNat = _
      rw [up2_c (by decide), g5 _ (by omega), if_pos (by omega)]
      have e1 : note u e (σ 69) i = e (i + 1) := by unfold note; rw [if_pos h, if_pos (by omega)]
      rw [e1, ← p2 (i + 1) (by omega) (by omega) j hj]
      show _ = σ 71 _
      congr 1
      omega
    · rintro s19 rfl x rfl
      refine ⟨k - 1, by omega, by omega, by omega, by omega, fun d hd => by rw [up2_c hd]; exact g4 d hd, fun q h0 => ?_⟩
      have ey : t 71 y.toNat = σ 71 y.toNat := by rw [g5 y (by omega), if_neg (by omega)]
      rw [up2_e, ey]
      by_cases hqq : q = y - 13
      · rw [if_pos (by omega), if_pos (by omega)]
        congr 1
        omega
      · rw [if_neg (by omega), g5 q h0]
        by_cases hq3 : q < y - 13
        · rw [if_pos hq3, if_pos (by omega)]
        · rw [if_neg hq3, if_neg (by omega)]
  · have en : nu u = u + 1 := by unfold nu; rw [if_neg h]
    refine ⟨fun _ _ _ => rfl, fun _ _ => rfl, by omega, fun i h0 h1 => ?_⟩
    have e1 : note u e (σ 69) i = e i := by unfold note; rw [if_neg h, if_pos (by omega)]
    rw [e1]
    exact p2 i h0 (by omega)
/-! the state of undo and night, and a step of it -/
abbrev PS : Type := Int × (Int → Nat → Int) × (Nat → Int)
def stp (b : Nat → Int) (w : Int) (x : PS) : PS := (nu x.1, note x.1 x.2.1 x.2.2, goesR b x.2.2 w)
def PSc (σ : Mem) (b : Nat → Int) (x : PS) : Prop := PastC σ b x.1 x.2.1 ∧ NightC σ 17 x.2.2 ∧ NightOk b x.2.2 ∧ hrsOk x.2.2
def PSm (σ : Mem) (x : PS) : Prop := PastM σ x.1 x.2.1 ∧ (0 ≤ x.1 ∧ x.1 ≤ 30) ∧ σ 69 = x.2.2
theorem c_goOn {σ : Mem} {b : Nat → Int} {x : PS} {w : Int} {Q : Mem → Prop} (ok : BedOk b) (bc : BedC σ b) (ps : PSc σ b x) (hw : inR w) (hh : x.2.2 0 ≤ 99999)
    (hq : ∀ σ' : Mem, PSc σ' b (stp b w x) → (∀ d, d ≠ 17 → d ≠ 18 → d ≠ 19 → d ≠ 23 → d ≠ 24 → d ≠ 25 → σ' d = σ d) → Q σ') : wp_X11_goOn w σ Q := by
  obtain ⟨h1, h2, h3, h4⟩ := ps
  unfold wp_X11_goOn
  refine c_remember ok h3 h4 h2 h1 (fun t pt ft => ?_)
  refine c_passHour isN_17 (bc.keep (fun d g0 g1 => ft d (by omega) (by omega) (by omega))) (h2.keep (ft 17 (by decide) (by decide) (by decide)) (ft 18 (by decide) (by decide) (by decide)) (ft 19 (by decide) (by decide) (by decide))) ok h3 hw (fun v nv fv => ?_)
  refine hq v ⟨pt.keep (fv 23 (by decide) (by decide) (by decide)) (fv 24 (by decide) (by decide) (by decide)) (fv 25 (by decide) (by decide) (by decide)), nv, h3.goes ok w, ?_⟩ (fun d g0 g1 g2 g3 g4 g5 => by rw [fv d g0 g1 g2, ft d g3 g4 g5])
  unfold hrsOk at h4 ⊢
  rw [show (stp b w x).2.2 = goesR b x.2.2 w from rfl, goesR_0]
  omega
theorem m_goOn {σ : Mem} {x : PS} {w : Int} {Q : Mem → Prop} (ok : BedOk (σ 67)) (ps : PSm σ x) (nk : NightOk (σ 67) x.2.2) (hw : inR w) (hN : 2 ≤ σ 67 0 ∨ w = 0) {Q2 : Mem → (Mem → Prop) → Prop}
    (hgo : ∀ t : Mem, t 67 = σ 67 → t 69 = σ 69 → (∀ d, d ≠ 71 → d ≠ 65 → t d = σ d) → (∀ j, j ≠ 11 → t 65 j = σ 65 j) → (∀ Q' : Mem → Prop, wp_X12_goesOn w t Q' → Q2 t Q'))
    (hq : ∀ σ' : Mem, PSm σ' (stp (σ 67) w x) → (∀ d, d ≠ 65 → d ≠ 69 → d ≠ 70 → d ≠ 71 → σ' d = σ d) → (∀ j, j ≠ 11 → σ' 65 j = σ 65 j) → Q σ') : wp_X12_notes σ (fun t => Q2 t Q) := by
  obtain ⟨h1, h2, h3⟩ := ps
  refine m_notes h1 h2 (fun t pt ft gt => ?_)
  have e7 : t 67 = σ 67 := ft 67 (by decide) (by decide)
  have e9 : t 69 = σ 69 := ft 69 (by decide) (by decide)
  refine hgo t e7 e9 ft gt Q (m_goesOn (by rw [e7]; exact ok) (by rw [e7, e9, h3]; exact nk) hw (by rw [e7]; exact hN) (fun v hv fv => ?_))
  refine hq v ⟨⟨by rw [fv 65 (by decide) (by decide)]; exact pt.1, fun i g0 g1 j hj => ?_⟩, nu_in h2, ?_⟩ (fun d g0 g1 g2 g3 => by rw [fv d g1 g2, ft d g3 g0]) (fun j hj => by rw [fv 65 (by decide) (by decide)]; exact gt j hj)
  · show v 71 _ = _
    rw [fv 71 (by decide) (by decide)]
    have := pt.2 i g0 g1 j hj
    rw [h3] at this
    exact this
  · rw [hv, e7, e9, h3]; rfl
