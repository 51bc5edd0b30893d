/-! ===== the relation between class and model ===== -/
def TextR (σ : Mem) : Prop := σ 8 2 = σ 65 3 ∧ (0 ≤ σ 65 3 ∧ σ 65 3 ≤ 200) ∧ (∀ i : Int, 0 ≤ i → i < σ 65 3 → σ 9 i.toNat = σ 68 i.toNat ∧ 0 ≤ σ 68 i.toNat ∧ σ 68 i.toNat ≤ 255) ∧ σ 8 3 = σ 65 6
def imgRow (σ : Mem) (i : Nat) : Nat → Int := fun j => σ 80 (15 * i + 2 + j)
def ImgC (σ : Mem) (b : Nat → Int) (i : Nat) (kp sd : Int) (row : Nat → Int) : Prop := σ (27 + i) 0 = kp ∧ (kp = 0 ∨ kp = 1) ∧ (kp = 1 → NightOk b row ∧ hrsOk row ∧ (0 ≤ sd ∧ sd ≤ 2147483647) ∧ σ (27 + i) 1 = codeN row 6 ∧ σ (27 + i) 2 = row 0 ∧ σ (27 + i) 3 = sd)
def ImgR (σ : Mem) : Prop := ∀ i : Nat, i < 2 → ImgC σ (σ 67) i (σ 80 (15 * i)) (σ 80 (15 * i + 1)) (imgRow σ i)
def SeedR (σ : Mem) : Prop := σ 0 12 = σ 65 9 ∧ (0 ≤ σ 65 9 ∧ σ 65 9 ≤ 2147483647)
def SeenR (σ : Mem) : Prop := σ 60 2 = σ 65 18 ∧ (0 ≤ σ 65 18 ∧ σ 65 18 ≤ 6) ∧ ∀ k : Int, 0 ≤ k → k < σ 65 18 → σ 61 k.toNat = σ 77 k.toNat ∧ σ 62 k.toNat = σ 78 k.toNat ∧ (0 ≤ σ 77 k.toNat ∧ σ 77 k.toNat < σ 67 2) ∧ (0 ≤ σ 78 k.toNat ∧ σ 78 k.toNat < σ 67 0)
def BookR (σ : Mem) : Prop := σ 63 1 = σ 65 21 ∧ (0 ≤ σ 65 21 ∧ σ 65 21 ≤ 20) ∧ ∀ k : Int, 0 ≤ k → k < σ 65 21 → σ 64 k.toNat = σ 79 k.toNat ∧ (0 ≤ σ 79 k.toNat ∧ σ 79 k.toNat ≤ 3)
def Rest (σ : Mem) : Prop := TextR σ ∧ ImgR σ ∧ SeedR σ ∧ SeenR σ ∧ BookR σ
def relR (d : Nat) : Bool := [0, 9, 27, 28, 61, 62, 63, 64, 67, 68, 77, 78, 79, 80].contains d
def Same (σ τ : Mem) : Prop := (∀ d, relR d = true → τ d = σ d) ∧ (τ 8 2 = σ 8 2 ∧ τ 8 3 = σ 8 3) ∧ τ 60 2 = σ 60 2 ∧ (τ 65 3 = σ 65 3 ∧ τ 65 6 = σ 65 6 ∧ τ 65 9 = σ 65 9 ∧ τ 65 18 = σ 65 18 ∧ τ 65 21 = σ 65 21)
theorem Same.refl (σ : Mem) : Same σ σ := ⟨fun _ _ => rfl, ⟨rfl, rfl⟩, rfl, rfl, rfl, rfl, rfl, rfl⟩
theorem Same.trans {σ τ υ : Mem} (h : Same σ τ) (g : Same τ υ) : Same σ υ := by
  obtain ⟨a, ⟨b1, b2⟩, c, d1, d2, d3, d4, d5⟩ := h
  obtain ⟨a', ⟨b1', b2'⟩, c', d1', d2', d3', d4', d5'⟩ := g
  exact ⟨fun d hd => (a' d hd).trans (a d hd), ⟨b1'.trans b1, b2'.trans b2⟩, c'.trans c, d1'.trans d1, d2'.trans d2, d3'.trans d3, d4'.trans d4, d5'.trans d5⟩
theorem Same.b {σ τ : Mem} (h : Same σ τ) : τ 67 = σ 67 := h.1 67 (by decide)
theorem Rest.keep {σ τ : Mem} (h : Rest σ) (s : Same σ τ) : Rest τ := by
  obtain ⟨a, ⟨b1, b2⟩, c, d1, d2, d3, d4, d5⟩ := s
  obtain ⟨t, i, se, sn, bk⟩ := h
  have a0 := a 0 (by decide)
  have a9 := a 9 (by decide)
  have a27 := a 27 (by decide)
  have a28 := a 28 (by decide)
  have a61 := a 61 (by decide)
  have a62 := a 62 (by decide)
  have a63 := a 63 (by decide)
  have a64 := a 64 (by decide)
  have a67 := a 67 (by decide)
  have a68 := a 68 (by decide)
  have a77 := a 77 (by decide)
  have a78 := a 78 (by decide)
  have a79 := a 79 (by decide)
  have a80 := a 80 (by decide)
  refine ⟨?_, ?_, ?_, ?_, ?_⟩
  · unfold TextR; rw [b1, b2, d1, d2, a9, a68]; exact t
  · intro k hk
    have := i k hk
    unfold ImgC imgRow at *
    rw [a67, a80]
    have : k = 0 ∨ k = 1 := by omega
    rcases this with rfl | rfl
    · rw [a27]; exact i 0 hk
    · rw [a28]; exact i 1 hk
  · unfold SeedR; rw [a0, d3]; exact se
  · unfold SeenR; rw [c, d4, a61, a62, a77, a78, a67]; exact sn
  · unfold BookR; rw [a63, d5, a64, a79]; exact bk
def Rel (σ : Mem) : Prop := BedOk (σ 67) ∧ BedC σ (σ 67) ∧ (∃ x : PS, PSc σ (σ 67) x ∧ PSm σ x) ∧ Rest σ
/-- a public call: class, then model, like answers, the relation again -/
def Good (W1 W2 : Mem → (Int → Mem → Prop) → Prop) : Prop := ∀ σ : Mem, Rel σ → W1 σ (fun r t => W2 t (fun r' u => r = r' ∧ Rel u))
/-- cells of the class that a call leaves, as the model's call finds them -/
theorem PSc.keep {σ τ : Mem} {b : Nat → Int} {x : PS} (h : PSc σ b x) (h1 : τ 17 = σ 17) (h2 : τ 18 = σ 18) (h3 : τ 19 = σ 19) (h4 : τ 23 = σ 23) (h5 : τ 24 = σ 24) (h6 : τ 25 = σ 25) : PSc τ b x := ⟨h.1.keep h4 h5 h6, h.2.1.keep h1 h2 h3, h.2.2⟩
theorem PSm.keep {σ τ : Mem} {x : PS} (h : PSm σ x) (h1 : τ 65 11 = σ 65 11) (h2 : τ 69 = σ 69) (h3 : τ 71 = σ 71) : PSm τ x := by
  refine ⟨⟨h1.trans h.1.1, fun i h0 h4 j hj => ?_⟩, h.2.1, h2.trans h.2.2⟩
  show τ 71 _ = _
  rw [h3]
  exact h.1.2 i h0 h4 j hj
theorem isWord_c {w : Int} {σ : Mem} {Q : Int → Prop} (hw : inR w) (hq : Q (if 0 ≤ w ∧ w ≤ 3 then 1 else 0)) : wp_X11_isWord w σ Q := by
  unfold wp_X11_isWord
  refine ⟨hw, fun h => ?_, fun h => ⟨fun g => ?_, fun g => ?_⟩⟩
  · rw [if_neg (by omega)] at hq; exact hq
  · rw [if_neg (by omega)] at hq; exact hq
  · rw [if_pos (by omega)] at hq; exact hq
def refV (b r : Nat → Int) : Int := if b 0 = 0 then -1000000003 else if r 0 ≤ 90000 then 0 else -1000000004
theorem c_hoursRefused {σ : Mem} {b r : Nat → Int} {Q : Int → Prop} (bc : BedC σ b) (nc : NightC σ 17 r) (ok : BedOk b) (hk : hrsOk r) (hq : Q (refV b r)) : wp_X11_hoursRefused σ Q := by
  have hn := ok.n6
  unfold hrsOk at hk
  unfold wp_X11_hoursRefused
  rw [bc.1, nc.1]
  unfold refV at hq
  refine ⟨inR_s (by omega) (by omega), fun h => ?_, fun h => ⟨inR_s (by omega) (by omega), fun g => ?_, fun g => ?_⟩⟩
  · rw [if_pos h] at hq; exact hq
  · rw [if_neg h, if_pos g] at hq; exact hq
  · rw [if_neg h, if_neg g] at hq; exact hq
theorem m_refusal {σ : Mem} {Q : Int → Prop} (ok : BedOk (σ 67)) (hk : hrsOk (σ 69)) (hq : Q (refV (σ 67) (σ 69))) : wp_X12_refusal σ Q := by
  have hn := ok.n6
  unfold hrsOk at hk
  unfold wp_X12_refusal
  unfold refV at hq
  refine ⟨inR_s (by omega) (by omega), fun h => ?_, fun h => ⟨inR_s (by omega) (by omega), fun g => ?_, fun g => ?_⟩⟩
  · rw [if_pos h] at hq; exact hq
  · rw [if_neg h, if_pos g] at hq; exact hq
  · rw [if_neg h, if_neg g] at hq; exact hq
theorem refV_ne {b r : Nat → Int} (h : ¬ refV b r = 0) : refV b r < 0 ∧ inR (refV b r) := by
  unfold refV at *
  split
  · exact ⟨by omega, by unfold inR; omega⟩
  · split
    · rename_i h1 h2; rw [if_neg h1, if_pos h2] at h; exact absurd rfl h
    · exact ⟨by omega, by unfold inR; omega⟩
theorem refV_0 {b r : Nat → Int} (h : refV b r = 0) : b 0 ≠ 0 ∧ r 0 ≤ 90000 := by
  unfold refV at h
  split at h
  · omega
  · split at h
    · exact ⟨by assumption, by assumption⟩
    · omega
theorem pub_hour {w : Int} (hw : inR w) : Good (fun σ Q => wp_X11_hour w σ Q) (fun σ Q => wp_X12_hour w σ Q) := by
  intro σ ⟨ok, bc, ⟨x, pc, pm⟩, rs⟩
  unfold wp_X11_hour
  refine isWord_c hw ⟨by split <;> exact inR_s (by omega) (by omega), fun h => ?_, fun h => ?_⟩
  · have hw' : ¬ (0 ≤ w ∧ w ≤ 3) := fun q => by rw [if_pos q] at h; omega
    unfold wp_X12_hour
    refine ⟨hw, m_in hw inR_0 (inR_s (by omega) (by omega)) ?_⟩
    rw [if_neg hw']
    exact ⟨inR_0, fun _ => ⟨rfl, ok, bc, ⟨x, pc, pm⟩, rs⟩, fun q => absurd rfl q⟩
  · have hw' : 0 ≤ w ∧ w ≤ 3 := by
      by_cases q : 0 ≤ w ∧ w ≤ 3
      · exact q
      · rw [if_neg q] at h; exact absurd rfl h
    obtain ⟨p1, p2, p3, p4⟩ := pc
    obtain ⟨m1, m2, m3⟩ := pm
    refine c_hoursRefused bc p2 ok p4 ?_
    have m_part : ∀ t : Mem, t 67 = σ 67 → t 69 = σ 69 → ∀ Q : Int → Mem → Prop, (refV (σ 67) x.2.2 = 0 → wp_X12_notes t (fun s6 => wp_X12_goesOn w s6 (fun s7 => wp_X12_coldest s7 (fun r8 => Q r8 s7)))) → (¬ refV (σ 67) x.2.2 = 0 → Q (refV (σ 67) x.2.2) t) → wp_X12_hour w t Q := by
      intro t h7 h9 Q a c
      unfold wp_X12_hour
      refine ⟨hw, m_in hw inR_0 (inR_s (by omega) (by omega)) ?_⟩
      rw [if_pos hw']
      refine ⟨inR_s (by omega) (by omega), fun q => absurd q (by decide), fun _ => m_refusal (by rw [h7]; exact ok) (by rw [h9, m3]; exact p4) ?_⟩
      rw [h7, h9, m3]
      by_cases hz : refV (σ 67) x.2.2 = 0
      · rw [hz]
        exact ⟨inR_0, fun _ => a hz, fun q => absurd (Int.le_refl 0) q⟩
      · have := refV_ne hz
        refine ⟨this.2, fun q => by omega, fun _ => m_refusal (by rw [h7]; exact ok) (by rw [h9, m3]; exact p4) ?_⟩
        rw [h7, h9, m3]
        exact c hz
    by_cases hz : refV (σ 67) x.2.2 = 0
    · rw [hz]
      obtain ⟨z1, z2⟩ := refV_0 hz
      refine ⟨inR_0, fun _ => c_goOn ok bc ⟨p1, p2, p3, p4⟩ hw (by omega) (fun t pt ft => ?_), fun q => absurd rfl q⟩
      have bt : BedC t (σ 67) := bc.keep (fun d h0 h1 => ft d (by omega) (by omega) (by omega) (by omega) (by omega) (by omega))
      refine c_coldest bt pt.2.1 ok pt.2.2.1 ?_
      have t7 : t 67 = σ 67 := ft 67 (by decide) (by decide) (by decide) (by decide) (by decide) (by decide)
      have t9 : t 69 = σ 69 := ft 69 (by decide) (by decide) (by decide) (by decide) (by decide) (by decide)
      have t65 : t 65 = σ 65 := ft 65 (by decide) (by decide) (by decide) (by decide) (by decide) (by decide)
      have t71 : t 71 = σ 71 := ft 71 (by decide) (by decide) (by decide) (by decide) (by decide) (by decide)
      have hN : 2 ≤ t 67 0 ∨ w = 0 := by rw [t7]; have := ok.1; omega
      refine m_part t t7 t9 _ (fun _ => ?_) (fun q => absurd hz q)
      refine m_goOn (x := x) (w := w) (Q := fun s7 => wp_X12_coldest s7 (fun r8 => coldV (σ 67) (stp (σ 67) w x).2.2 = r8 ∧ Rel s7)) (Q2 := fun s6 Q' => wp_X12_goesOn w s6 Q') (by rw [t7]; exact ok) (PSm.keep ⟨m1, m2, m3⟩ (by rw [t65]) t9 t71) (by rw [t7]; exact p3) hw hN (fun _ _ _ _ _ Q' h => h) (fun u pu fu gu => ?_)
      rw [t7] at pu
      have u7 : u 67 = σ 67 := (fu 67 (by decide) (by decide) (by decide) (by decide)).trans t7
      refine m_coldest (by rw [u7]; exact ok) (by rw [u7, pu.2.2]; exact pt.2.2.1) ?_
      rw [u7, pu.2.2]
      refine ⟨rfl, by rw [u7]; exact ok, ?_, ⟨_, ?_, pu⟩, rs.keep ⟨fun d hd => ?_, ⟨?_, ?_⟩, ?_, ?_, ?_, ?_, ?_, ?_⟩⟩
      · rw [u7]; exact bt.keep (fun d h0 h1 => fu d (by omega) (by omega) (by omega) (by omega))
      · rw [u7]; exact pt.keep (fu 17 (by decide) (by decide) (by decide) (by decide)) (fu 18 (by decide) (by decide) (by decide) (by decide)) (fu 19 (by decide) (by decide) (by decide) (by decide)) (fu 23 (by decide) (by decide) (by decide) (by decide)) (fu 24 (by decide) (by decide) (by decide) (by decide)) (fu 25 (by decide) (by decide) (by decide) (by decide))
      · rw [fu d (by rintro rfl; exact absurd hd (by decide)) (by rintro rfl; exact absurd hd (by decide)) (by rintro rfl; exact absurd hd (by decide)) (by rintro rfl; exact absurd hd (by decide)), ft d (by rintro rfl; exact absurd hd (by decide)) (by rintro rfl; exact absurd hd (by decide)) (by rintro rfl; exact absurd hd (by decide)) (by rintro rfl; exact absurd hd (by decide)) (by rintro rfl; exact absurd hd (by decide)) (by rintro rfl; exact absurd hd (by decide))]
      · rw [fu 8 (by decide) (by decide) (by decide) (by decide), ft 8 (by decide) (by decide) (by decide) (by decide) (by decide) (by decide)]
      · rw [fu 8 (by decide) (by decide) (by decide) (by decide), ft 8 (by decide) (by decide) (by decide) (by decide) (by decide) (by decide)]
      · rw [fu 60 (by decide) (by decide) (by decide) (by decide), ft 60 (by decide) (by decide) (by decide) (by decide) (by decide) (by decide)]
      · rw [gu 3 (by decide), t65]
      · rw [gu 6 (by decide), t65]
      · rw [gu 9 (by decide), t65]
      · rw [gu 18 (by decide), t65]
      · rw [gu 21 (by decide), t65]
    · have hne := refV_ne hz
      refine ⟨hne.2, fun q => absurd q hz, fun _ => ?_⟩
      exact m_part σ rfl rfl _ (fun q => absurd q hz) (fun _ => ⟨rfl, ok, bc, ⟨x, ⟨p1, p2, p3, p4⟩, ⟨m1, m2, m3⟩⟩, rs⟩)
