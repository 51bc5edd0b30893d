/-! ===== the plain calls ===== -/
theorem TextR.keep {σ τ : Mem} (h : TextR σ) (h1 : τ 8 2 = σ 8 2) (h2 : τ 8 3 = σ 8 3) (h3 : τ 9 = σ 9) (h4 : τ 68 = σ 68) (h5 : τ 65 3 = σ 65 3) (h6 : τ 65 6 = σ 65 6) : TextR τ := by
  unfold TextR; rw [h1, h2, h3, h4, h5, h6]; exact h
theorem ImgR.keep {σ τ : Mem} (h : ImgR σ) (h1 : τ 27 = σ 27) (h2 : τ 28 = σ 28) (h3 : τ 80 = σ 80) (h4 : τ 67 = σ 67) : ImgR τ := by
  intro k hk
  unfold ImgC imgRow
  rw [h3, h4]
  have : k = 0 ∨ k = 1 := by omega
  rcases this with rfl | rfl
  · rw [h1]; exact h 0 hk
  · rw [h2]; exact h 1 hk
theorem SeedR.keep {σ τ : Mem} (h : SeedR σ) (h1 : τ 0 = σ 0) (h2 : τ 65 9 = σ 65 9) : SeedR τ := by
  unfold SeedR; rw [h1, h2]; exact h
theorem SeenR.keep {σ τ : Mem} (h : SeenR σ) (h1 : τ 60 2 = σ 60 2) (h2 : τ 61 = σ 61) (h3 : τ 62 = σ 62) (h4 : τ 77 = σ 77) (h5 : τ 78 = σ 78) (h6 : τ 65 18 = σ 65 18) (h7 : τ 67 = σ 67) : SeenR τ := by
  unfold SeenR; rw [h1, h2, h3, h4, h5, h6, h7]; exact h
theorem BookR.keep {σ τ : Mem} (h : BookR σ) (h1 : τ 63 = σ 63) (h2 : τ 64 = σ 64) (h3 : τ 79 = σ 79) (h4 : τ 65 21 = σ 65 21) : BookR τ := by
  unfold BookR; rw [h1, h2, h3, h4]; exact h
def GoodP (W1 W2 : Mem → (Int → Prop) → Prop) : Prop := ∀ σ : Mem, Rel σ → W1 σ (fun r => W2 σ (fun r' => r = r'))
theorem pub_fault : GoodP (fun σ Q => wp_X11_fault σ Q) (fun σ Q => wp_X12_fault σ Q) := fun σ h => h.2.2.2.1.2.2.2
theorem pub_told {a : Int} (ha : inR a) : GoodP (fun σ Q => wp_X11_told a σ Q) (fun σ Q => wp_X12_told a σ Q) := by
  intro σ ⟨ok, bc, ⟨x, pc, pm⟩, ⟨tr, ir, sr, nr, br⟩⟩
  have m9 := pm.2.2
  have nk : NightOk (σ 67) (σ 69) := by rw [m9]; exact pc.2.2.1
  have nc : NightC σ 17 (σ 69) := by rw [m9]; exact pc.2.1
  have ring := ok.2.1
  have main : ∀ (P : Int → Prop), (∀ v, P v ↔ wp_X12_told a σ (fun r' => v = r')) → wp_X11_told a σ P := by
    intro P hP
    have mk : ∀ v, wp_X12_told a σ (fun r' => v = r') → P v := fun v h => (hP v).mpr h
    unfold wp_X11_told
    have skel : ∀ v, ((a = 0 ∨ a = 1 ∨ a = 2 ∨ a = 3) → v = σ 67 a.toNat) → (a = 4 → v = σ 65 3) → (a = 5 → v = σ 69 0) → (a = 6 → v = upV (σ 67) (σ 69)) → (a = 7 → v = awV (σ 67) (σ 69)) → (a = 8 → v = coldV (σ 67) (σ 69)) → (a = 9 → v = σ 65 18) → (a = 10 → v = σ 65 21) → (a = 11 → v = σ 65 11) → ((a < 0 ∨ 11 < a) → v = -1000000002) → P v := by
      intro v h0 h4 h5 h6 h7 h8 h9 h10 h11 h12
      refine mk v ?_
      unfold wp_X12_told
      exact ⟨ha, fun h => ⟨by omega, h0 (by omega)⟩, fun h => ⟨by omega, h0 (by omega)⟩, fun h => ⟨by omega, h0 (by omega)⟩, fun h => ⟨by omega, h0 (by omega)⟩, h4, h5, fun h => m_inBed ok nk (h6 h), fun h => m_awake ok nk (h7 h), fun h => m_coldest ok nk (h8 h), h9, h10, h11, h12⟩
    refine ⟨ha, fun h => ?_, fun h => ⟨by rw [bc.2.1]; exact inR_s (by omega) (by omega), fun g => ?_, fun g => ?_⟩, fun h => ?_, fun h => ?_, fun h => ?_, fun h => ?_, fun h => c_up bc nc ok nk ?_, fun h => c_awake bc nc ok nk ?_, fun h => c_coldest bc nc ok nk ?_, fun h => ?_, fun h => ?_, fun h => ?_, fun h => ?_⟩
    all_goals subst_vars
    all_goals apply skel
    all_goals first
      | (intro q; exfalso; omega)
      | (intro _; rfl)
      | (intro _; exact bc.1)
      | (intro _; rw [bc.2.1] at g; show (0 : Int) = σ 67 1; omega)
      | (intro _; rw [bc.2.1] at g; show (1 : Int) = σ 67 1; omega)
      | (intro _; exact bc.2.2.1)
      | (intro _; exact bc.2.2.2.1)
      | (intro _; exact tr.1)
      | (intro _; exact nc.1)
      | (intro _; exact nr.1)
      | (intro _; exact br.1)
      | (intro _; exact pc.1.1.trans pm.1.1.symm)
      | skip
  exact main _ (fun v => Iff.rfl)
theorem pub_place {a b : Int} (ha : inR a) (hb : inR b) : GoodP (fun σ Q => wp_X11_place a b σ Q) (fun σ Q => wp_X12_place a b σ Q) := by
  intro σ ⟨ok, bc, ⟨x, pc, pm⟩, _⟩
  have nc : NightC σ 17 (σ 69) := by rw [pm.2.2]; exact pc.2.1
  have hn := ok.n6
  have m_part : ∀ v, (¬ (0 ≤ a ∧ a < σ 67 0) → v = -1000000001) → ((0 ≤ a ∧ a < σ 67 0) → (b = 0 → v = heatOf (σ 67) a) ∧ (b = 1 → v = whoOf (σ 69) a) ∧ (b ≠ 0 ∧ b ≠ 1 → v = -1000000002)) → wp_X12_place a b σ (fun r' => v = r') := by
    intro v h1 h2
    unfold wp_X12_place
    refine m_isPlace ok ha ?_
    by_cases q : 0 ≤ a ∧ a < σ 67 0
    · rw [if_pos q]
      obtain ⟨g0, g1, g2⟩ := h2 q
      exact ⟨inR_s (by omega) (by omega), fun z => absurd z (by decide), fun _ => ⟨hb, fun z => ⟨by omega, g0 z⟩, fun z => ⟨fun y => ⟨by omega, g1 y⟩, fun y => g2 ⟨z, y⟩⟩⟩⟩
    · rw [if_neg q]
      exact ⟨inR_0, fun _ => h1 q, fun z => absurd rfl z⟩
  show wp_X11_place a b σ (fun r => wp_X12_place a b σ (fun r' => r = r'))
  unfold wp_X11_place
  refine c_hasPlace bc ok ha ?_
  by_cases q : 0 ≤ a ∧ a < σ 67 0
  · rw [if_pos q]
    refine ⟨inR_s (by omega) (by omega), fun z => absurd z (by decide), fun _ => ⟨hb, fun z => ⟨by omega, m_part _ (fun y => absurd q y) (fun _ => ⟨fun _ => bc.2.2.2.2.1 a (by omega) (by omega), fun y => by omega, fun y => absurd z y.1⟩)⟩, fun z => ⟨by omega, m_part _ (fun y => absurd q y) (fun _ => ⟨fun y => by omega, fun _ => (nc.2 a (by omega) (by omega)).1, fun y => absurd z y.2⟩)⟩, fun z => m_part _ (fun y => absurd q y) (fun _ => ⟨fun y => absurd y z.1, fun y => absurd y z.2, fun _ => rfl⟩)⟩⟩
  · rw [if_neg q]
    exact ⟨inR_0, fun _ => m_part _ (fun _ => rfl) (fun y => absurd y q), fun z => absurd rfl z⟩
theorem pub_sleeper {a b : Int} (ha : inR a) (hb : inR b) : GoodP (fun σ Q => wp_X11_sleeper a b σ Q) (fun σ Q => wp_X12_sleeper a b σ Q) := by
  intro σ ⟨ok, bc, ⟨x, pc, pm⟩, _⟩
  have nc : NightC σ 17 (σ 69) := by rw [pm.2.2]; exact pc.2.1
  have nk : NightOk (σ 67) (σ 69) := by rw [pm.2.2]; exact pc.2.2.1
  have hn := ok.s6
  have m_part : ∀ v, (¬ (0 ≤ a ∧ a < σ 67 2) → v = -1000000001) → ((0 ≤ a ∧ a < σ 67 2) → (b = 0 → v = warmOf (σ 69) a) ∧ (b = 1 → v = givesOf (σ 67) a) ∧ (b = 2 → v = losesOf (σ 67) a) ∧ (b = 3 → v = wakesOf (σ 67) a) ∧ (b = 4 → v = plOf (σ 67) (σ 69) a) ∧ (b < 0 ∨ 4 < b → v = -1000000002)) → wp_X12_sleeper a b σ (fun r' => v = r') := by
    intro v h1 h2
    unfold wp_X12_sleeper
    refine m_isSleeper ok ha ?_
    by_cases q : 0 ≤ a ∧ a < σ 67 2
    · rw [if_pos q]
      obtain ⟨g0, g1, g2, g3, g4, g5⟩ := h2 q
      refine ⟨inR_s (by omega) (by omega), fun z => absurd z (by decide), fun _ => ⟨hb, fun z => ⟨by omega, g0 z⟩, fun z => m_in hb (inR_s (by omega) (by omega)) (inR_s (by omega) (by omega)) ?_⟩⟩
      by_cases y : 1 ≤ b ∧ b ≤ 3
      · rw [if_pos y]
        refine ⟨inR_s (by omega) (by omega), fun w => absurd w (by decide), fun _ => ⟨by omega, ?_⟩⟩
        have : b = 1 ∨ b = 2 ∨ b = 3 := by omega
        rcases this with rfl | rfl | rfl
        · exact g1 rfl
        · exact g2 rfl
        · exact g3 rfl
      · rw [if_neg y]
        exact ⟨inR_0, fun _ => ⟨fun w => m_placeOf ok nk ha (g4 w), fun w => g5 (by omega)⟩, fun w => absurd rfl w⟩
    · rw [if_neg q]
      exact ⟨inR_0, fun _ => h1 q, fun z => absurd rfl z⟩
  show wp_X11_sleeper a b σ (fun r => wp_X12_sleeper a b σ (fun r' => r = r'))
  unfold wp_X11_sleeper
  refine c_hasSleeper bc ok ha ?_
  by_cases q : 0 ≤ a ∧ a < σ 67 2
  · rw [if_pos q]
    obtain ⟨b3, b4, b5, b6⟩ := bc.2.2.2.2.2.1 a q.1 q.2
    have nn : ∀ {P : Prop}, ¬ (0 ≤ a ∧ a < σ 67 2) → P := fun y => absurd q y
    refine ⟨inR_s (by omega) (by omega), fun z => absurd z (by decide), fun _ => ⟨hb, fun z => ⟨by omega, m_part _ nn (fun _ => ⟨fun _ => (nc.2 a (by omega) (by omega)).2, ?_, ?_, ?_, ?_, ?_⟩)⟩, fun z => ⟨by omega, m_part _ nn (fun _ => ⟨?_, fun _ => b4, ?_, ?_, ?_, ?_⟩)⟩, fun z => ⟨by omega, m_part _ nn (fun _ => ⟨?_, ?_, fun _ => b5, ?_, ?_, ?_⟩)⟩, fun z => ⟨by omega, m_part _ nn (fun _ => ⟨?_, ?_, ?_, fun _ => b6, ?_, ?_⟩)⟩, fun z => c_placeOf bc nc ok nk ha (by omega) (m_part _ nn (fun _ => ⟨?_, ?_, ?_, ?_, fun _ => rfl, ?_⟩)), fun z => m_part _ nn (fun _ => ⟨?_, ?_, ?_, ?_, ?_, fun _ => rfl⟩)⟩⟩
    all_goals (intro y; omega)
  · rw [if_neg q]
    exact ⟨inR_0, fun _ => m_part _ (fun _ => rfl) (fun y => absurd y q), fun z => absurd rfl z⟩
theorem pub_rule {a : Int} (ha : inR a) : GoodP (fun σ Q => wp_X11_rule a σ Q) (fun σ Q => wp_X12_rule a σ Q) := by
  intro σ ⟨ok, bc, _⟩
  have hl := ok.2.2.2.1
  have m_part : ∀ v, (¬ (0 ≤ a ∧ a < σ 67 3) → v = -1) → ((0 ≤ a ∧ a < σ 67 3) → v = lawOf (σ 67) a) → wp_X12_rule a σ (fun r' => v = r') := by
    intro v h1 h2
    unfold wp_X12_rule
    refine ⟨ha, inR_s (by omega) (by omega), m_in ha inR_0 (inR_s (by omega) (by omega)) ?_⟩
    by_cases q : 0 ≤ a ∧ a < σ 67 3
    · rw [if_pos (by omega)]
      exact ⟨inR_s (by omega) (by omega), fun z => absurd z (by decide), fun _ => ⟨by omega, h2 q⟩⟩
    · rw [if_neg (by omega)]
      exact ⟨inR_0, fun _ => h1 q, fun z => absurd rfl z⟩
  show wp_X11_rule a σ (fun r => wp_X12_rule a σ (fun r' => r = r'))
  unfold wp_X11_rule
  rw [bc.2.2.2.1]
  refine ⟨ha, fun h => m_part _ (fun _ => rfl) (fun y => by omega), fun h => ⟨inR_s (by omega) (by omega), fun g => ⟨by omega, m_part _ (fun y => by omega) (fun _ => bc.2.2.2.2.2.2 a (by omega) g)⟩, fun g => m_part _ (fun _ => rfl) (fun y => by omega)⟩⟩
theorem pub_feed {a : Int} (ha : inR a) : Good (fun σ Q => wp_X11_feed a σ Q) (fun σ Q => wp_X12_feed a σ Q) := by
  intro σ hR
  have hR' := hR
  obtain ⟨ok, bc, ⟨x, pc, pm⟩, ⟨tr, ir, sr, nr, br⟩⟩ := hR'
  obtain ⟨t1, t2, t3, t4⟩ := tr
  show wp_X11_feed a σ (fun r t => wp_X12_feed a t (fun r' u => r = r' ∧ Rel u))
  have m_part : ∀ (t : Mem) (P : Int → Mem → Prop), t 65 = σ 65 → (¬ (0 ≤ a ∧ a ≤ 255) → P (-1000000002) t) → ((0 ≤ a ∧ a ≤ 255) → (σ 65 3 = 200 → P (-1000000004) t) ∧ (¬ σ 65 3 = 200 → P (σ 65 3 + 1) (up2 (up2 t 68 (σ 65 3).toNat a) 65 3 (σ 65 3 + 1)))) → wp_X12_feed a t P := by
    intro t P h5 h1 h2
    unfold wp_X12_feed
    refine ⟨ha, m_in ha inR_0 (inR_s (by omega) (by omega)) ?_⟩
    by_cases q : 0 ≤ a ∧ a ≤ 255
    · rw [if_pos q, h5]
      obtain ⟨g1, g2⟩ := h2 q
      refine ⟨inR_s (by omega) (by omega), fun z => absurd z (by decide), fun _ => ⟨inR_s (by omega) (by omega), g1, fun z => ⟨by omega, ?_⟩⟩⟩
      rintro s6 rfl s7 rfl
      rw [up2_s, up2_c (show (65 : Nat) ≠ 68 by decide), h5]
      exact g2 z
    · rw [if_neg q]
      exact ⟨inR_0, fun _ => h1 q, fun z => absurd rfl z⟩
  unfold wp_X11_feed
  refine ⟨ha, fun h => m_part σ _ rfl (fun _ => ⟨rfl, hR⟩) (fun q => by omega), fun h => ⟨fun g => ?_, fun g => m_part σ _ rfl (fun _ => ⟨rfl, hR⟩) (fun q => by omega)⟩⟩
  unfold wp_X6_add
  rw [t1]
  refine ⟨inR_s (by omega) (by omega), fun g1 => ⟨by omega, ?_⟩, fun g1 => ⟨inR_0, fun _ => m_part σ _ rfl (fun q => by omega) (fun _ => ⟨fun _ => ⟨rfl, hR⟩, fun q => by omega⟩), fun z => absurd rfl z⟩⟩
  rintro s3 rfl s4 rfl
  rw [up2_c (by decide), t1, up2_s]
  refine ⟨inR_s (by omega) (by omega), fun z => absurd z (by decide), fun _ => m_part _ _ (by simp [up2, upr]) (fun q => by omega) (fun _ => ⟨fun z => by omega, fun _ => ⟨rfl, ?_⟩⟩)⟩
  have hb : ∀ v w y z, up2 (up2 (up2 (up2 σ 9 (σ 65 3).toNat v) 8 2 w) 68 (σ 65 3).toNat y) 65 3 z 67 = σ 67 := fun v w y z => by simp [up2, upr]
  refine ⟨by rw [hb]; exact ok, ?_, ⟨x, ?_, ?_⟩, ?_, ?_, ?_, ?_, ?_⟩
  · rw [hb]; exact bc.keep (fun d h0 h1 => by rw [up2_c (by omega), up2_c (by omega), up2_c (by omega), up2_c (by omega)])
  · rw [hb]; exact pc.keep (by simp [up2, upr]) (by simp [up2, upr]) (by simp [up2, upr]) (by simp [up2, upr]) (by simp [up2, upr]) (by simp [up2, upr])
  · exact pm.keep (by simp [up2, upr, up1]) (by simp [up2, upr]) (by simp [up2, upr])
  · refine ⟨by simp [up2, upr, up1], ?_, fun i h0 h1 => ?_, by simp [up2, upr, up1]; exact t4⟩
    · rw [up2_s]; omega
    · rw [up2_s] at h1
      rw [up2_c (by decide), up2_c (by decide), up2_c (by decide), up2_e, up2_c (by decide), up2_e, up2_c (by decide), up2_c (by decide)]
      by_cases hi : i = σ 65 3
      · rw [if_pos (by rw [hi]), if_pos (by rw [hi])]; exact ⟨rfl, by omega, by omega⟩
      · rw [if_neg (by omega), if_neg (by omega)]; exact t3 i h0 (by omega)
  · exact ir.keep (by simp [up2, upr]) (by simp [up2, upr]) (by simp [up2, upr]) (hb _ _ _ _)
  · exact sr.keep (by simp [up2, upr]) (by simp [up2, upr, up1])
  · exact nr.keep (by simp [up2, upr]) (by simp [up2, upr]) (by simp [up2, upr]) (by simp [up2, upr]) (by simp [up2, upr]) (by simp [up2, upr, up1]) (hb _ _ _ _)
  · exact br.keep (by simp [up2, upr]) (by simp [up2, upr]) (by simp [up2, upr]) (by simp [up2, upr, up1])
theorem pub_write {a : Int} (ha : inR a) : Good (fun σ Q => wp_X11_write a σ Q) (fun σ Q => wp_X12_write a σ Q) := by
  intro σ hR
  have hR' := hR
  obtain ⟨ok, bc, ⟨x, pc, pm⟩, ⟨tr, ir, sr, nr, br⟩⟩ := hR'
  obtain ⟨t1, t2, t3⟩ := br
  show wp_X11_write a σ (fun r t => wp_X12_write a t (fun r' u => r = r' ∧ Rel u))
  have m_part : ∀ (t : Mem) (P : Int → Mem → Prop), t 65 = σ 65 → (¬ (0 ≤ a ∧ a ≤ 3) → P (-1000000001) t) → ((0 ≤ a ∧ a ≤ 3) → (σ 65 21 = 20 → P (-1000000004) t) ∧ (¬ σ 65 21 = 20 → P (σ 65 21 + 1) (up2 (up2 t 79 (σ 65 21).toNat a) 65 21 (σ 65 21 + 1)))) → wp_X12_write a t P := by
    intro t P h5 h1 h2
    unfold wp_X12_write
    refine ⟨ha, m_in ha inR_0 (inR_s (by omega) (by omega)) ?_⟩
    by_cases q : 0 ≤ a ∧ a ≤ 3
    · rw [if_pos q, h5]
      obtain ⟨g1, g2⟩ := h2 q
      refine ⟨inR_s (by omega) (by omega), fun z => absurd z (by decide), fun _ => ⟨inR_s (by omega) (by omega), g1, fun z => ⟨by omega, ?_⟩⟩⟩
      rintro s6 rfl s7 rfl
      rw [up2_s, up2_c (show (65 : Nat) ≠ 79 by decide), h5]
      exact g2 z
    · rw [if_neg q]
      exact ⟨inR_0, fun _ => h1 q, fun z => absurd rfl z⟩
  unfold wp_X11_write
  refine isWord_c ha ?_
  by_cases q : 0 ≤ a ∧ a ≤ 3
  · rw [if_pos q]
    refine ⟨inR_s (by omega) (by omega), fun z => absurd z (by decide), fun _ => ?_⟩
    unfold wp_X1_add
    rw [t1]
    refine ⟨inR_s (by omega) (by omega), fun g1 => ⟨by omega, ?_⟩, fun g1 => ⟨inR_0, fun _ => m_part σ _ rfl (fun q2 => absurd q q2) (fun _ => ⟨fun _ => ⟨rfl, hR⟩, fun q => by omega⟩), fun z => absurd rfl z⟩⟩
    rintro s3 rfl s4 rfl
    rw [up2_c (by decide), t1, up2_s]
    refine ⟨inR_s (by omega) (by omega), fun z => absurd z (by decide), fun _ => m_part _ _ (by simp [up2, upr]) (fun q2 => absurd q q2) (fun _ => ⟨fun z => by omega, fun _ => ⟨rfl, ?_⟩⟩)⟩
    have hb : ∀ v w y z, up2 (up2 (up2 (up2 σ 64 (σ 65 21).toNat v) 63 1 w) 79 (σ 65 21).toNat y) 65 21 z 67 = σ 67 := fun v w y z => by simp [up2, upr]
    refine ⟨by rw [hb]; exact ok, ?_, ⟨x, ?_, ?_⟩, ?_, ?_, ?_, ?_, ?_⟩
    · rw [hb]; exact bc.keep (fun d h0 h1 => by rw [up2_c (by omega), up2_c (by omega), up2_c (by omega), up2_c (by omega)])
    · rw [hb]; exact pc.keep (by simp [up2, upr]) (by simp [up2, upr]) (by simp [up2, upr]) (by simp [up2, upr]) (by simp [up2, upr]) (by simp [up2, upr])
    · exact pm.keep (by simp [up2, upr, up1]) (by simp [up2, upr]) (by simp [up2, upr])
    · exact tr.keep (by simp [up2, upr]) (by simp [up2, upr]) (by simp [up2, upr]) (by simp [up2, upr]) (by simp [up2, upr, up1]) (by simp [up2, upr, up1])
    · exact ir.keep (by simp [up2, upr]) (by simp [up2, upr]) (by simp [up2, upr]) (hb _ _ _ _)
    · exact sr.keep (by simp [up2, upr]) (by simp [up2, upr, up1])
    · exact nr.keep (by simp [up2, upr]) (by simp [up2, upr]) (by simp [up2, upr]) (by simp [up2, upr]) (by simp [up2, upr]) (by simp [up2, upr, up1]) (hb _ _ _ _)
    · refine ⟨by simp [up2, upr, up1], ?_, fun i h0 h1 => ?_⟩
      · rw [up2_s]; omega
      · rw [up2_s] at h1
        rw [up2_c (by decide), up2_c (by decide), up2_c (by decide), up2_e, up2_c (by decide), up2_e, up2_c (by decide), up2_c (by decide)]
        by_cases hi : i = σ 65 21
        · rw [if_pos (by rw [hi]), if_pos (by rw [hi])]; exact ⟨rfl, by omega, by omega⟩
        · rw [if_neg (by omega), if_neg (by omega)]; exact t3 i h0 (by omega)
  · rw [if_neg q]
    exact ⟨inR_0, fun _ => m_part σ _ rfl (fun _ => ⟨rfl, hR⟩) (fun q2 => absurd q2 q), fun z => absurd rfl z⟩
theorem pub_tear : Good (fun σ Q => wp_X11_tear σ Q) (fun σ Q => wp_X12_tear σ Q) := by
  intro σ ⟨ok, bc, ⟨x, pc, pm⟩, ⟨tr, ir, sr, nr, br⟩⟩
  show wp_X11_tear σ (fun r t => wp_X12_tear t (fun r' u => r = r' ∧ Rel u))
  unfold wp_X11_tear
  rintro x1 rfl
  unfold wp_X9_empty
  rintro s2 rfl
  unfold wp_X1_empty
  rintro s3 rfl
  unfold wp_X12_tear
  rintro x2 rfl s4 rfl s5 rfl
  refine ⟨?_, ?_⟩
  · rw [up2_c (by decide), up2_c (by decide), nr.1, br.1]
  · have hb : up2 (up2 (up2 (up2 σ 60 2 0) 63 1 0) 65 18 0) 65 21 0 67 = σ 67 := by simp [up2, upr]
    refine ⟨by rw [hb]; exact ok, ?_, ⟨x, ?_, ?_⟩, ?_, ?_, ?_, ?_, ?_⟩
    · rw [hb]; exact bc.keep (fun d h0 h1 => by rw [up2_c (by omega), up2_c (by omega), up2_c (by omega), up2_c (by omega)])
    · rw [hb]; exact pc.keep (by simp [up2, upr]) (by simp [up2, upr]) (by simp [up2, upr]) (by simp [up2, upr]) (by simp [up2, upr]) (by simp [up2, upr])
    · exact pm.keep (by simp [up2, upr, up1]) (by simp [up2, upr]) (by simp [up2, upr])
    · exact tr.keep (by simp [up2, upr]) (by simp [up2, upr]) (by simp [up2, upr]) (by simp [up2, upr]) (by simp [up2, upr, up1]) (by simp [up2, upr, up1])
    · exact ir.keep (by simp [up2, upr]) (by simp [up2, upr]) (by simp [up2, upr]) hb
    · exact sr.keep (by simp [up2, upr]) (by simp [up2, upr, up1])
    · have e0 : up2 (up2 (up2 (up2 σ 60 2 0) 63 1 0) 65 18 0) 65 21 0 65 18 = 0 := by simp [up2, upr, up1]
      refine ⟨by simp [up2, upr, up1], by rw [e0]; omega, fun k h0 h1 => by rw [e0] at h1; omega⟩
    · have e0 : up2 (up2 (up2 (up2 σ 60 2 0) 63 1 0) 65 18 0) 65 21 0 65 21 = 0 := by simp [up2, upr, up1]
      refine ⟨by simp [up2, upr, up1], by rw [e0]; omega, fun k h0 h1 => by rw [e0] at h1; omega⟩
theorem pub_seed {a : Int} (ha : inR a) : Good (fun σ Q => wp_X11_seed a σ Q) (fun σ Q => wp_X12_seed a σ Q) := by
  intro σ hR
  have hR' := hR
  obtain ⟨ok, bc, ⟨x, pc, pm⟩, ⟨tr, ir, sr, nr, br⟩⟩ := hR'
  show wp_X11_seed a σ (fun r t => wp_X12_seed a t (fun r' u => r = r' ∧ Rel u))
  unfold wp_X11_seed
  refine ⟨ha, fun h => ?_, fun h => ?_⟩
  · rintro x2 rfl s3 rfl
    unfold wp_X12_seed
    refine ⟨ha, fun _ => ?_, fun g => absurd h g⟩
    rintro x3 rfl s4 rfl
    refine ⟨by rw [up2_c (by decide)]; exact sr.1, ?_⟩
    have hb : up2 (up2 σ 0 12 a) 65 9 a 67 = σ 67 := by simp [up2, upr]
    refine ⟨by rw [hb]; exact ok, ?_, ⟨x, ?_, ?_⟩, ?_, ?_, ?_, ?_, ?_⟩
    · rw [hb]; exact bc.keep (fun d h0 h1 => by rw [up2_c (by omega), up2_c (by omega)])
    · rw [hb]; exact pc.keep (by simp [up2, upr]) (by simp [up2, upr]) (by simp [up2, upr]) (by simp [up2, upr]) (by simp [up2, upr]) (by simp [up2, upr])
    · exact pm.keep (by simp [up2, upr, up1]) (by simp [up2, upr]) (by simp [up2, upr])
    · exact tr.keep (by simp [up2, upr]) (by simp [up2, upr]) (by simp [up2, upr]) (by simp [up2, upr]) (by simp [up2, upr, up1]) (by simp [up2, upr, up1])
    · exact ir.keep (by simp [up2, upr]) (by simp [up2, upr]) (by simp [up2, upr]) hb
    · exact ⟨by simp [up2, upr, up1], by rw [up2_s]; exact ⟨h, ha.2⟩⟩
    · exact nr.keep (by simp [up2, upr]) (by simp [up2, upr]) (by simp [up2, upr]) (by simp [up2, upr]) (by simp [up2, upr]) (by simp [up2, upr, up1]) hb
    · exact br.keep (by simp [up2, upr]) (by simp [up2, upr]) (by simp [up2, upr]) (by simp [up2, upr, up1])
  · unfold wp_X12_seed
    exact ⟨ha, fun g => absurd g h, fun _ => ⟨rfl, hR⟩⟩
