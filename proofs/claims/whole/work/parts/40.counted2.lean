theorem m_counts {n sn : Nat} {σ : Mem} {r A C : Nat → Int} {Q : Mem → Prop} (ok : BedOk (σ 67)) (nk : NightOk (σ 67) r) (m9 : σ 69 = r) (hN : 2 ≤ σ 67 0) (hn : n ≤ 5) (hsn : sn ≤ 6) (e2 : σ 65 18 = (sn : Int)) (hA : ∀ k : Nat, k < sn → σ 77 k = A k ∧ (0 ≤ A k ∧ A k < 6)) (hC : ∀ k : Nat, k < sn → σ 78 k = C k ∧ (0 ≤ C k ∧ C k < σ 67 0))
    (hq : ∀ u : Mem, (∀ d, d ≠ 65 → d ≠ 72 → u d = σ d) → (∀ j, j ≠ 23 → j ≠ 24 → j ≠ 25 → u 65 j = σ 65 j) → u 65 23 = (cnF (fitQ (σ 67) r n sn A C) (mkQ n) (4 ^ n)).1 → u 65 24 = (cnF (fitQ (σ 67) r n sn A C) (mkQ n) (4 ^ n)).2.1 → u 65 25 = (cnF (fitQ (σ 67) r n sn A C) (mkQ n) (4 ^ n)).2.2 → Q u) : wp_X12_counts (n : Int) σ Q := by
  unfold wp_X12_counts
  have hb := ok.n6
  have hp := pw4_le hn
  have ep : zshl 1 (2 * (n : Int)) = ((4 ^ n : Nat) : Int) := pw4_val ⟨n, by omega⟩
  generalize 4 ^ n = M at hp ep hq
  generalize hF : fitQ (σ 67) r n sn A C = Fi at hq
  refine m_asides (fun w fw gw => ?_)
  rintro s2 rfl s3 rfl s4 rfl
  have w72 : ∀ j : Nat, j < 13 → w 72 j = r j := fun j hj => by rw [gw j hj, m9]
  have w69 : w 69 = r := by rw [fw 69 (by decide), m9]
  refine ⟨fun k y s => ∃ j : Nat, y = (j : Int) ∧ j ≤ M ∧ k + j = M ∧ (∀ d, d ≠ 65 → s d = w d) ∧ (∀ i, i ≠ 23 → i ≠ 24 → i ≠ 25 → s 65 i = σ 65 i) ∧ s 65 23 = (cnF Fi (mkQ n) j).1 ∧ s 65 24 = (cnF Fi (mkQ n) j).2.1 ∧ s 65 25 = (cnF Fi (mkQ n) j).2.2, ?_, M, 0, rfl, by omega, rfl, fun d hd => by rw [up2_c hd, up2_c hd, up2_c hd], fun i h0 h1 h2 => by rw [up2_n h2, up2_n h1, up2_n h0, fw 65 (by decide)], by rw [up2_n (by decide), up2_n (by decide), up2_s]; rfl, by rw [up2_n (by decide), up2_s]; rfl, by rw [up2_s]; rfl⟩
  rintro k y s ⟨j, rfl, j1, j2, j3, j4, j5, j6, j7⟩
  have hc := cnF_in (Fi := Fi) (mkQ_in n) j
  unfold wp_X12_power
  rw [ep]
  refine ⟨inR_s (by omega) (by omega), inR_s (by omega) (by omega), fun h => ?_, fun h => ?_⟩
  · have e : j = M := by omega
    rw [e] at j5 j6 j7
    exact hq s (fun d h0 h1 => by rw [j3 d h0, fw d h1]) j4 j5 j6 j7
  · have s7 : s 67 = σ 67 := by rw [j3 67 (by decide), fw 67 (by decide)]
    have s9 : s 69 = r := by rw [j3 69 (by decide), w69]
    refine ⟨fun k' y3 y4 s' => ∃ i : Nat, y4 = (i : Int) ∧ i ≤ n ∧ k' + i = n ∧ y3 = mkN (wq n j) i ∧ (∀ d, d ≠ 69 → s' d = s d) ∧ s' 69 = itT (σ 67) (wq n j) r i, ?_, n, 0, rfl, by omega, rfl, rfl, fun _ _ => rfl, s9⟩
    rintro k' y3 y4 s' ⟨i, rfl, i1, i2, rfl, i3, i4⟩
    refine ⟨inR_s (by omega) (by omega), inR_s (by omega) (by omega), fun h1 => ?_, fun h1 => ?_⟩
    · have ei : i = n := by omega
      rw [ei] at i4 ⊢
      have kk := itT_ok (ws := wq n j) ok nk n
      have s18 : s' 65 18 = (sn : Int) := by rw [i3 65 (by decide), j4 18 (by decide) (by decide) (by decide)]; exact e2
      have s77 : s' 77 = σ 77 := by rw [i3 77 (by decide), j3 77 (by decide), fw 77 (by decide)]
      have s78 : s' 78 = σ 78 := by rw [i3 78 (by decide), j3 78 (by decide), fw 78 (by decide)]
      rw [s18, s77, s78]
      refine ⟨fun k'' y4 y5 => ∃ l : Nat, y5 = (l : Int) ∧ l ≤ sn ∧ k'' + l = sn ∧ y4 = (if fitN (seenG (σ 67) r (wq n j) n A C) l = true then 1 else 0), ?_, sn, 0, rfl, by omega, rfl, rfl⟩
      rintro k'' y4 y5 ⟨l, rfl, l1, l2, l3⟩
      have hy4 : y4 = 0 ∨ y4 = 1 := by rw [l3]; split <;> omega
      refine ⟨inR_s (by omega) (by omega), inR_s (by omega) (by omega), fun h2 => ?_, fun h2 => ⟨inR_s (by omega) (by omega), ⟨fun _ => trivial, fun _ => ⟨by omega, ?_⟩⟩, ?_⟩⟩
      · have el : l = sn := by omega
        have eF : fitN (seenG (σ 67) r (wq n j) n A C) sn = Fi j := by rw [← hF]; rfl
        have em : mkN (wq n j) n = mkQ n j := rfl
        have hm := mkQ_in n j
        rw [el, eF] at l3
        rw [em]
        refine m_backs (r := r) (fun e he => by rw [i3 72 (by decide), j3 72 (by decide)]; exact w72 e he) (fun e he => by rw [i4]; exact itT_hi ok n he) (fun u fu hu => ?_)
        have u65 : u 65 = s 65 := by rw [fu 65 (by decide), i3 65 (by decide)]
        rw [u65, j5, j6]
        refine ⟨inR_s (by omega) (by omega), ⟨fun _ => trivial, fun _ => inR_s (by omega) (by omega)⟩, ?_⟩
        intro v22 e22 s23 e23 v24 e24 s25 e25 v26 e26 s27 e27 x2 ex2
        have a25 : s23 65 25 = (cnF Fi (mkQ n) j).2.2 := by rw [e23, up2_n (by decide), u65, j7]
        rw [a25] at e25
        have a23 : s25 65 23 = (cnF Fi (mkQ n) j).1 := by rw [e25, up2_n (by decide), e23, up2_n (by decide), u65, j5]
        rw [a23] at e27
        have ff : ∀ d, d ≠ 65 → s27 d = w d := by
          intro d hd
          rw [e27, up2_c hd, e25, up2_c hd, e23, up2_c hd]
          by_cases hd9 : d = 69
          · rw [hd9, hu, w69]
          · rw [fu d hd9, i3 d hd9, j3 d hd]
        have f65 : ∀ i, i ≠ 23 → i ≠ 24 → i ≠ 25 → s27 65 i = σ 65 i := fun i h0 h1 h2 => by
          rw [e27, up2_n h0, e25, up2_n h2, e23, up2_n h1, u65]; exact j4 i h0 h1 h2
        have b23 : s27 65 23 = (cnF Fi (mkQ n) j).1 + v26 := by rw [e27, up2_s]
        have b24 : s27 65 24 = v22 := by rw [e27, up2_n (by decide), e25, up2_n (by decide), e23, up2_s]
        have b25 : s27 65 25 = zand (cnF Fi (mkQ n) j).2.2 v24 := by rw [e27, up2_n (by decide), e25, up2_s]
        refine ⟨k - 1, by omega, j + 1, by omega, by omega, by omega, ff, f65, ?_⟩
        rw [cnF]
        by_cases hf : Fi j = true
        · rw [if_pos hf] at l3 ⊢
          rw [if_neg (show ¬ y4 = 0 by omega)] at e22 e24 e26
          refine ⟨by rw [b23, e26], by rw [b24, e22], by rw [b25, e24]⟩
        · rw [if_neg hf] at l3 ⊢
          rw [if_pos l3] at e22 e24 e26
          refine ⟨by rw [b23, e26, Int.add_zero], by rw [b24, e22], ?_⟩
          rw [b25, e24, (an_in hc.2.2.2.1.1 hc.2.2.2.1.2 (b := 0) (by omega) (by omega)).2.2]
      · obtain ⟨a1, a2, a3⟩ := hA l (by omega)
        obtain ⟨c1, c2, c3⟩ := hC l (by omega)
        rw [show (l : Int).toNat = l by omega, a1, c1, i4]
        have hwho := kk.1 (C l) c2 (by omega)
        exact ⟨by omega, inR_s (show -1000000 ≤ whoOf (itT (σ 67) (wq n j) r n) (C l) by omega) (show whoOf (itT (σ 67) (wq n j) r n) (C l) ≤ 1000000 by have := ok.s6; omega), inR_s (by omega) (by omega)⟩
      · obtain ⟨a1, a2, a3⟩ := hA l (by omega)
        obtain ⟨c1, c2, c3⟩ := hC l (by omega)
        rw [show (l : Int).toNat = l by omega, a1, c1, i4]
        rintro v39 rfl x5 rfl
        refine ⟨k'' - 1, by omega, l + 1, by omega, by omega, by omega, ?_⟩
        unfold fitN
        by_cases hf : fitN (seenG (σ 67) r (wq n j) n A C) l = true
        · rw [if_pos hf] at l3
          rw [if_neg (show ¬ y4 = 0 by omega), hf, Bool.true_and]
          show (if whoOf (itT (σ 67) (wq n j) r n) (C l) = A l then 1 else 0) = _
          unfold seenG
          by_cases hz : whoOf (itT (σ 67) (wq n j) r n) (C l) = A l
          · rw [if_pos hz, decide_eq_true hz, if_pos rfl]
          · rw [if_neg hz, decide_eq_false hz, if_neg (by decide)]
        · rw [if_neg hf] at l3
          have hf' : fitN (seenG (σ 67) r (wq n j) n A C) l = false := by
            cases hx : fitN (seenG (σ 67) r (wq n j) n A C) l
            · rfl
            · exact absurd hx hf
          rw [if_pos l3, hf', Bool.false_and, if_neg (by decide)]
    · unfold wp_X12_word
      have ew : zand (zshr (j : Int) (2 * (((n : Int) - 1) - (i : Int)))) 3 = wq n j i := wd_wq (by omega) hn (by omega)
      have hw := wq_in n j i
      rw [ew]
      have s'7 : s' 67 = σ 67 := by rw [i3 67 (by decide), s7]
      refine m_turns (by rw [s'7]; exact ok) (inR_s (by omega) (by omega)) (Or.inl (by rw [s'7]; exact hN)) (fun u hu fu => ?_)
      rintro x3 rfl x4 rfl
      refine ⟨k' - 1, by omega, i + 1, by omega, by omega, by omega, rfl, fun d hd => by rw [fu d hd]; exact i3 d hd, ?_⟩
      rw [hu, s'7, i4]
      rfl
theorem seen_A {σ : Mem} (ok : BedOk (σ 67)) (nr : SeenR σ) : ∃ sn : Nat, sn ≤ 6 ∧ σ 60 2 = (sn : Int) ∧ σ 65 18 = (sn : Int) ∧ (∀ k : Nat, k < sn → σ 61 k = σ 77 k ∧ (0 ≤ σ 77 k ∧ σ 77 k < 6)) ∧ (∀ k : Nat, k < sn → σ 62 k = σ 78 k ∧ (0 ≤ σ 78 k ∧ σ 78 k < σ 67 0)) := by
  obtain ⟨h1, h2, h3⟩ := nr
  have h6 := ok.s6
  refine ⟨(σ 65 18).toNat, by omega, by omega, by omega, fun k hk => ?_, fun k hk => ?_⟩
  · have := h3 (k : Int) (by omega) (by omega)
    rw [show (k : Int).toNat = k by omega] at this
    exact ⟨this.1, this.2.2.1.1, by omega⟩
  · have := h3 (k : Int) (by omega) (by omega)
    rw [show (k : Int).toNat = k by omega] at this
    exact ⟨this.2.1, this.2.2.2⟩
/-- what class and model share behind the count -/
theorem cn_rel {σ u : Mem} (hR : Rel σ) (f : ∀ d, d ≠ 60 → d ≠ 65 → d ≠ 72 → u d = σ d) (h60 : u 60 2 = σ 60 2) (h65 : ∀ j, j ≠ 23 → j ≠ 24 → j ≠ 25 → u 65 j = σ 65 j) : Rel u := by
  refine hR.tried (fun d hd => ?_) h60 ⟨h65 _ (by decide) (by decide) (by decide), h65 _ (by decide) (by decide) (by decide), h65 _ (by decide) (by decide) (by decide), h65 _ (by decide) (by decide) (by decide), h65 _ (by decide) (by decide) (by decide), h65 _ (by decide) (by decide) (by decide)⟩
  unfold jk at hd
  exact f d (by omega) (by omega) (by omega)
theorem pub_counted {a i : Int} (ha : inR a) (hi : inR i) : Good (fun σ Q => wp_X11_counted a i σ Q) (fun σ Q => wp_X12_counted a i σ Q) := by
  intro σ hR
  have hR' := hR
  obtain ⟨ok, bc, ⟨x, pc, pm⟩, ⟨tr, ir, sr, nr, br⟩⟩ := hR'
  show wp_X11_counted a i σ (fun r t => wp_X12_counted a i t (fun r' u => r = r' ∧ Rel u))
  have nk := pc.2.2.1
  have m9 := pm.2.2
  have hb := ok.n6
  obtain ⟨sn, s1, s2, s3, s4, s5⟩ := seen_A ok nr
  have bad : ¬ (1 ≤ a ∧ a ≤ 5) → wp_X12_counted a i σ (fun r' u => -1000000002 = r' ∧ Rel u) := by
    intro q
    unfold wp_X12_counted
    refine ⟨ha, m_in ha (inR_s (by omega) (by omega)) (inR_s (by omega) (by omega)) ?_⟩
    rw [if_neg q]
    exact ⟨inR_0, fun _ => ⟨rfl, hR⟩, fun z => absurd rfl z⟩
  unfold wp_X11_counted
  refine ⟨ha, fun h => bad (by omega), fun h => ⟨fun h2 => ?_, fun h2 => bad (by omega)⟩⟩
  rw [bc.1]
  refine ⟨inR_s (by omega) (by omega), fun hz => ?_, fun hz => ?_⟩
  · unfold wp_X12_counted
    refine ⟨ha, m_in ha (inR_s (by omega) (by omega)) (inR_s (by omega) (by omega)) ?_⟩
    rw [if_pos (show 1 ≤ a ∧ a ≤ 5 by omega)]
    exact ⟨inR_s (by omega) (by omega), fun z => absurd z (by decide), fun _ => ⟨inR_s (by omega) (by omega), fun _ => ⟨rfl, hR⟩, fun z => absurd hz z⟩⟩
  · have hN : 2 ≤ σ 67 0 := by
      rcases ok.1 with c | c
      · omega
      · exact c.1
    obtain ⟨n, hn, rfl⟩ : ∃ n : Nat, n ≤ 5 ∧ a = (n : Int) := ⟨a.toNat, by omega, by omega⟩
    have hp := pw4_le hn
    refine c_seekSeen (sn := sn) bc pc.2.1 ok nk hn s1 s2 s4 s5 (fun t ft t2 t3 t4 t5 => ?_)
    have hc := cnF_in (Fi := fitQ (σ 67) x.2.2 n sn (σ 77) (σ 78)) (mkQ_in n) (4 ^ n)
    have t7 : t 67 = σ 67 := ft 67 (by decide)
    generalize hy : cnF (fitQ (σ 67) x.2.2 n sn (σ 77) (σ 78)) (mkQ n) (4 ^ n) = y at hc t3 t4 t5
    have md : ∀ (v : Int), (i = -1 → v = y.1) → (i ≠ -1 → ¬ (0 ≤ i ∧ i < (n : Int)) → v = -1) → (i ≠ -1 → (0 ≤ i ∧ i < (n : Int)) → y.1 = 0 → v = -1) → (i ≠ -1 → (0 ≤ i ∧ i < (n : Int)) → y.1 ≠ 0 → v = zand (zshr y.2.1 (2 * (((n : Int) - 1) - i))) 3) → wp_X12_counted (n : Int) i t (fun r' u => v = r' ∧ Rel u) := by
      intro v g1 g2 g3 g4
      unfold wp_X12_counted
      refine ⟨ha, m_in ha (inR_s (by omega) (by omega)) (inR_s (by omega) (by omega)) ?_⟩
      rw [if_pos (show 1 ≤ (n : Int) ∧ (n : Int) ≤ 5 by omega), t7]
      refine ⟨inR_s (by omega) (by omega), fun z => absurd z (by decide), fun _ => ⟨inR_s (by omega) (by omega), fun z => absurd z hz, fun _ => ?_⟩⟩
      refine m_counts (sn := sn) (A := σ 77) (C := σ 78) (r := x.2.2) (by rw [t7]; exact ok) (by rw [t7]; exact nk) (by rw [ft 69 (by decide), m9]) (by rw [t7]; exact hN) hn s1 (by rw [ft 65 (by decide)]; exact s3) (fun k hk => ⟨by rw [ft 77 (by decide)], (s4 k hk).2⟩) (fun k hk => ⟨by rw [ft 78 (by decide)], by rw [t7]; exact (s5 k hk).2⟩) (fun u fu f65 u3 u4 u5 => ?_)
      rw [t7, hy] at u3 u4 u5
      have hRu : Rel u := cn_rel hR (fun d h0 h1 h2 => by rw [fu d h1 h2, ft d h0]) (by rw [fu 60 (by decide) (by decide), t2]) (fun j h0 h1 h2 => by rw [f65 j h0 h1 h2, ft 65 (by decide)])
      rw [u3, u4]
      refine ⟨hi, fun c => ⟨g1 c, hRu⟩, fun c => ⟨inR_s (by omega) (by omega), fun c2 => ?_, fun c2 => ⟨inR_s (by omega) (by omega), m_in hi inR_0 (inR_s (by omega) (by omega)) ?_⟩⟩⟩
      · by_cases q : 0 ≤ i ∧ i < (n : Int)
        · exact ⟨g3 c q (by omega), hRu⟩
        · exact ⟨g2 c q, hRu⟩
      · by_cases q : 0 ≤ i ∧ i < (n : Int)
        · rw [if_pos (by omega)]
          exact ⟨inR_s (by omega) (by omega), fun z => absurd z (by decide), fun _ => ⟨g4 c q (by omega), hRu⟩⟩
        · rw [if_neg (by omega)]
          exact ⟨inR_0, fun _ => ⟨g2 c q, hRu⟩, fun z => absurd rfl z⟩
    dsimp only
    rw [t3, t4]
    refine ⟨hi, fun c => md _ (fun _ => rfl) (fun z => absurd c z) (fun z => absurd c z) (fun z => absurd c z), fun c => ⟨fun c2 => md _ (fun z => absurd z c) (fun _ _ => rfl) (fun _ z => by omega) (fun _ z => by omega), fun c2 => ⟨fun c3 => md _ (fun z => absurd z c) (fun _ _ => rfl) (fun _ z => by omega) (fun _ z => by omega), fun c3 => ⟨inR_s (by omega) (by omega), fun c4 => md _ (fun z => absurd z c) (fun _ _ => rfl) (fun _ _ _ => rfl) (fun _ _ z => absurd c4 z), fun c4 => md _ (fun z => absurd z c) (fun _ z => by omega) (fun _ _ z => absurd z c4) (fun _ _ _ => rfl)⟩⟩⟩⟩
theorem pub_sure {a : Int} (ha : inR a) : Good (fun σ Q => wp_X11_sure a σ Q) (fun σ Q => wp_X12_sure a σ Q) := by
  intro σ hR
  have hR' := hR
  obtain ⟨ok, bc, ⟨x, pc, pm⟩, ⟨tr, ir, sr, nr, br⟩⟩ := hR'
  show wp_X11_sure a σ (fun r t => wp_X12_sure a t (fun r' u => r = r' ∧ Rel u))
  have nk := pc.2.2.1
  have m9 := pm.2.2
  have hb := ok.n6
  obtain ⟨sn, s1, s2, s3, s4, s5⟩ := seen_A ok nr
  have bad : ¬ (1 ≤ a ∧ a ≤ 5) → wp_X12_sure a σ (fun r' u => -1000000002 = r' ∧ Rel u) := by
    intro q
    unfold wp_X12_sure
    refine ⟨ha, m_in ha (inR_s (by omega) (by omega)) (inR_s (by omega) (by omega)) ?_⟩
    rw [if_neg q]
    exact ⟨inR_0, fun _ => ⟨rfl, hR⟩, fun z => absurd rfl z⟩
  unfold wp_X11_sure
  refine ⟨ha, fun h => bad (by omega), fun h => ⟨fun h2 => ?_, fun h2 => bad (by omega)⟩⟩
  rw [bc.1]
  refine ⟨inR_s (by omega) (by omega), fun hz => ?_, fun hz => ?_⟩
  · unfold wp_X12_sure
    refine ⟨ha, m_in ha (inR_s (by omega) (by omega)) (inR_s (by omega) (by omega)) ?_⟩
    rw [if_pos (show 1 ≤ a ∧ a ≤ 5 by omega)]
    exact ⟨inR_s (by omega) (by omega), fun z => absurd z (by decide), fun _ => ⟨inR_s (by omega) (by omega), fun _ => ⟨rfl, hR⟩, fun z => absurd hz z⟩⟩
  · have hN : 2 ≤ σ 67 0 := by
      rcases ok.1 with c | c
      · omega
      · exact c.1
    obtain ⟨n, hn, rfl⟩ : ∃ n : Nat, n ≤ 5 ∧ a = (n : Int) := ⟨a.toNat, by omega, by omega⟩
    have hp := pw4_le hn
    refine c_seekSeen (sn := sn) bc pc.2.1 ok nk hn s1 s2 s4 s5 (fun t ft t2 t3 t4 t5 => ?_)
    have hc := cnF_in (Fi := fitQ (σ 67) x.2.2 n sn (σ 77) (σ 78)) (mkQ_in n) (4 ^ n)
    have t7 : t 67 = σ 67 := ft 67 (by decide)
    generalize hy : cnF (fitQ (σ 67) x.2.2 n sn (σ 77) (σ 78)) (mkQ n) (4 ^ n) = y at hc t3 t4 t5
    dsimp only
    rw [t5]
    unfold wp_X12_sure
    refine ⟨ha, m_in ha (inR_s (by omega) (by omega)) (inR_s (by omega) (by omega)) ?_⟩
    rw [if_pos (show 1 ≤ (n : Int) ∧ (n : Int) ≤ 5 by omega), t7]
    refine ⟨inR_s (by omega) (by omega), fun z => absurd z (by decide), fun _ => ⟨inR_s (by omega) (by omega), fun z => absurd z hz, fun _ => ?_⟩⟩
    refine m_counts (sn := sn) (A := σ 77) (C := σ 78) (r := x.2.2) (by rw [t7]; exact ok) (by rw [t7]; exact nk) (by rw [ft 69 (by decide), m9]) (by rw [t7]; exact hN) hn s1 (by rw [ft 65 (by decide)]; exact s3) (fun k hk => ⟨by rw [ft 77 (by decide)], (s4 k hk).2⟩) (fun k hk => ⟨by rw [ft 78 (by decide)], by rw [t7]; exact (s5 k hk).2⟩) (fun u fu f65 u3 u4 u5 => ?_)
    rw [t7, hy] at u3 u4 u5
    have hRu : Rel u := cn_rel hR (fun d h0 h1 h2 => by rw [fu d h1 h2, ft d h0]) (by rw [fu 60 (by decide) (by decide), t2]) (fun j h0 h1 h2 => by rw [f65 j h0 h1 h2, ft 65 (by decide)])
    rw [u3, u5]
    refine ⟨inR_s (by omega) (by omega), fun c => ⟨?_, hRu⟩, fun c => ⟨?_, hRu⟩⟩
    · rw [if_pos (by omega)]
    · rw [if_neg (by omega)]
