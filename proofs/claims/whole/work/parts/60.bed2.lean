/-! ===== bed alike ===== -/
theorem BedOk.congr {b c : Nat → Int} (h : BedOk b) (e : ∀ j : Nat, j < 44 → c j = b j) : BedOk c := by
  have h6 := h.s6
  obtain ⟨a1, a2, a3, a4, a5, a6, a7⟩ := h
  unfold BedOk
  rw [e 0 (by decide), e 1 (by decide), e 2 (by decide), e 3 (by decide)]
  refine ⟨a1, a2, a3, a4, fun p p0 p1 => ?_, fun s s0 s1 => ?_, fun i i0 i1 => ?_⟩
  · unfold heatOf; rw [e _ (by omega)]; exact a5 p p0 p1
  · unfold warm0 givesOf losesOf wakesOf
    rw [e _ (by omega), e _ (by omega), e _ (by omega), e _ (by omega)]; exact a6 s s0 s1
  · unfold lawOf; rw [e _ (by omega)]; exact a7 i i0 i1
theorem pub_bed : Good (fun σ Q => wp_X11_bed σ Q) (fun σ Q => wp_X12_bed σ Q) := by
  intro σ ⟨ok, bc, ⟨x, pc, pm⟩, rs⟩
  obtain ⟨tr, ir, se, sn, bk⟩ := rs
  have tx : TX (σ 68) (σ 65 3) := ⟨tr.2.1, fun i h0 h1 => (tr.2.2.1 i h0 h1).2⟩
  have tc : TXc σ (σ 68) (σ 65 3) := ⟨tr.1, fun i h0 h1 => (tr.2.2.1 i h0 h1).1⟩
  show wp_X11_bed σ (fun r t => wp_X12_bed t (fun r' u => r = r' ∧ Rel u))
  unfold wp_X11_bed
  refine c_all tx tc (plB_plain (σ 66)) (fun u fu u2 hu => ?_)
  generalize hR : allF (σ 68) (σ 65 3) 200 (sk (σ 68) (σ 65 3) 0) (plB (σ 66)) = R at hu
  rcases hu with ⟨B, eR, u5, u3, hd, bi⟩ | ⟨c, w, eR, hc, u5, u3⟩
  · rw [u5]
    refine ⟨inR_0, fun _ => ?_, fun z => absurd rfl z⟩
    have h6 := bi.1.s6
    have hn := bi.1.n6
    obtain ⟨⟨d0, d1, d2, d3, d4, d5⟩, dh, ds, dl⟩ := hd
    refine c_bedBecome (by rw [d1]; exact bi.1.2.1) (fun v fv v1 vh vl => ?_)
    refine c_layAll (b2 := B 2) (by rw [v1.2.2.1, d2]) h6 (fun z fz z0 zk => ?_)
    unfold wp_X9_empty wp_X1_empty wp_X5_forget
    rintro s6 rfl s7 rfl s8 rfl
    have fy : ∀ d, d ≠ 23 → d ≠ 60 → d ≠ 63 → up2 (up2 (up2 z 60 2 0) 63 1 0) 23 2 0 d = z d := fun d a b c => by rw [up2_c a, up2_c c, up2_c b]
    have y60 : up2 (up2 (up2 z 60 2 0) 63 1 0) 23 2 0 60 2 = 0 := by rw [up2_c (by decide), up2_c (by decide), up2_s]
    have y63 : up2 (up2 (up2 z 60 2 0) 63 1 0) 23 2 0 63 1 = 0 := by rw [up2_c (by decide), up2_s]
    have y23 : up2 (up2 (up2 z 60 2 0) 63 1 0) 23 2 0 23 2 = 0 := up2_s
    have y233 : up2 (up2 (up2 z 60 2 0) 63 1 0) 23 2 0 23 3 = σ 23 3 := by rw [up2_n (by decide), up2_c (by decide), up2_c (by decide), fz 23 (by decide) (by decide) (by decide), fv 23 (by omega), fu 23 (by omega)]
    generalize up2 (up2 (up2 z 60 2 0) 63 1 0) 23 2 0 = y at fy y60 y63 y23 y233
    refine ⟨fun k a t => ∃ n : Nat, a = (n : Int) ∧ n ≤ 2 ∧ k = 2 - n ∧ (∀ d, d ≠ 27 → d ≠ 28 → t d = y d) ∧ ∀ i : Nat, i < n → t (27 + i) 0 = 0, ?_, 2, 0, rfl, by omega, rfl, fun _ _ _ => rfl, fun i hi => by omega⟩
    rintro k a t ⟨n, rfl, n2, rfl, ft, ht⟩
    refine ⟨inR_s (by omega) (by omega), fun h => ?_, fun h => ⟨by omega, ?_⟩⟩
    · have tz : ∀ d, d ≠ 23 → d ≠ 27 → d ≠ 28 → d ≠ 60 → d ≠ 63 → t d = z d := fun d a b c e f => by rw [ft d b c, fy d a e f]
      have tv : ∀ d, d ≠ 17 → d ≠ 18 → d ≠ 19 → d ≠ 23 → d ≠ 27 → d ≠ 28 → d ≠ 60 → d ≠ 63 → t d = v d := fun d a b c e f g i j => by rw [tz d e f g i j, fz d a b c]
      have tm : ∀ d, 64 ≤ d → t d = σ d := fun d hd => by rw [tv d (by omega) (by omega) (by omega) (by omega) (by omega) (by omega) (by omega) (by omega), fv d (by omega), fu d (by omega)]
      have t12 : t 1 2 = B 2 := by rw [tv 1 (by decide) (by decide) (by decide) (by decide) (by decide) (by decide) (by decide) (by decide), v1.2.2.1, d2]
      rw [t12]
      refine m_bed (x := σ 68) (L := σ 65 3) tx ⟨by rw [tm 65 (by decide)], fun i _ _ => by rw [tm 68 (by decide)]⟩ (R := R) (by rw [tm 66 (by decide)]; exact hR) (fun r B' fr gr r3 r6 rB eR' bi' => ?_) (fun r c w fr gr r3 r6 eR' hc => ?_)
      · have eB : B' = B := by rw [eR] at eR'; exact (Sum.inl.inj eR').symm
        subst eB
        refine m_starts (by rw [rB]; exact bi.1) (fun q fq gq q65 q67 q690 q69 q80 => ?_)
        rw [rB] at q67 q69
        have ok' : BedOk (q 67) := bi.1.congr q67
        have qr : ∀ d, d ≠ 65 → d ≠ 66 → d ≠ 67 → d ≠ 69 → d ≠ 80 → q d = t d := fun d a b c e f => by rw [fq d a c e f, fr d a b]
        have qv : ∀ d, d ≠ 17 → d ≠ 18 → d ≠ 19 → d ≠ 23 → d ≠ 27 → d ≠ 28 → d ≠ 60 → d ≠ 63 → d < 64 → q d = v d := fun d a b c e f g i j k => by rw [qr d (by omega) (by omega) (by omega) (by omega) (by omega), tv d a b c e f g i j]
        have qv' : ∀ d, 1 ≤ d → d ≤ 7 → q d = v d := fun d a b => qv d (by omega) (by omega) (by omega) (by omega) (by omega) (by omega) (by omega) (by omega) (by omega)
        have who : ∀ p : Int, 0 ≤ p → p < 6 → whoOf (q 69) p = (if p < B' 2 then p else -1) := fun p p0 p1 => by
          unfold whoOf
          have := (q69 p.toNat (by omega)).1
          rw [show (1 + p).toNat = 1 + p.toNat by omega, this, Int.toNat_of_nonneg p0]
        have warm : ∀ p : Int, 0 ≤ p → p < 6 → warmOf (q 69) p = (if p < B' 2 then warm0 B' p else 0) := fun p p0 p1 => by
          unfold warmOf warm0
          have := (q69 p.toNat (by omega)).2
          rw [show (7 + p).toNat = 7 + p.toNat by omega, this, Int.toNat_of_nonneg p0, show 12 + 4 * p.toNat = (12 + 4 * p).toNat by omega]
        have nk : NightOk (q 67) (q 69) := by
          refine ⟨fun p p0 p1 => ?_, fun p r p0 p1 r0 r1 he hne => ?_⟩
          · rw [who p p0 p1, warm p p0 p1, q67 2 (by decide), q67 0 (by decide)]
            have hle := bi.1.2.2.1.2
            by_cases c : p < B' 2
            · rw [if_pos c, if_pos c]
              have := (bi.1.2.2.2.2.2.1 p p0 c).1
              omega
            · rw [if_neg c, if_neg c]; omega
          · rw [who p p0 p1] at he hne
            rw [who r r0 r1] at he
            by_cases c : p < B' 2
            · rw [if_pos c] at he
              by_cases c2 : r < B' 2
              · rw [if_pos c2] at he; exact he
              · rw [if_neg c2] at he; omega
            · rw [if_neg c] at hne; exact absurd rfl hne
        refine ⟨(q67 2 (by decide)).symm, ok', ?_, ⟨(0, fun _ _ => 0, q 69), ⟨⟨?_, by show (0 : Int) ≤ 0 ∧ (0 : Int) ≤ 30; omega, ?_, fun i i0 i1 => ?_⟩, ⟨?_, fun p p0 p1 => ?_⟩, nk, ?_⟩, ⟨⟨q65.1, fun i i0 i1 => ?_⟩, by show (0 : Int) ≤ 0 ∧ (0 : Int) ≤ 30; omega, rfl⟩⟩, ⟨?_, fun i hi => ?_, ?_, ?_, ?_⟩⟩
        · unfold BedC
          rw [q67 0 (by decide), q67 1 (by decide), q67 2 (by decide), q67 3 (by decide), qv' 1 (by decide) (by decide), qv' 2 (by decide) (by decide), qv' 3 (by decide) (by decide), qv' 4 (by decide) (by decide), qv' 5 (by decide) (by decide), qv' 6 (by decide) (by decide), qv' 7 (by decide) (by decide)]
          refine ⟨by rw [v1.1, d0], by rw [v1.2.1, d1], by rw [v1.2.2.1, d2], by rw [v1.2.2.2, d3], fun p p0 p1 => ?_, fun p p0 p1 => ?_, fun i i0 i1 => ?_⟩
          · unfold heatOf
            rw [(vh p.toNat (by omega)).1, dh p.toNat (by omega), q67 _ (by omega), show (6 + p).toNat = 6 + p.toNat by omega]
          · unfold warm0 givesOf losesOf wakesOf
            obtain ⟨_, w1, w2, w3, w4⟩ := vh p.toNat (by omega)
            obtain ⟨e1, e2, e3, e4⟩ := ds p.toNat (by omega)
            rw [w1, w2, w3, w4, e1, e2, e3, e4, q67 _ (by omega), q67 _ (by omega), q67 _ (by omega), q67 _ (by omega), show (12 + 4 * p).toNat = 12 + 4 * p.toNat by omega, show (12 + 4 * p + 1).toNat = 12 + 4 * p.toNat + 1 by omega, show (12 + 4 * p + 2).toNat = 12 + 4 * p.toNat + 2 by omega, show (12 + 4 * p + 3).toNat = 12 + 4 * p.toNat + 3 by omega]
            exact ⟨rfl, rfl, rfl, rfl⟩
          · unfold lawOf
            have hB3 := bi.1.2.2.2.1
            rw [vl i.toNat (by omega), dl i.toNat (by omega), q67 _ (by omega), show (36 + i).toNat = 36 + i.toNat by omega]
        · rw [qr 23 (by decide) (by decide) (by decide) (by decide) (by decide), ft 23 (by decide) (by decide), y23]
        · rw [qr 23 (by decide) (by decide) (by decide) (by decide) (by decide), ft 23 (by decide) (by decide), y233]; exact pc.1.2.2.1
        · exact absurd i1 (by show ¬ i < 0; omega)
        · rw [qr 17 (by decide) (by decide) (by decide) (by decide) (by decide), tz 17 (by decide) (by decide) (by decide) (by decide) (by decide), z0]; exact q690.symm
        · show q 18 p.toNat = whoOf (q 69) p ∧ q 19 p.toNat = warmOf (q 69) p
          have hz := zk p.toNat (by omega)
          rw [who p p0 p1, warm p p0 p1, qr 18 (by decide) (by decide) (by decide) (by decide) (by decide), tz 18 (by decide) (by decide) (by decide) (by decide) (by decide), qr 19 (by decide) (by decide) (by decide) (by decide) (by decide), tz 19 (by decide) (by decide) (by decide) (by decide) (by decide), hz.1, hz.2, Int.toNat_of_nonneg p0]
          refine ⟨rfl, ?_⟩
          by_cases c : p < B' 2
          · rw [if_pos c, if_pos c, (vh p.toNat (by omega)).2.1, (ds p.toNat (by omega)).1]
            unfold warm0
            rw [show (12 + 4 * p).toNat = 12 + 4 * p.toNat by omega]
          · rw [if_neg c, if_neg c]
        · show 0 ≤ q 69 0 ∧ q 69 0 ≤ 100000
          omega
        · exact absurd i1 (by show ¬ i < 0; omega)
        · have e82 : q 8 = u 8 := by rw [qv 8 (by decide) (by decide) (by decide) (by decide) (by decide) (by decide) (by decide) (by decide) (by decide), fv 8 (by omega)]
          have e653 : q 65 3 = 0 := by rw [gq 3 (by decide) (by decide) (by decide), r3]
          unfold TextR
          rw [e82, u2, u3, e653, gq 6 (by decide) (by decide) (by decide), r6]
          exact ⟨rfl, by omega, fun i i0 i1 => by omega, rfl⟩
        · have hk0 : q 80 (15 * i) = 0 := by
            have : i = 0 ∨ i = 1 := by omega
            rcases this with rfl | rfl
            · exact q80.1
            · exact q80.2
          have hq0 : q (27 + i) 0 = 0 := by rw [qr (27 + i) (by omega) (by omega) (by omega) (by omega) (by omega)]; exact ht i (by omega)
          rw [hk0]
          exact ⟨hq0, Or.inl rfl, fun z => absurd z (by decide)⟩
        · unfold SeedR
          rw [qv 0 (by decide) (by decide) (by decide) (by decide) (by decide) (by decide) (by decide) (by decide) (by decide), fv 0 (by omega), fu 0 (by omega), gq 9 (by decide) (by decide) (by decide), gr 9 (by decide) (by decide) (by decide) (by decide) (by decide), tm 65 (by decide)]
          exact se
        · unfold SeenR
          rw [qr 60 (by decide) (by decide) (by decide) (by decide) (by decide), ft 60 (by decide) (by decide), y60, q65.2.1]
          exact ⟨rfl, by omega, fun k k0 k1 => by omega⟩
        · unfold BookR
          rw [qr 63 (by decide) (by decide) (by decide) (by decide) (by decide), ft 63 (by decide) (by decide), y63, q65.2.2]
          exact ⟨rfl, by omega, fun k k0 k1 => by omega⟩
      · rw [eR] at eR'; exact absurd eR' (fun z => nomatch z)
    · rintro s13 rfl x2 rfl
      refine ⟨2 - (n + 1), by omega, n + 1, by omega, by omega, rfl, fun d a b => by rw [up2_c (by omega), ft d a b], fun i hi => ?_⟩
      rw [Int.toNat_natCast]
      by_cases c : i = n
      · rw [c, up2_s]
      · rw [up2_c (by omega)]; exact ht i (by omega)
  · rw [u5]
    refine ⟨inR_s (by omega) (by omega), fun z => by omega, fun _ => ?_⟩
    have um : ∀ d, 64 ≤ d → u d = σ d := fun d hd => fu d (by omega)
    refine m_bed (x := σ 68) (L := σ 65 3) tx ⟨by rw [um 65 (by decide)], fun i _ _ => by rw [um 68 (by decide)]⟩ (R := R) (by rw [um 66 (by decide)]; exact hR) (fun r B' fr gr r3 r6 rB eR' bi' => ?_) (fun r c' w' fr gr r3 r6 eR' hc' => ?_)
    · rw [eR] at eR'; exact absurd eR' (fun z => nomatch z)
    · have e : c' = c ∧ w' = w := by rw [eR] at eR'; have := Sum.inr.inj eR'; exact ⟨(congrArg Prod.fst this).symm, (congrArg Prod.snd this).symm⟩
      obtain ⟨rfl, rfl⟩ := e
      have rd : ∀ d, ¬ (8 ≤ d ∧ d ≤ 16) → d ≠ 65 → d ≠ 66 → r d = σ d := fun d a b c => by rw [fr d b c, fu d a]
      have r65 : ∀ j, j ≠ 3 → j ≠ 4 → j ≠ 5 → j ≠ 6 → j ≠ 7 → r 65 j = σ 65 j := fun j a b c d e => by rw [gr j a b c d e, um 65 (by decide)]
      have r67 : r 67 = σ 67 := rd 67 (by omega) (by decide) (by decide)
      refine ⟨rfl, by rw [r67]; exact ok, by rw [r67]; exact bc.keep (fun d a b => rd d (by omega) (by omega) (by omega)), ⟨x, by rw [r67]; exact pc.keep (rd 17 (by omega) (by decide) (by decide)) (rd 18 (by omega) (by decide) (by decide)) (rd 19 (by omega) (by decide) (by decide)) (rd 23 (by omega) (by decide) (by decide)) (rd 24 (by omega) (by decide) (by decide)) (rd 25 (by omega) (by decide) (by decide)), pm.keep (r65 11 (by decide) (by decide) (by decide) (by decide) (by decide)) (rd 69 (by omega) (by decide) (by decide)) (rd 71 (by omega) (by decide) (by decide))⟩, ⟨?_, ir.keep (rd 27 (by omega) (by decide) (by decide)) (rd 28 (by omega) (by decide) (by decide)) (rd 80 (by omega) (by decide) (by decide)) r67, se.keep (rd 0 (by omega) (by decide) (by decide)) (r65 9 (by decide) (by decide) (by decide) (by decide) (by decide)), sn.keep (by rw [rd 60 (by omega) (by decide) (by decide)]) (rd 61 (by omega) (by decide) (by decide)) (rd 62 (by omega) (by decide) (by decide)) (rd 77 (by omega) (by decide) (by decide)) (rd 78 (by omega) (by decide) (by decide)) (r65 18 (by decide) (by decide) (by decide) (by decide) (by decide)) r67, bk.keep (rd 63 (by omega) (by decide) (by decide)) (rd 64 (by omega) (by decide) (by decide)) (rd 79 (by omega) (by decide) (by decide)) (r65 21 (by decide) (by decide) (by decide) (by decide) (by decide))⟩⟩
      unfold TextR
      rw [fr 8 (by decide) (by decide), u2, u3, r3, r6]
      exact ⟨rfl, by omega, fun i i0 i1 => by omega, rfl⟩
