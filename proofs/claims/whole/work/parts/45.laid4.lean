def ldV (X : Int × Int) (n : Nat) (a : Int) : Int := if n = 0 then -1 else if a = -1 then X.1 else if 0 ≤ a ∧ a < (n : Int) then dq n X.2.toNat a.toNat else -1
theorem m_laid {N a : Int} (hN' : inR N) (ha : inR a) {σ : Mem} {b r : Nat → Int} {Q : Int → Mem → Prop} (h7 : σ 67 = b) (ok : BedOk b) (nk : NightOk b r) (m9 : σ 69 = r)
    (hq1 : ¬ (1 ≤ N ∧ N ≤ 9) → Q (-1000000002) σ)
    (hq : (1 ≤ N ∧ N ≤ 9) → ∀ u : Mem, (∀ d, d ≠ 70 → ¬ (72 ≤ d ∧ d ≤ 75) → u d = σ d) → Q (ldV (ldF b r (takT r (b 0).toNat) (occN r (b 0).toNat) N (6 ^ occN r (b 0).toNat)) (occN r (b 0).toNat) a) u) : wp_X12_laid N a σ Q := by
  have hb := ok.n6
  have h6 := ok.s6
  unfold wp_X12_laid
  refine ⟨hN', m_in hN' (inR_s (by omega) (by omega)) (inR_s (by omega) (by omega)) ?_⟩
  by_cases q : 1 ≤ N ∧ N ≤ 9
  · rw [if_pos q]
    have hq := hq q
    refine ⟨inR_s (by omega) (by omega), fun z => absurd z (by decide), fun _ => ?_⟩
    refine ⟨fun k y3 y4 s => ∃ i : Nat, y4 = (i : Int) ∧ (i : Int) ≤ b 0 ∧ k + i = (b 0).toNat ∧ y3 = (occN r i : Int) ∧ (∀ d, d ≠ 73 → s d = σ d) ∧ ∀ k : Nat, k < occN r i → s 73 k = takT r i k, ?_, (b 0).toNat, 0, rfl, by omega, rfl, rfl, fun _ _ => rfl, fun k hk => by unfold occN at hk; omega⟩
    rintro k y3 y4 s ⟨i, rfl, i1, i2, rfl, i3, i4⟩
    have hoc := occN_le r i
    rw [i3 67 (by decide), i3 69 (by decide), h7, m9]
    refine ⟨inR_s (by omega) (by omega), inR_s (by omega) (by omega), fun h => ⟨inR_s (by omega) (by omega), fun c => ?_, fun c => m_asides (fun w fw gw => ?_)⟩, fun h => ⟨by omega, ?_⟩⟩
    · have e : i = (b 0).toNat := by omega
      rw [e] at c
      have := hq s (fun d g0 g1 => i3 d (by omega))
      unfold ldV at this
      rw [if_pos (by omega)] at this
      exact this
    · have e : i = (b 0).toNat := by omega
      rw [e] at i4 c hoc ⊢
      have tk := takT_ok b r (b 0).toNat
      generalize hO : occN r (b 0).toNat = n at *
      generalize hT : takT r (b 0).toNat = T at *
      have hn : 1 ≤ n ∧ n ≤ 6 := by omega
      have w72 : ∀ j : Nat, j < 13 → w 72 j = r j := fun j hj => by rw [gw j hj, i3 69 (by decide), m9]
      have w69 : w 69 = r := by rw [fw 69 (by decide), i3 69 (by decide), m9]
      have w7 : w 67 = b := by rw [fw 67 (by decide), i3 67 (by decide), h7]
      have w73 : ∀ k : Nat, k < n → w 73 k = T k := fun k hk => by rw [fw 73 (by decide)]; exact i4 k hk
      have tt : ∀ k : Nat, k < n → 0 ≤ T k ∧ T k < 6 := fun k hk => by have := (tk.1 k hk).1; omega
      have fw' : ∀ d, d ≠ 72 → d ≠ 73 → w d = σ d := fun d g0 g1 => by rw [fw d g0, i3 d g1]
      refine m_inBed (by rw [w7]; exact ok) (by rw [w7, w69]; exact nk) ?_
      rw [w7, w69]
      have hin : 0 ≤ inV b r ∧ inV b r ≤ 63 := bset_range _
      refine ⟨fun k y5 y6 => ∃ j : Nat, y6 = (j : Int) ∧ j ≤ n ∧ k + j = n ∧ y5 = ((6 ^ j : Nat) : Int), ?_, n, 0, rfl, by omega, rfl, rfl⟩
      rintro k5 y5 y6 ⟨j, rfl, j1, j2, rfl⟩
      refine ⟨inR_s (by omega) (by omega), fun hj => ?_, fun hj => ?_⟩
      · have ej : j = n := by omega
        rw [ej]
        have hM := pw6_le hn.2
        generalize hMe : 6 ^ n = M at *
        refine ⟨fun k y6 y7 s => ∃ j : Nat, y7 = (j : Int) ∧ j ≤ M ∧ k + j = M ∧ y6 = (ldF b r T n N j).1 ∧ (∀ d, d ≠ 70 → d ≠ 74 → d ≠ 75 → s d = w d) ∧ ((ldF b r T n N j).2 ≠ -1 → ∀ k : Nat, k < n → s 75 k = dq n (ldF b r T n N j).2.toNat k), ?_, M, 0, rfl, by omega, rfl, rfl, fun _ _ _ _ => rfl, fun z => absurd rfl z⟩
        rintro k7 y6 y7 s' ⟨j, rfl, l1, l2, rfl, l3, l4⟩
        have hld := ldF_ok (N := N) ok nk tk hn.1 j
        have hld2 : -1 ≤ (ldF b r T n N j).1 ∧ (ldF b r T n N j).1 ≤ 199 := by rcases hld with h | h <;> omega
        refine ⟨inR_s (by omega) (by omega), inR_s (by omega) (by omega), fun h2 => ⟨ha, ?_⟩, fun h2 => ?_⟩
        · have e2 : j = M := by omega
          rw [e2] at hld l4 ⊢
          have hne : (ldF b r T n N M).2 ≠ -1 := by
            rcases hld with ⟨_, _, h3⟩ | h3
            · obtain ⟨p, p1, p2⟩ := lok_some ok nk tk
              exact absurd p2 (h3 p (by omega))
            · omega
          have fin := hq s' (fun d g0 g1 => by rw [l3 d g0 (by omega) (by omega)]; exact fw' d (by omega) (by omega))
          unfold ldV at fin
          rw [if_neg (show ¬ n = 0 by omega)] at fin
          refine ⟨fun c => ?_, fun c => ⟨inR_s (by omega) (by omega), m_in ha inR_0 (inR_s (by omega) (by omega)) ?_⟩⟩
          · rw [if_pos c] at fin; exact fin
          · rw [if_neg c] at fin
            by_cases c2 : 0 ≤ a ∧ a < (n : Int)
            · rw [if_pos c2] at fin
              rw [if_pos (by omega)]
              refine ⟨inR_s (by omega) (by omega), fun z => absurd z (by decide), fun _ => ⟨by omega, ?_⟩⟩
              rw [l4 hne a.toNat (by omega)]; exact fin
            · rw [if_neg c2] at fin
              rw [if_neg (by omega)]
              exact ⟨inR_0, fun _ => fin, fun z => absurd rfl z⟩
        · rintro x10 rfl
          refine ⟨fun k y8 y9 y10 s => ∃ m : Nat, y10 = (n : Int) - 1 - (m : Int) ∧ m ≤ n ∧ k + m = n ∧ y9 = ((j / 6 ^ m : Nat) : Int) ∧ y8 = bset (unR (dq n j) n m) ∧ (∀ d, d ≠ 74 → s d = s' d) ∧ ∀ k : Nat, n - m ≤ k → k < n → s 74 k = dq n j k, ?_, n, 0, by omega, by omega, rfl, by rw [Nat.pow_zero, Nat.div_one], rfl, fun _ _ => rfl, fun k h0 h1 => by omega⟩
          rintro k8 y8 y9 y10 s9 ⟨m, rfl, m1, m2, rfl, rfl, m3, m4⟩
          have hy8 := bset_range (unR (dq n j) n m)
          have hdiv : j / 6 ^ m ≤ j := Nat.div_le_self _ _
          have hz0 : (0 : Int) ≤ ((j / 6 ^ m : Nat) : Int) := Int.natCast_nonneg _
          have f9 : ∀ d, d ≠ 70 → d ≠ 74 → d ≠ 75 → s9 d = w d := fun d g0 g1 g2 => by rw [m3 d g1]; exact l3 d g0 g1 g2
          refine ⟨inR_s (by omega) (by omega), fun h3 => ⟨inR_s (by omega) (by omega), inR_s (by omega) (by omega), ?_⟩, fun h3 => ⟨inR_s (by omega) (by omega), by omega, ?_⟩⟩
          · have em : m = n := by omega
            have eun : bset (unR (dq n j) n m) = bset (unN (dq n j) n) := by rw [em]; exact bset_ext (fun t _ _ => unR_N t)
            rw [eun]
            have s74 : ∀ k : Nat, k < n → s9 74 k = dq n j k := fun k hk => m4 k (by omega) hk
            refine ⟨fun y6 s34 => y6 = (ldF b r T n N (j + 1)).1 ∧ (∀ d, d ≠ 70 → d ≠ 74 → d ≠ 75 → s34 d = w d) ∧ ((ldF b r T n N (j + 1)).2 ≠ -1 → ∀ k : Nat, k < n → s34 75 k = dq n (ldF b r T n N (j + 1)).2.toNat k), ?_, fun hl => ?_, fun hl => ?_⟩
            · rintro y6 s34 ⟨x1, x2, x3⟩ x7 rfl
              exact ⟨k7 - 1, by omega, j + 1, by omega, by omega, by omega, x1, x2, x3⟩
            · have hlok : lok b r n j = true := decide_eq_true hl
              have od := lok_ord ok nk tk hlok
              have lk := lay_ok ok nk tk od
              refine ⟨fun k y s => ∃ i : Nat, y = (i : Int) ∧ i ≤ n ∧ k + i = n ∧ (∀ d, d ≠ 69 → s d = s9 d) ∧ s 69 = layR T (dq n j) r i, ?_, n, 0, rfl, by omega, rfl, fun _ _ => rfl, by rw [f9 69 (by decide) (by decide) (by decide), w69]; rfl⟩
              rintro k10 y s ⟨i, rfl, o1, o2, o3, o4⟩
              refine ⟨inR_s (by omega) (by omega), fun h4 => ?_, fun h4 => ⟨by omega, ?_⟩⟩
              · have ei : i = n := by omega
                rw [ei] at o4
                refine ⟨fun k y s2 => ∃ i : Nat, y = (i : Int) ∧ (i : Int) ≤ N ∧ (k : Int) + i = N ∧ (∀ d, d ≠ 69 → d ≠ 70 → s2 d = s9 d) ∧ s2 69 = itB b zw (layR T (dq n j) r n) i, ?_, N.toNat, 0, rfl, by omega, by omega, fun d g0 g1 => o3 d g0, o4⟩
                rintro k11 y s2 ⟨i, rfl, r1, r2, r3, r4⟩
                have s27 : s2 67 = b := by rw [r3 67 (by decide) (by decide), f9 67 (by decide) (by decide) (by decide), w7]
                have ik := itB_ok (ws := zw) ok lk i
                refine ⟨inR_s (by omega) (by omega), fun h5 => m_coldest (by rw [s27]; exact ok) (by rw [s27, r4]; exact ik) ?_, fun h5 => m_goesOn (by rw [s27]; exact ok) (by rw [s27, r4]; exact ik) inR_0 (Or.inr rfl) (fun u hu fu => ?_)⟩
                · have eN : (i : Int) = N := by omega
                  have ec : coldV (s2 67) (s2 69) = coldV b (warmR b (layR T (dq n j) r n) N) := by rw [s27, r4, cold_stay ok lk, eN]
                  rw [ec]
                  have hc := lay_cold ok nk tk od hn.1 N
                  generalize hcv : coldV b (warmR b (layR T (dq n j) r n) N) = cv at hc
                  refine ⟨fun k y s3 => ∃ l : Nat, y = (l : Int) ∧ l ≤ n ∧ k + l = n ∧ (∀ d, d ≠ 75 → s3 d = s2 d) ∧ (cv ≤ (ldF b r T n N j).1 → s3 75 = s2 75) ∧ ∀ e : Nat, e < l → s3 75 e = dq n j e, ?_, n, 0, rfl, by omega, rfl, fun _ _ => rfl, fun _ => rfl, fun e he => by omega⟩
                  rintro k12 y s3 ⟨l, rfl, t1, t2, t3, t4, t5⟩
                  refine ⟨inR_s (by omega) (by omega), cv ≤ (ldF b r T n N j).1 ∨ l = n, fun hx => ⟨inR_s (by omega) (by omega), inR_s (by omega) (by omega), ?_⟩, fun h6 => Or.inr (by omega), fun h6 => ⟨inR_s (by omega) (by omega), inR_s (by omega) (by omega), fun h8 => Or.inl h8, fun h8 => ⟨by omega, ?_⟩⟩⟩
                  · rintro v49 rfl
                    refine m_backs (r := r) (fun e he => by rw [t3 72 (by decide), r3 72 (by decide) (by decide), f9 72 (by decide) (by decide) (by decide)]; exact w72 e he) (fun e he => by rw [t3 69 (by decide), r4, itB_hi ok i he, lay_hi he n tt]) (fun z fz hz => ?_)
                    have fz' : ∀ d, d ≠ 70 → d ≠ 74 → d ≠ 75 → z d = w d := by
                      intro d g0 g1 g2
                      by_cases hd : d = 69
                      · rw [hd, hz, w69]
                      · rw [fz d hd, t3 d g2, r3 d hd g0]; exact f9 d g0 g1 g2
                    rw [ldF, hcv]
                    by_cases cc : cv ≤ (ldF b r T n N j).1
                    · rw [if_pos cc, if_neg (fun w => by omega)]
                      refine ⟨rfl, fz', fun hne k hk => ?_⟩
                      rw [fz 75 (by decide), t4 cc, r3 75 (by decide) (by decide), m3 75 (by decide)]
                      exact l4 hne k hk
                    · rw [if_neg cc, if_pos ⟨hlok, by omega⟩]
                      refine ⟨rfl, fz', fun _ k hk => ?_⟩
                      rw [fz 75 (by decide), t5 k (by omega)]
                      dsimp only
                      rw [show (j : Int).toNat = j by omega]
                  · rintro s55 rfl x11 rfl
                    rw [show (l : Int).toNat = l by omega]
                    refine ⟨k12 - 1, by omega, l + 1, by omega, by omega, by omega, fun d hd => by rw [up2_c hd]; exact t3 d hd, fun z => absurd z h8, fun e he => ?_⟩
                    rw [up2_e]
                    by_cases el : e = l
                    · rw [if_pos el, el, t3 74 (by decide), r3 74 (by decide) (by decide)]
                      exact s74 l (by omega)
                    · rw [if_neg el]; exact t5 e (by omega)
                · rintro x10 rfl
                  refine ⟨k11 - 1, by omega, i + 1, by omega, by omega, by omega, fun d g0 g1 => by rw [fu d g0 g1]; exact r3 d g0 g1, ?_⟩
                  rw [hu, s27, r4]; rfl
              · have e73 : s 73 = w 73 := by rw [o3 73 (by decide)]; exact f9 73 (by decide) (by decide) (by decide)
                have e74 : s 74 = s9 74 := o3 74 (by decide)
                rw [show (i : Int).toNat = i by omega, e73, e74, w73 i (by omega), s74 i (by omega)]
                have := tt i (by omega)
                refine ⟨by omega, ?_⟩
                rintro s65 rfl x10 rfl
                refine ⟨k10 - 1, by omega, i + 1, by omega, by omega, by omega, fun d hd => by rw [up2_c hd]; exact o3 d hd, ?_⟩
                rw [up2_r, o4]; rfl
            · have hlok : ¬ lok b r n j = true := fun z => hl (of_decide_eq_true z)
              rw [ldF, if_neg (fun z => hlok z.1)]
              exact ⟨rfl, f9, fun hne k hk => by rw [m3 75 (by decide)]; exact l4 hne k hk⟩
          · rintro s71 rfl x9 rfl x8 rfl x10 rfl
            have et : Int.tmod ((j / 6 ^ m : Nat) : Int) 6 = dq n j (n - 1 - m) := by
              rw [Int.tmod_eq_emod_of_nonneg (by omega)]
              unfold dq
              rw [show n - 1 - (n - 1 - m) = m by omega]
              omega
            have ed : Int.tdiv ((j / 6 ^ m : Nat) : Int) 6 = ((j / 6 ^ (m + 1) : Nat) : Int) := by
              rw [Int.tdiv_eq_ediv_of_nonneg (by omega), Nat.pow_succ, ← Nat.div_div_eq_div_mul]
              omega
            have hdq := dq_in n j (n - 1 - m)
            rw [et, ed, up2_s, bset_or _ hdq.1 hdq.2, show ((n : Int) - 1 - (m : Int)).toNat = n - 1 - m by omega]
            refine ⟨k8 - 1, by omega, m + 1, by omega, by omega, by omega, rfl, rfl, fun d hd => by rw [up2_c hd]; exact m3 d hd, fun e g0 g1 => ?_⟩
            rw [up2_e]
            by_cases ee : e = n - 1 - m
            · rw [if_pos ee, ee]
            · rw [if_neg ee]; exact m4 e (by omega) g1
      · rintro x5 rfl x6 rfl
        refine ⟨k5 - 1, by omega, j + 1, by omega, by omega, by omega, ?_⟩
        rw [Nat.pow_succ]
        omega
    · have hr := (nk.1 (i : Int) (by omega) (by omega)).1
      have e69 : r (1 + (i : Int)).toNat = whoOf r (i : Int) := rfl
      rw [e69]
      refine ⟨inR_s (by omega) (by omega), fun y3 s85 => y3 = (occN r (i + 1) : Int) ∧ (∀ d, d ≠ 73 → s85 d = σ d) ∧ ∀ k : Nat, k < occN r (i + 1) → s85 73 k = takT r (i + 1) k, ?_, fun c => ?_, fun c => ⟨by omega, ?_⟩⟩
      · rintro y3 s85 ⟨x1, x2, x3⟩ x4 rfl
        exact ⟨k - 1, by omega, i + 1, by omega, by omega, by omega, x1, x2, x3⟩
      · have e1 : takT r (i + 1) = takT r i := by rw [takT, if_pos c]
        have e2 : occN r (i + 1) = occN r i := by rw [occN, if_pos c]
        rw [e1, e2]; exact ⟨rfl, i3, i4⟩
      · have e1 : takT r (i + 1) = up1 (takT r i) (occN r i) (i : Int) := by rw [takT, if_neg c]
        have e2 : occN r (i + 1) = occN r i + 1 := by rw [occN, if_neg c]
        rintro s89 rfl x3 rfl
        rw [e1, e2]
        refine ⟨by omega, fun d hd => by rw [up2_c hd]; exact i3 d hd, fun k hk => ?_⟩
        rw [up2_e]
        unfold up1
        by_cases hk2 : k = occN r i
        · rw [if_pos (by omega), if_pos hk2]
        · rw [if_neg (by omega), if_neg hk2]; exact i4 k (by omega)
  · rw [if_neg q]
    exact ⟨inR_0, fun _ => hq1 q, fun z => absurd rfl z⟩
theorem pub_laid {n a : Int} (hn' : inR n) (ha : inR a) : Good (fun σ Q => wp_X11_laid n a σ Q) (fun σ Q => wp_X12_laid n a σ Q) := by
  intro σ hR
  have hR' := hR
  obtain ⟨ok, bc, ⟨x, pc, pm⟩, rs⟩ := hR'
  show wp_X11_laid n a σ (fun r t => wp_X12_laid n a t (fun r' u => r = r' ∧ Rel u))
  have nk := pc.2.2.1
  have m9 := pm.2.2
  have hb := ok.n6
  unfold wp_X11_laid
  refine ⟨hn', fun h => m_laid hn' ha rfl ok nk m9 (fun _ => ⟨rfl, hR⟩) (fun z => by omega), fun h => ⟨fun h2 => ?_, fun h2 => m_laid hn' ha rfl ok nk m9 (fun _ => ⟨rfl, hR⟩) (fun z => by omega)⟩⟩
  refine c_seekL bc pc.2.1 ok nk ⟨by omega, h2⟩ (fun t ft t4 t0 tl => ?_)
  have hoc := occN_le x.2.2 (σ 67 0).toNat
  have tk := takT_ok (σ 67) x.2.2 (σ 67 0).toNat
  have md : ∀ v : Int, v = ldV (ldF (σ 67) x.2.2 (takT x.2.2 (σ 67 0).toNat) (occN x.2.2 (σ 67 0).toNat) n (6 ^ occN x.2.2 (σ 67 0).toNat)) (occN x.2.2 (σ 67 0).toNat) a → wp_X12_laid n a t (fun r' u => v = r' ∧ Rel u) := by
    intro v hv
    refine m_laid hn' ha (ft 67 (by decide) (by decide) (by decide) (by omega)) ok nk (by rw [ft 69 (by decide) (by decide) (by decide) (by omega), m9]) (fun z => by omega) (fun _ u fu => ⟨hv, ?_⟩)
    have f : ∀ d, d ≠ 20 → d ≠ 21 → d ≠ 22 → ¬ (52 ≤ d ∧ d ≤ 55) → d ≠ 70 → ¬ (72 ≤ d ∧ d ≤ 75) → u d = σ d := fun d g0 g1 g2 g3 g4 g5 => by rw [fu d g4 g5]; exact ft d g0 g1 g2 g3
    have u65 : u 65 = σ 65 := f 65 (by decide) (by decide) (by decide) (by omega) (by decide) (by omega)
    refine hR.tried (fun d hd => ?_) (by rw [f 60 (by decide) (by decide) (by decide) (by omega) (by decide) (by omega)]) ⟨by rw [u65], by rw [u65], by rw [u65], by rw [u65], by rw [u65], by rw [u65]⟩
    unfold jk at hd
    exact f d (by omega) (by omega) (by omega) (by omega) (by omega) (by omega)
  have hne : occN x.2.2 (σ 67 0).toNat ≠ 0 → (ldF (σ 67) x.2.2 (takT x.2.2 (σ 67 0).toNat) (occN x.2.2 (σ 67 0).toNat) n (6 ^ occN x.2.2 (σ 67 0).toNat)).2 ≠ -1 := by
    intro h0
    rcases ldF_ok (N := n) ok nk tk (by omega) (6 ^ occN x.2.2 (σ 67 0).toNat) with ⟨_, _, h3⟩ | h3
    · obtain ⟨p, p1, p2⟩ := lok_some ok nk tk
      exact absurd p2 (h3 p p1)
    · omega
  generalize ldF (σ 67) x.2.2 (takT x.2.2 (σ 67 0).toNat) (occN x.2.2 (σ 67 0).toNat) n (6 ^ occN x.2.2 (σ 67 0).toNat) = X at *
  generalize occN x.2.2 (σ 67 0).toNat = c at *
  unfold ldV at md
  dsimp only
  rw [t4]
  refine ⟨ha, fun c1 => md _ ?_, fun c1 => ⟨fun c2 => md _ ?_, fun c2 => ⟨inR_s (by omega) (by omega), fun c3 => ⟨by omega, md _ ?_⟩, fun c3 => md _ ?_⟩⟩⟩
  · by_cases z : c = 0
    · rw [if_pos z]; exact t0 z
    · rw [if_neg z, if_pos c1]; exact (tl z).1
  · by_cases z : c = 0
    · rw [if_pos z]
    · rw [if_neg z, if_neg c1, if_neg (by omega)]
  · rw [if_neg (by omega), if_neg c1, if_pos (by omega)]
    exact (tl (by omega)).2 (hne (by omega)) _ (by omega)
  · by_cases z : c = 0
    · rw [if_pos z]
    · rw [if_neg z, if_neg c1, if_neg (by omega)]
