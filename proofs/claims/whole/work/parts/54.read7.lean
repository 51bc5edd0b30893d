theorem c_sleeper {s : Mem} {x : Nat → Int} {L p : Int} {B : Nat → Int} {Q : Mem → Prop} (tx : TX x L) (tc : TXc s x L) (h5 : s 8 5 = 0) (h3 : s 8 3 = -1) (hp : s 8 4 = p) (p0 : 0 ≤ p) (p1 : p < L) (dr : Dr s B) (bi : BI B) (hq : ∀ u : Mem, ResC L s (sleeperF x L p B) u → Q u) : wp_X6_readSleeper s Q := by
  have hn := bi.1.n6
  have h6 := bi.1.s6
  unfold wp_X6_readSleeper
  rw [dr.1.1, dr.1.2.2.1]
  unfold sleeperF at hq
  refine ⟨inR_s (by omega) (by omega), inR_s (by omega) (by omega), fun hl => ?_, fun hl => ?_⟩
  · rw [if_pos hl] at hq
    have mn := MidC.next hp p0 p1
    rintro s1 rfl
    have e5 : up2 s 8 4 (s 8 4 + 1) 8 5 = 0 := by rw [up2_n (by decide), h5]
    have e3 : up2 s 8 4 (s 8 4 + 1) 8 3 = -1 := by rw [up2_n (by decide), h3]
    have e4 : up2 s 8 4 (s 8 4 + 1) 8 4 = p + 1 := by rw [up2_s, hp]
    generalize up2 s 8 4 (s 8 4 + 1) = s1 at mn e5 e3 e4
    have dead : ∀ (u : Mem) (c w : Int) (r4 : Int) (r6 : Int) (r8 : Int) (r10 : Int), MidC L s u → (1 ≤ c ∧ c ≤ 4) → u 8 5 = c → u 8 3 = w → (ResC L s (.inr (c, w)) u → Q u) → wp_X6_readEnd u (fun s14 => (inR (s14 8 5)) ∧ (s14 8 5 = 0 → ∀ x5_16 : Int, x5_16 = s14 10 2 → ((0 ≤ x5_16 ∧ x5_16 < 6)) ∧ ∀ s18 : Mem, s18 = up2 s14 12 x5_16.toNat r4 → ∀ s19 : Mem, s19 = up2 s18 13 x5_16.toNat r6 → ∀ s20 : Mem, s20 = up2 s19 14 x5_16.toNat r8 → ∀ s21 : Mem, s21 = up2 s20 15 x5_16.toNat r10 → ∀ s22 : Mem, s22 = up2 s21 10 2 (x5_16 + 1) → Q s22) ∧ (¬ (s14 8 5 = 0) → Q s14)) := by
      intro u c w r4 r6 r8 r10 mu hc u5 u3 hQ
      have ne : u 8 5 ≠ 0 := by omega
      have i5 : inR (u 8 5) := by rw [u5]; exact inR_s (by omega) (by omega)
      exact c_endBad ne i5 ⟨i5, fun zz => absurd zz ne, fun _ => hQ (mu.bad rfl hc u5 u3)⟩
    refine c_num tx tc mn e5 e3 e4 (by omega) (by omega) (fun u v1 e q mu n1 u3 u4 u5 u6 l1 l2 l3 => ?_) (fun u v c w mu n1 hv hc u5 u3 ne i5 => ?_)
    · rw [n1] at hq
      refine c_num tx tc mu u5 u3 u4 (by omega) (by omega) (fun u v2 e q mu n2 u3 u4 u5 u6 l1' l2' l3' => ?_) (fun u v c w mu n2 hv hc u5 u3 ne i5 => ?_)
      · refine c_num tx tc mu u5 u3 u4 (by omega) (by omega) (fun u v3 e q mu n3 u3 u4 u5 u6 k1 k2 k3 => ?_) (fun u v c w mu n3 hv hc u5 u3 ne i5 => ?_)
        · refine c_num tx tc mu u5 u3 u4 (by omega) (by omega) (fun u v4 e q mu n4 u3 u4 u5 u6 j1 j2 j3 => ?_) (fun u v c w mu n4 hv hc u5 u3 ne i5 => ?_)
          · have hq2 := hq
            simp only [bd, n2, n3, n4] at hq2
            rw [u5, u6]
            refine ⟨inR_0, fun t => MidC L s t ∧ ((¬ v4 < v1 ∧ t 8 5 = 4 ∧ t 8 3 = q) ∨ (v4 < v1 ∧ t 8 5 = 0 ∧ t 8 3 = -1 ∧ t 8 4 = e)), ?_, fun _ => ⟨inR_s (by omega) (by omega), inR_s (by omega) (by omega), fun c => ⟨mu, Or.inr ⟨c, u5, u3, u4⟩⟩, fun c => ?_⟩, fun z => absurd rfl z⟩
            · rintro t ⟨mt, ⟨c, t5, t3⟩ | ⟨c, t5, t3, t4⟩⟩
              · rw [if_neg c] at hq2
                exact dead t 4 q v1 v2 v3 v4 mt (by omega) t5 t3 (hq2 t)
              · rw [if_pos c] at hq2
                refine c_fin tx tc mt t5 t3 t4 (fun z e2 mz n5 z3 z4 z5 l4 => ?_) (fun z w mz n5 z5 z3 => ?_)
                · rw [z5]
                  refine ⟨inR_0, fun _ => ?_, fun zz => absurd rfl zz⟩
                  obtain ⟨⟨d0, d1, d2, d3, d4, d5⟩, dh, ds, dl⟩ := mz.dr dr
                  rw [d2]
                  rintro x5 rfl
                  refine ⟨by omega, ?_⟩
                  rintro s18 rfl s19 rfl s20 rfl s21 rfl s22 rfl
                  have hq3 := hq2
                  simp only [n5] at hq3
                  obtain ⟨e2', w1, w2, w3, w4, eb⟩ := slpB_at (B := B) (v1 := v1) (v2 := v2) (v3 := v3) (v4 := v4) h6.1
                  refine hq3 _ ⟨fun d hd => by rw [up2_c (by omega), up2_c (by omega), up2_c (by omega), up2_c (by omega), up2_c (by omega), mz.1 d (by omega)], by rw [up2_c (by decide), up2_c (by decide), up2_c (by decide), up2_c (by decide), up2_c (by decide), mz.1 9 (by decide)], by rw [up2_c (by decide), up2_c (by decide), up2_c (by decide), up2_c (by decide), up2_c (by decide), mz.2.1 2 (by decide) (by decide) (by decide) (by decide)], by rw [up2_c (by decide), up2_c (by decide), up2_c (by decide), up2_c (by decide), up2_c (by decide)]; exact mz.2.2, Or.inl ⟨e2, slpB B v1 v2 v3 v4, rfl, by rw [up2_c (by decide), up2_c (by decide), up2_c (by decide), up2_c (by decide), up2_c (by decide), z4], by rw [up2_c (by decide), up2_c (by decide), up2_c (by decide), up2_c (by decide), up2_c (by decide), z5], by rw [up2_c (by decide), up2_c (by decide), up2_c (by decide), up2_c (by decide), up2_c (by decide), z3], ?_, bi.sleeper hl ⟨l2, l3⟩ ⟨l2', l3'⟩ ⟨k2, k3⟩ ⟨j2, j3⟩⟩⟩
                  unfold Dr
                  rw [eb 0 (by decide) (by omega), eb 1 (by decide) (by omega), e2', eb 3 (by decide) (by omega), eb 4 (by decide) (by omega), eb 5 (by decide) (by omega)]
                  refine ⟨⟨by rw [up2_n (by decide), up2_c (by decide), up2_c (by decide), up2_c (by decide), up2_c (by decide), d0], by rw [up2_n (by decide), up2_c (by decide), up2_c (by decide), up2_c (by decide), up2_c (by decide), d1], up2_s, by rw [up2_n (by decide), up2_c (by decide), up2_c (by decide), up2_c (by decide), up2_c (by decide), d3], by rw [up2_c (by decide), up2_c (by decide), up2_c (by decide), up2_c (by decide), up2_c (by decide), d4], by rw [up2_c (by decide), up2_c (by decide), up2_c (by decide), up2_c (by decide), up2_c (by decide), d5]⟩, fun k hk => ?_, fun i hi => ?_, fun i hi => ?_⟩
                  · rw [up2_c (by decide), up2_c (by decide), up2_c (by decide), up2_c (by decide), up2_c (by decide), eb _ (by omega) (by omega)]
                    exact dh k hk
                  · rw [up2_c (show (12 : Nat) ≠ 10 by decide), up2_c (show (12 : Nat) ≠ 15 by decide), up2_c (show (12 : Nat) ≠ 14 by decide), up2_c (show (12 : Nat) ≠ 13 by decide), up2_e, up2_c (show (13 : Nat) ≠ 10 by decide), up2_c (show (13 : Nat) ≠ 15 by decide), up2_c (show (13 : Nat) ≠ 14 by decide), up2_e, up2_c (show (13 : Nat) ≠ 12 by decide), up2_c (show (14 : Nat) ≠ 10 by decide), up2_c (show (14 : Nat) ≠ 15 by decide), up2_e, up2_c (show (14 : Nat) ≠ 13 by decide), up2_c (show (14 : Nat) ≠ 12 by decide), up2_c (show (15 : Nat) ≠ 10 by decide), up2_e, up2_c (show (15 : Nat) ≠ 14 by decide), up2_c (show (15 : Nat) ≠ 13 by decide), up2_c (show (15 : Nat) ≠ 12 by decide)]
                    by_cases ci : i = (B 2).toNat
                    · rw [if_pos ci, if_pos ci, if_pos ci, if_pos ci, show 12 + 4 * i = (12 + 4 * B 2).toNat by omega, show (12 + 4 * B 2).toNat + 1 = (12 + 4 * B 2 + 1).toNat by omega, show (12 + 4 * B 2).toNat + 2 = (12 + 4 * B 2 + 2).toNat by omega, show (12 + 4 * B 2).toNat + 3 = (12 + 4 * B 2 + 3).toNat by omega, w1, w2, w3, w4]
                      exact ⟨rfl, rfl, rfl, rfl⟩
                    · rw [if_neg ci, if_neg ci, if_neg ci, if_neg ci, eb _ (by omega) (by omega), eb _ (by omega) (by omega), eb _ (by omega) (by omega), eb _ (by omega) (by omega)]
                      exact ds i (by omega)
                  · rw [up2_c (by decide), up2_c (by decide), up2_c (by decide), up2_c (by decide), up2_c (by decide), eb _ (by omega) (by omega)]
                    exact dl i hi
                · rw [z5]
                  refine ⟨inR_s (by omega) (by omega), fun zz => absurd zz (by decide), fun _ => ?_⟩
                  have hq3 := hq2
                  simp only [n5] at hq3
                  exact hq3 _ (mz.bad rfl (by omega) z5 z3)
            · exact c_blame u5 (fun t ft gt t5 t3 => ⟨mu.trans ⟨ft, fun j a _ c _ => gt j a c, by rw [gt 4 (by decide) (by decide)]; exact mu.2.2⟩, Or.inl ⟨c, t5, t3⟩⟩)
          · have hq2 := hq
            simp only [bd, n2, n3, n4] at hq2
            refine ⟨i5, fun t => t = u, ?_, fun z => absurd z ne, fun _ => rfl⟩
            rintro t rfl
            exact dead _ c w _ _ _ _ mu hc u5 u3 (hq2 _)
        · have hq2 := hq
          simp only [bd, n2, n3] at hq2
          refine c_numberBad ne i5 ⟨i5, fun t => t = u, ?_, fun z => absurd z ne, fun _ => rfl⟩
          rintro t rfl
          exact dead _ c w _ _ _ _ mu hc u5 u3 (hq2 _)
      · have hq2 := hq
        simp only [bd, n2] at hq2
        refine c_numberBad ne i5 (c_numberBad ne i5 ⟨i5, fun t => t = u, ?_, fun z => absurd z ne, fun _ => rfl⟩)
        rintro t rfl
        exact dead _ c w _ _ _ _ mu hc u5 u3 (hq2 _)
    · rw [n1] at hq
      refine c_numberBad ne i5 (c_numberBad ne i5 (c_numberBad ne i5 ⟨i5, fun t => t = u, ?_, fun z => absurd z ne, fun _ => rfl⟩))
      rintro t rfl
      exact dead _ c w _ _ _ _ mu hc u5 u3 (hq _)
  · rw [if_neg hl] at hq
    rw [hp]
    exact c_blame h5 (fun t ft gt t5 t3 => hq t (MidC.bad (u := t) ⟨ft, fun j a _ c _ => gt j a c, by rw [gt 4 (by decide) (by decide), hp]; omega⟩ rfl (by omega) t5 t3))
