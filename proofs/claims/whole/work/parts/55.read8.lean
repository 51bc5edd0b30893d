/-! ===== the law's words (class) ===== -/
theorem BI.law {B B' : Nat → Int} {n : Int} (h : BI B) (b0 : B 0 ≠ 0) (hn : 1 ≤ n ∧ n ≤ 8) (e : ∀ j : Nat, j < 36 → B' j = B j) (hl : ∀ i : Nat, (i : Int) < n → 0 ≤ B' (36 + i) ∧ B' (36 + i) ≤ 3) : BI (up1 (up1 B' 3 n) 4 1) := by
  obtain ⟨⟨a1, a2, a3, a4, a5, a6, a7⟩, b1, b2⟩ := h
  have h6 : B 0 ≤ 6 := by rcases a1 with z | z <;> omega
  have e3 : up1 (up1 B' 3 n) 4 1 3 = n := by rw [up1_n (by decide), up1_s]
  have e4 : up1 (up1 B' 3 n) 4 1 4 = 1 := up1_s
  have ee : ∀ j : Nat, j < 36 → j ≠ 3 → j ≠ 4 → up1 (up1 B' 3 n) 4 1 j = B j := fun j h0 h1 h2 => by rw [up1_n h2, up1_n h1, e j h0]
  unfold BI BedOk
  rw [ee 0 (by decide) (by decide) (by decide), ee 1 (by decide) (by decide) (by decide), ee 2 (by decide) (by decide) (by decide), e3, e4]
  refine ⟨⟨a1, a2, a3, hn, fun p p0 p1 => ?_, fun s s0 s1 => ?_, fun i i0 i1 => ?_⟩, Or.inr rfl, fun z => absurd z b0⟩
  · unfold heatOf; rw [ee _ (by omega) (by omega) (by omega)]; exact a5 p p0 p1
  · unfold warm0 givesOf losesOf wakesOf
    rw [ee _ (by omega) (by omega) (by omega), ee _ (by omega) (by omega) (by omega), ee _ (by omega) (by omega) (by omega), ee _ (by omega) (by omega) (by omega)]
    exact a6 s s0 s1
  · unfold lawOf
    rw [up1_n (by omega), up1_n (by omega), show (36 + i).toNat = 36 + i.toNat by omega]
    exact hl i.toNat (by omega)
def lawK (x : Nat → Int) (L : Int) (w : Int × Nat × (Nat → Int)) : (Int × (Nat → Int)) ⊕ (Int × Int) := bd (endF x L w.1) fun e => .inl (e, up1 (up1 w.2.2 3 (w.2.1 : Int)) 4 1)
theorem lawF_eq {x : Nat → Int} {L p : Int} {B : Nat → Int} (h : B 4 = 0) : lawF x L p B = bd (numF x L 0 3 (p + 1)) fun a => bd (wordsF x L 7 a.2.1 1 (up1 B 36 a.1)) (lawK x L) := by
  unfold lawF; rw [if_pos h]; rfl
def LMc (L : Int) (s u : Mem) : Prop := (∀ d, d ≠ 8 → d ≠ 16 → u d = s d) ∧ (∀ j, j ≠ 3 → j ≠ 4 → j ≠ 5 → j ≠ 6 → j ≠ 8 → u 8 j = s 8 j) ∧ u 8 8 = 1 ∧ (0 ≤ u 8 4 ∧ u 8 4 ≤ L)
theorem LMc.mid {L : Int} {s t u : Mem} (h : LMc L s t) (g : MidC L t u) : LMc L s u := ⟨fun d h0 h1 => (g.1 d h0).trans (h.1 d h0 h1), fun j a b c d e => (g.2.1 j a b c d).trans (h.2.1 j a b c d e), (g.2.1 8 (by decide) (by decide) (by decide) (by decide)).trans h.2.2.1, g.2.2⟩
theorem LMc.w16 {L : Int} {s t : Mem} {k : Nat} {v : Int} (h : LMc L s t) : LMc L s (up2 t 16 k v) := ⟨fun d h0 h1 => by rw [up2_c h1]; exact h.1 d h0 h1, by rw [up2_c (by decide)]; exact h.2⟩
theorem LMc.tx {L : Int} {s u : Mem} {x : Nat → Int} (h : LMc L s u) (tc : TXc s x L) : TXc u x L := tc.keep (h.1 9 (by decide) (by decide)) (h.2.1 2 (by decide) (by decide) (by decide) (by decide) (by decide))
theorem MidC.refl {L : Int} {t : Mem} (h : 0 ≤ t 8 4 ∧ t 8 4 ≤ L) : MidC L t t := ⟨fun _ _ => rfl, fun _ _ _ _ _ => rfl, h⟩
def LWb (R : (Int × (Nat → Int)) ⊕ (Int × Int)) (t : Mem) : Prop := ∃ c w : Int, R = .inr (c, w) ∧ (1 ≤ c ∧ c ≤ 4) ∧ t 8 5 = c ∧ t 8 3 = w
def LWg (B B' : Nat → Int) (n : Nat) (t : Mem) : Prop := (∀ j : Nat, j < 36 → B' j = B j) ∧ (∀ i : Nat, i < n → t 16 i = B' (36 + i) ∧ 0 ≤ B' (36 + i) ∧ B' (36 + i) ≤ 3)
theorem c_lawLoop {s s6 : Mem} {x : Nat → Int} {L : Int} {B : Nat → Int} {R : (Int × (Nat → Int)) ⊕ (Int × Int)} {Q : Mem → Prop} (tx : TX x L) (tc : TXc s x L) (dr : Dr s B) (bi : BI B) (b0 : B 0 ≠ 0) (hq : ∀ u : Mem, ResC L s R u → Q u) (l6 : LMc L s s6) (h6 : LWb R s6 ∨ (s6 8 5 = 0 ∧ s6 8 3 = -1 ∧ ∃ (p' : Int) (B' : Nat → Int), s6 8 4 = p' ∧ R = bd (wordsF x L 7 p' 1 B') (lawK x L) ∧ LWg B B' 1 s6)) :
    ∃ I51 : Nat → Int → Int → Mem → Prop, (∀ (k51 : Nat) (y1_7 : Int) (y2_8 : Int) (s9 : Mem), I51 k51 y1_7 y2_8 s9 → (inR y2_8) ∧ ∃ X100 : Mem → Prop, (∀ (s11 : Mem), X100 s11 → ∀ s12 : Mem, s12 = up2 s11 10 3 y1_7 → wp_X6_readEnd s12 (fun s13 => Q s13)) ∧ (8 ≤ y2_8 → X100 s9) ∧ (¬ (8 ≤ y2_8) → wp_X6_nextIs 44 s9 (fun r14 s15 => (inR r14) ∧ (r14 = 0 → X100 s15) ∧ (¬ (r14 = 0) → ∀ s17 : Mem, s17 = up2 s15 8 4 ((s15 8 4) + 1) → wp_X6_readNumber 0 3 s17 (fun r18 s19 => ((0 ≤ y2_8 ∧ y2_8 < 8)) ∧ ∀ s21 : Mem, s21 = up2 s19 16 y2_8.toNat r18 → ∀ x1_22 : Int, x1_22 = y1_7 + 1 → ∀ x2_23 : Int, x2_23 = y2_8 + 1 → ∃ k24, k24 < k51 ∧ I51 k24 x1_22 x2_23 s21))))) ∧ ∃ k25, I51 k25 1 1 s6 := by
  have hL := tx.1
  refine ⟨fun k y1 y2 t => LMc L s t ∧ ∃ n : Nat, y1 = (n : Int) ∧ y2 = (n : Int) ∧ 1 ≤ n ∧ n ≤ 8 ∧ k = 8 - n ∧ (LWb R t ∨ (t 8 5 = 0 ∧ t 8 3 = -1 ∧ ∃ (p' : Int) (B' : Nat → Int), t 8 4 = p' ∧ R = bd (wordsF x L (8 - n) p' n B') (lawK x L) ∧ LWg B B' n t)), ?_, 7, l6, 1, rfl, rfl, by omega, by omega, rfl, h6⟩
  rintro k y1 y2 t ⟨lt, n, rfl, rfl, n1', n8, rfl, hI⟩
  have hm := lt.2.2.2
  refine ⟨inR_s (by omega) (by omega), fun t' => LMc L s t' ∧ (LWb R t' ∨ (t' 8 5 = 0 ∧ t' 8 3 = -1 ∧ ∃ (q : Int) (B' : Nat → Int), t' 8 4 = q ∧ R = lawK x L (q, n, B') ∧ LWg B B' n t')), ?_, fun h8 => ⟨lt, ?_⟩, fun h8 => ?_⟩
  · rintro u ⟨lu, hu⟩ s12 rfl
    have hmu := lu.2.2.2
    have fr : ∀ z : Mem, MidC L (up2 u 10 3 (n : Int)) z → (∀ d, ¬ (8 ≤ d ∧ d ≤ 16) → z d = s d) ∧ z 9 = s 9 ∧ z 8 2 = s 8 2 := fun z mz => ⟨fun d hd => by rw [mz.1 d (by omega), up2_c (by omega), lu.1 d (by omega) (by omega)], by rw [mz.1 9 (by decide), up2_c (by decide), lu.1 9 (by decide) (by decide)], by rw [mz.2.1 2 (by decide) (by decide) (by decide) (by decide), up2_c (by decide), lu.2.1 2 (by decide) (by decide) (by decide) (by decide) (by decide)]⟩
    have m0 : MidC L (up2 u 10 3 (n : Int)) (up2 u 10 3 (n : Int)) := MidC.refl (by rw [up2_c (by decide)]; exact hmu)
    rcases hu with ⟨c, w, hR, hc, u5, u3⟩ | ⟨u5, u3, q, B', u4, hR, hg⟩
    · have e5 : up2 u 10 3 (n : Int) 8 5 = c := by rw [up2_c (by decide), u5]
      have f0 := fr _ m0
      exact c_endBad (by omega) (by rw [e5]; exact inR_s (by omega) (by omega)) (hq _ ⟨f0.1, f0.2.1, f0.2.2, m0.2.2, Or.inr ⟨c, w, hR, hc, e5, by rw [up2_c (by decide), u3]⟩⟩)
    · refine c_fin tx (TXc.keep (lu.tx tc) (up2_c (by decide)) (by rw [up2_c (by decide)])) m0 (by rw [up2_c (by decide), u5]) (by rw [up2_c (by decide), u3]) (by rw [up2_c (by decide), u4]) (fun z e2 mz n2 z3 z4 z5 l4 => ?_) (fun z w mz n2 z5 z3 => ?_)
      · obtain ⟨f1, f9, f2⟩ := fr z mz
        refine hq z ⟨f1, f9, f2, mz.2.2, Or.inl ⟨e2, up1 (up1 B' 3 (n : Int)) 4 1, by rw [hR]; simp only [lawK, bd, n2], z4, z5, z3, ?_, bi.law b0 (by omega) hg.1 (fun i hi => (hg.2 i (by omega)).2)⟩⟩
        obtain ⟨⟨d0, d1, d2, d3, d4, d5⟩, dh, ds, dl⟩ := dr
        have hB2 := bi.1.s6
        have ee : ∀ j : Nat, j < 36 → j ≠ 3 → j ≠ 4 → up1 (up1 B' 3 (n : Int)) 4 1 j = B j := fun j h0 h1 h2 => by rw [up1_n h2, up1_n h1, hg.1 j h0]
        have z10 : ∀ j, j ≠ 3 → z 10 j = s 10 j := fun j hj => by rw [mz.1 10 (by decide), up2_n hj, lu.1 10 (by decide) (by decide)]
        have zd : ∀ d, d ≠ 8 → d ≠ 10 → d ≠ 16 → z d = s d := fun d a b c => by rw [mz.1 d a, up2_c b, lu.1 d a c]
        unfold Dr
        rw [ee 0 (by decide) (by decide) (by decide), ee 1 (by decide) (by decide) (by decide), ee 2 (by decide) (by decide) (by decide), ee 5 (by decide) (by decide) (by decide), show up1 (up1 B' 3 (n : Int)) 4 1 3 = (n : Int) by rw [up1_n (by decide), up1_s], show up1 (up1 B' 3 (n : Int)) 4 1 4 = 1 from up1_s, zd 11 (by decide) (by decide) (by decide), zd 12 (by decide) (by decide) (by decide), zd 13 (by decide) (by decide) (by decide), zd 14 (by decide) (by decide) (by decide), zd 15 (by decide) (by decide) (by decide)]
        refine ⟨⟨by rw [z10 0 (by decide), d0], by rw [z10 1 (by decide), d1], by rw [z10 2 (by decide), d2], by rw [mz.1 10 (by decide), up2_s], by rw [mz.2.1 8 (by decide) (by decide) (by decide) (by decide), up2_c (by decide)]; exact lu.2.2.1, by rw [mz.2.1 7 (by decide) (by decide) (by decide) (by decide), up2_c (by decide), lu.2.1 7 (by decide) (by decide) (by decide) (by decide) (by decide), d5]⟩, fun k hk => by rw [ee _ (by omega) (by omega) (by omega)]; exact dh k hk, fun i hi => ?_, fun i hi => ?_⟩
        · rw [ee _ (by omega) (by omega) (by omega), ee _ (by omega) (by omega) (by omega), ee _ (by omega) (by omega) (by omega), ee _ (by omega) (by omega) (by omega)]
          exact ds i hi
        · rw [up1_n (by omega), up1_n (by omega), mz.1 16 (by decide), up2_c (by decide)]
          exact (hg.2 i (by omega)).1
      · obtain ⟨f1, f9, f2⟩ := fr z mz
        exact hq z ⟨f1, f9, f2, mz.2.2, Or.inr ⟨1, w, by rw [hR]; simp only [lawK, bd, n2], by omega, z5, z3⟩⟩
  · rcases hI with hI | ⟨t5, t3, p', B', t4, hR, hg⟩
    · exact Or.inl hI
    · refine Or.inr ⟨t5, t3, p', B', t4, ?_, hg⟩
      rw [hR, show 8 - n = 0 by omega]
      rfl
  · unfold wp_X6_nextIs
    rcases hI with ⟨c, w, hR, hc, t5, t3⟩ | ⟨t5, t3, p', B', t4, hR, hg⟩
    · exact ⟨by rw [t5]; exact inR_s (by omega) (by omega), fun z => by omega, fun _ => ⟨inR_0, fun _ => ⟨lt, Or.inl ⟨c, w, hR, hc, t5, t3⟩⟩, fun z => absurd rfl z⟩⟩
    · rw [t5]
      refine ⟨inR_0, fun _ => c_skip tx (lt.tx tc) t4 (by omega) (by omega) (fun u fu gu u4 => ?_), fun z => absurd rfl z⟩
      obtain ⟨f, hf⟩ : ∃ f : Nat, 8 - n = f + 1 := ⟨7 - n, by omega⟩
      have wF : wordsF x L (8 - n) p' n B' = if sk x L p' < L ∧ x (sk x L p').toNat = 44 then bd (numF x L 0 3 (sk x L p' + 1)) fun a => wordsF x L f a.2.1 (n + 1) (up1 B' (36 + n) a.1) else .inl (sk x L p', n, B') := by rw [hf, wordsF]
      have hs := sk_in x L p'
      have hqL := hs.1.2 (by omega)
      generalize sk x L p' = q at *
      have mu : MidC L t u := ⟨fu, fun j _ b _ _ => gu j b, by omega⟩
      have lu := lt.mid mu
      have u5 : u 8 5 = 0 := by rw [gu 5 (by decide), t5]
      have u3 : u 8 3 = -1 := by rw [gu 3 (by decide), t3]
      have out : ¬ (q < L ∧ x q.toNat = 44) → LMc L s u ∧ (LWb R u ∨ (u 8 5 = 0 ∧ u 8 3 = -1 ∧ ∃ (q : Int) (B' : Nat → Int), u 8 4 = q ∧ R = lawK x L (q, n, B') ∧ LWg B B' n u)) := by
        intro hc
        rw [if_neg hc] at wF
        exact ⟨lu, Or.inr ⟨u5, u3, q, B', u4, by rw [hR, wF]; rfl, hg.1, fun i hi => by rw [fu 16 (by decide)]; exact hg.2 i hi⟩⟩
      rw [gu 2 (by decide), (lt.tx tc).1, fu 9 (by decide)]
      rw [u4]
      refine ⟨inR_s (by omega) (by omega), inR_s (by omega) (by omega), fun h => ⟨inR_0, fun _ => out (by omega), fun z => absurd rfl z⟩, fun h => ⟨by omega, ?_⟩⟩
      have hx := tx.2 q (by omega) (by omega)
      rw [(lt.tx tc).2 q (by omega) (by omega)]
      refine ⟨inR_s (by omega) (by omega), inR_s (by omega) (by omega), fun c => ⟨inR_s (by omega) (by omega), fun z => absurd z (by decide), fun _ => ?_⟩, fun c => ⟨inR_0, fun _ => out (fun z => c z.2), fun z => absurd rfl z⟩⟩
      rintro s17 rfl
      rw [u4]
      rw [if_pos ⟨by omega, c⟩] at wF
      have mn : MidC L u (up2 u 8 4 (q + 1)) := ⟨fun d hd => up2_c hd, fun j _ h _ _ => up2_n h, by rw [up2_s]; omega⟩
      refine c_num tx (lu.tx tc) mn (by rw [up2_n (by decide), u5]) (by rw [up2_n (by decide), u3]) up2_s (by omega) (by omega) (fun z v e q' mz m1 z3 z4 z5 z6 g1 g2 g3 => ?_) (fun z v c w mz m1 hv hc z5 z3 ne i5 => ?_)
      · refine ⟨by omega, ?_⟩
        rintro s21 rfl x1 rfl x2 rfl
        refine ⟨8 - (n + 1), by omega, (lu.mid mz).w16, n + 1, by omega, by omega, by omega, by omega, rfl, Or.inr ⟨by rw [up2_c (by decide), z5], by rw [up2_c (by decide), z3], e, up1 B' (36 + n) v, by rw [up2_c (by decide), z4], ?_, fun j hj => by rw [up1_n (by omega), hg.1 j hj], fun i hi => ?_⟩⟩
        · rw [hR, wF, m1, show 8 - (n + 1) = f by omega]; rfl
        · rw [up2_e, up1_e]
          by_cases ci : i = n
          · rw [if_pos (by omega), if_pos (by omega)]; exact ⟨rfl, g2, g3⟩
          · rw [if_neg (by omega), if_neg (by omega), mz.1 16 (by decide), fu 16 (by decide)]
            exact hg.2 i (by omega)
      · refine ⟨by omega, ?_⟩
        rintro s21 rfl x1 rfl x2 rfl
        exact ⟨8 - (n + 1), by omega, (lu.mid mz).w16, n + 1, by omega, by omega, by omega, by omega, rfl, Or.inl ⟨c, w, by rw [hR, wF, m1]; rfl, hc, by rw [up2_c (by decide), z5], by rw [up2_c (by decide), z3]⟩⟩
theorem c_law {s : Mem} {x : Nat → Int} {L p : Int} {B : Nat → Int} {Q : Mem → Prop} (tx : TX x L) (tc : TXc s x L) (h5 : s 8 5 = 0) (h3 : s 8 3 = -1) (hp : s 8 4 = p) (p0 : 0 ≤ p) (p1 : p < L) (dr : Dr s B) (bi : BI B) (b0 : B 0 ≠ 0) (hq : ∀ u : Mem, ResC L s (lawF x L p B) u → Q u) : wp_X6_readLaw s Q := by
  have hL := tx.1
  have h4 := bi.2.1
  unfold wp_X6_readLaw
  rw [dr.1.2.2.2.2.1]
  refine ⟨inR_s (by omega) (by omega), fun hl => ?_, fun hl => ?_⟩
  · rintro s2 rfl s3 rfl
    have l3 : LMc L s (up2 (up2 s 8 4 (s 8 4 + 1)) 8 8 1) := ⟨fun d h0 _ => by rw [up2_c h0, up2_c h0], fun j _ b _ _ e => by rw [up2_n e, up2_n b], up2_s, by rw [up2_n (by decide), up2_s]; omega⟩
    have e5 : up2 (up2 s 8 4 (s 8 4 + 1)) 8 8 1 8 5 = 0 := by rw [up2_n (by decide), up2_n (by decide), h5]
    have e3 : up2 (up2 s 8 4 (s 8 4 + 1)) 8 8 1 8 3 = -1 := by rw [up2_n (by decide), up2_n (by decide), h3]
    have e4 : up2 (up2 s 8 4 (s 8 4 + 1)) 8 8 1 8 4 = p + 1 := by rw [up2_n (by decide), up2_s, hp]
    generalize up2 (up2 s 8 4 (s 8 4 + 1)) 8 8 1 = s3 at l3 e5 e3 e4
    have rF := lawF_eq (x := x) (L := L) (p := p) hl
    generalize lawF x L p B = R at hq rF
    refine c_num tx (l3.tx tc) (MidC.refl l3.2.2.2) e5 e3 e4 (by omega) (by omega) (fun u v e q mu n1 u3 u4 u5 u6 g1 g2 g3 => ?_) (fun u v c w mu n1 hv hc u5 u3 ne i5 => ?_)
    · rintro s6 rfl
      refine c_lawLoop tx tc dr bi b0 hq (l3.mid mu).w16 (Or.inr ⟨by rw [up2_c (by decide), u5], by rw [up2_c (by decide), u3], e, up1 B 36 v, by rw [up2_c (by decide), u4], by rw [rF, n1]; rfl, fun j hj => up1_n (by omega), fun i hi => ?_⟩)
      rw [show i = 0 by omega, up2_s, show (36 + 0 : Nat) = 36 from rfl, up1_s]
      exact ⟨rfl, g2, g3⟩
    · rintro s6 rfl
      exact c_lawLoop tx tc dr bi b0 hq (l3.mid mu).w16 (Or.inl ⟨c, w, by rw [rF, n1]; rfl, hc, by rw [up2_c (by decide), u5], by rw [up2_c (by decide), u3]⟩)
  · have hq2 : ∀ u : Mem, ResC L s (.inr (3, p)) u → Q u := by
      unfold lawF at hq; rw [if_neg hl] at hq; exact hq
    rw [hp]
    exact c_blame h5 (fun t ft gt t5 t3 => hq2 t (MidC.bad (u := t) ⟨ft, fun j a _ c _ => gt j a c, by rw [gt 4 (by decide) (by decide), hp]; omega⟩ rfl (by omega) t5 t3))
