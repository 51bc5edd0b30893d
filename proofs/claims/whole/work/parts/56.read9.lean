/-! ===== a clause, all clauses (class) ===== -/
theorem bd_inl {α β : Type} {a : α ⊕ (Int × Int)} {f : α → β ⊕ (Int × Int)} {r : β} (h : bd a f = .inl r) : ∃ v, a = .inl v ∧ f v = .inl r := by
  cases a with
  | inl v => exact ⟨v, rfl, h⟩
  | inr w => exact absurd (show (Sum.inr w : β ⊕ (Int × Int)) = .inl r from h) (fun z => nomatch z)
theorem numF_in {x : Nat → Int} {L a1 a2 p : Int} {r : Int × Int × Int} (h : numF x L a1 a2 p = .inl r) : (a1 ≤ r.1 ∧ r.1 ≤ a2) ∧ p < r.2.1 ∧ (p ≤ L → r.2.1 ≤ L) := by
  have hs := sk_in x L p
  have hd := dg_in x L (sk x L p)
  unfold numF at h
  split at h
  · exact absurd h (fun z => nomatch z)
  · rename_i h1
    split at h
    · rename_i h2
      have h := Sum.inl.inj h
      rw [← h]
      exact ⟨⟨h2.2.1, h2.2.2⟩, by show p < dg x L (sk x L p); omega, fun z => hd.2 (hs.1.2 z)⟩
    · exact absurd h (fun z => nomatch z)
theorem endF_in {x : Nat → Int} {L p e : Int} (h : endF x L p = .inl e) : p < e ∧ e ≤ L := by
  have hs := sk_in x L p
  unfold endF at h
  split at h
  · rename_i h1
    have h := Sum.inl.inj h
    omega
  · exact absurd h (fun z => nomatch z)
theorem wordsF_in {x : Nat → Int} {L : Int} : ∀ (f : Nat) (p : Int) (n : Nat) (B : Nat → Int) (r : Int × Nat × (Nat → Int)), wordsF x L f p n B = .inl r → (∀ i : Nat, i < n → 0 ≤ B (36 + i) ∧ B (36 + i) ≤ 3) → p ≤ r.1 ∧ n ≤ r.2.1 ∧ r.2.1 ≤ n + f ∧ (∀ j : Nat, j < 36 → r.2.2 j = B j) ∧ (∀ i : Nat, i < r.2.1 → 0 ≤ r.2.2 (36 + i) ∧ r.2.2 (36 + i) ≤ 3)
  | 0, p, n, B, r, h, g => by
    have h := Sum.inl.inj h
    rw [← h]
    exact ⟨Int.le_refl _, Nat.le_refl _, Nat.le_refl _, fun _ _ => rfl, g⟩
  | f + 1, p, n, B, r, h, g => by
    have hs := sk_in x L p
    rw [wordsF] at h
    split at h
    · obtain ⟨a, ha, h⟩ := bd_inl h
      have hn := numF_in ha
      have ih := wordsF_in f a.2.1 (n + 1) (up1 B (36 + n) a.1) r h (fun i hi => by
        rw [up1_e]
        by_cases c : i = n
        · rw [if_pos (by omega)]; exact hn.1
        · rw [if_neg (by omega)]; exact g i (by omega))
      exact ⟨by omega, by omega, by omega, fun j hj => by rw [ih.2.2.2.1 j hj, up1_n (by omega)], ih.2.2.2.2⟩
    · have h := Sum.inl.inj h
      rw [← h]
      exact ⟨hs.1.1, Nat.le_refl _, by show n ≤ n + (f + 1); omega, fun _ _ => rfl, g⟩
theorem clF_in {x : Nat → Int} {L p : Int} {B : Nat → Int} {r : Int × (Nat → Int)} (bi : BI B) (h : clF x L p B = .inl r) : (p < r.1 ∧ r.1 ≤ L) ∧ BI r.2 := by
  have hn := bi.1.n6
  unfold clF at h
  split at h
  · rename_i b0
    split at h
    · unfold placesF at h
      obtain ⟨a, ha, h⟩ := bd_inl h
      obtain ⟨c, hc, h⟩ := bd_inl h
      obtain ⟨e, he, h⟩ := bd_inl h
      have h := Sum.inl.inj h
      have h1 := numF_in ha
      have h2 := numF_in hc
      have h3 := endF_in he
      rw [← h]
      exact ⟨⟨by show p < e; omega, h3.2⟩, bi.places b0 h1.1 h2.1⟩
    · exact absurd h (fun z => nomatch z)
  · rename_i b0
    split at h
    · exact absurd h (fun z => nomatch z)
    · split at h
      · unfold heatF at h
        obtain ⟨a, ha, h⟩ := bd_inl h
        split at h
        · exact absurd h (fun z => nomatch z)
        · obtain ⟨c, hc, h⟩ := bd_inl h
          obtain ⟨e, he, h⟩ := bd_inl h
          have h := Sum.inl.inj h
          have h1 := numF_in ha
          have h2 := numF_in hc
          have h3 := endF_in he
          rw [← h]
          exact ⟨⟨by show p < e; omega, h3.2⟩, bi.heat (by omega) h2.1⟩
      · split at h
        · by_cases h4 : B 4 = 0
          · rw [lawF_eq h4] at h
            obtain ⟨a, ha, h⟩ := bd_inl h
            obtain ⟨w, hw, h⟩ := bd_inl h
            unfold lawK at h
            obtain ⟨e, he, h⟩ := bd_inl h
            have h := Sum.inl.inj h
            have h1 := numF_in ha
            have h3 := endF_in he
            have hw := wordsF_in 7 a.2.1 1 _ w hw (fun i hi => by rw [show i = 0 by omega, show (36 + 0 : Nat) = 36 from rfl, up1_s]; exact h1.1)
            rw [← h]
            exact ⟨⟨by show p < e; omega, h3.2⟩, bi.law b0 (by omega) (fun j hj => by rw [hw.2.2.2.1 j hj, up1_n (by omega)]) (fun i hi => hw.2.2.2.2 i (by omega))⟩
          · unfold lawF at h
            rw [if_neg h4] at h
            exact absurd h (fun z => nomatch z)
        · split at h
          · unfold sleeperF at h
            split at h
            · rename_i hl
              obtain ⟨a, ha, h⟩ := bd_inl h
              obtain ⟨c, hc, h⟩ := bd_inl h
              obtain ⟨d, hd, h⟩ := bd_inl h
              obtain ⟨g, hg, h⟩ := bd_inl h
              split at h
              · obtain ⟨e, he, h⟩ := bd_inl h
                have h := Sum.inl.inj h
                have h1 := numF_in ha
                have h2 := numF_in hc
                have h3 := numF_in hd
                have h4 := numF_in hg
                have h5 := endF_in he
                rw [← h]
                exact ⟨⟨by show p < e; omega, h5.2⟩, bi.sleeper hl h1.1 h2.1 h3.1 h4.1⟩
              · exact absurd h (fun z => nomatch z)
            · exact absurd h (fun z => nomatch z)
          · exact absurd h (fun z => nomatch z)
theorem c_clause {s : Mem} {x : Nat → Int} {L p : Int} {B : Nat → Int} {Q : Mem → Prop} (tx : TX x L) (tc : TXc s x L) (h5 : s 8 5 = 0) (h3 : s 8 3 = -1) (hp : s 8 4 = p) (p0 : 0 ≤ p) (p1 : p < L) (dr : Dr s B) (bi : BI B) (hq : ∀ u : Mem, ResC L s (clF x L p B) u → Q u) : wp_X6_readClause s Q := by
  have hL := tx.1
  have hx := tx.2 p p0 p1
  have hn := bi.1.n6
  unfold wp_X6_readClause
  rw [hp, tc.2 p p0 p1, dr.1.1]
  unfold clF at hq
  have blm : ∀ c : Int, (1 ≤ c ∧ c ≤ 4) → (∀ u : Mem, ResC L s (.inr (c, p)) u → Q u) → wp_X6_blame c p s (fun t => Q t) := fun c hc g => c_blame h5 (fun t ft gt t5 t3 => g t (MidC.bad (u := t) ⟨ft, fun j a _ c _ => gt j a c, by rw [gt 4 (by decide) (by decide), hp]; omega⟩ rfl hc t5 t3))
  refine ⟨by omega, ?_⟩
  rintro x1 rfl
  refine ⟨inR_s (by omega) (by omega), fun b0 => ⟨inR_s (by omega) (by omega), fun h => ?_, fun h => ?_⟩, fun b0 => ⟨inR_s (by omega) (by omega), fun h => ?_, fun h => ?_, fun h => ?_, fun h => ?_, fun h => ?_⟩⟩
  · rw [if_pos b0, if_pos h] at hq; exact c_places tx tc h5 h3 hp p0 p1 dr bi b0 hq
  · rw [if_pos b0, if_neg h] at hq; exact blm 1 (by omega) hq
  · rw [if_neg b0, if_pos h] at hq; exact blm 3 (by omega) hq
  · rw [if_neg b0, if_neg (by omega), if_pos h] at hq; exact c_heat tx tc h5 h3 hp p0 p1 dr bi b0 hq
  · rw [if_neg b0, if_neg (by omega), if_neg (by omega), if_pos h] at hq; exact c_law tx tc h5 h3 hp p0 p1 dr bi b0 hq
  · rw [if_neg b0, if_neg (by omega), if_neg (by omega), if_neg (by omega), if_pos h] at hq; exact c_sleeper tx tc h5 h3 hp p0 p1 dr bi hq
  · rw [if_neg b0, if_neg (by omega), if_neg (by omega), if_neg (by omega), if_neg (by omega)] at hq; exact blm 1 (by omega) hq
def allF (x : Nat → Int) (L : Int) : Nat → Int → (Nat → Int) → (Nat → Int) ⊕ (Int × Int)
  | 0, _, B => .inl B
  | f + 1, p, B => if L ≤ p then .inl B else bd (clF x L p B) fun r => allF x L f (sk x L r.1) r.2
def PlainB (B : Nat → Int) : Prop := (B 0 = 0 ∧ B 1 = 0 ∧ B 2 = 0 ∧ B 3 = 1 ∧ B 4 = 0 ∧ B 5 = 0) ∧ (∀ q : Nat, q < 6 → B (6 + q) = 0) ∧ B 36 = 0
theorem PlainB.bi {B : Nat → Int} (h : PlainB B) : BI B := by
  obtain ⟨⟨h0, h1, h2, h3, h4, h5⟩, hh, hl⟩ := h
  refine ⟨⟨Or.inl h0, Or.inl h1, by omega, by omega, fun p p0 p1 => ?_, fun s s0 s1 => by omega, fun i i0 i1 => ?_⟩, Or.inl h4, fun _ => h4⟩
  · unfold heatOf
    have := hh p.toNat (by omega)
    rw [show (6 + p).toNat = 6 + p.toNat by omega]; omega
  · unfold lawOf
    rw [show (36 + i).toNat = 36 by omega]; omega
theorem c_empty {s : Mem} {Q : Mem → Prop} (hq : ∀ u : Mem, (∀ d, d ≠ 10 → d ≠ 11 → d ≠ 16 → u d = s d) → (u 10 0 = 0 ∧ u 10 1 = 0 ∧ u 10 2 = 0 ∧ u 10 3 = 1) → (∀ q : Nat, q < 6 → u 11 q = 0) → u 16 0 = 0 → Q u) : wp_X0_empty s Q := by
  unfold wp_X0_empty
  rintro s1 rfl s2 rfl s3 rfl s4 rfl s5 rfl
  have f0 : ∀ d, d ≠ 10 → d ≠ 16 → up2 (up2 (up2 (up2 (up2 s 10 0 0) 10 1 0) 10 2 0) 10 3 1) 16 0 0 d = s d := fun d a b => by rw [up2_c b, up2_c a, up2_c a, up2_c a, up2_c a]
  have g0 : up2 (up2 (up2 (up2 (up2 s 10 0 0) 10 1 0) 10 2 0) 10 3 1) 16 0 0 10 0 = 0 := by rw [up2_c (by decide), up2_n (by decide), up2_n (by decide), up2_n (by decide), up2_s]
  have g1 : up2 (up2 (up2 (up2 (up2 s 10 0 0) 10 1 0) 10 2 0) 10 3 1) 16 0 0 10 1 = 0 := by rw [up2_c (by decide), up2_n (by decide), up2_n (by decide), up2_s]
  have g2 : up2 (up2 (up2 (up2 (up2 s 10 0 0) 10 1 0) 10 2 0) 10 3 1) 16 0 0 10 2 = 0 := by rw [up2_c (by decide), up2_n (by decide), up2_s]
  have g3 : up2 (up2 (up2 (up2 (up2 s 10 0 0) 10 1 0) 10 2 0) 10 3 1) 16 0 0 10 3 = 1 := by rw [up2_c (by decide), up2_s]
  have g4 : up2 (up2 (up2 (up2 (up2 s 10 0 0) 10 1 0) 10 2 0) 10 3 1) 16 0 0 16 0 = 0 := up2_s
  generalize up2 (up2 (up2 (up2 (up2 s 10 0 0) 10 1 0) 10 2 0) 10 3 1) 16 0 0 = t at f0 g0 g1 g2 g3 g4
  refine ⟨fun k y u => ∃ n : Nat, y = (n : Int) ∧ n ≤ 6 ∧ k = 6 - n ∧ (∀ d, d ≠ 11 → u d = t d) ∧ ∀ q : Nat, q < n → u 11 q = 0, ?_, 6, 0, rfl, by omega, rfl, fun _ _ => rfl, fun q hq => by omega⟩
  rintro k y u ⟨n, rfl, n6, rfl, fu, hu⟩
  refine ⟨inR_s (by omega) (by omega), fun h => ?_, fun h => ⟨by omega, ?_⟩⟩
  · exact hq u (fun d a b c => by rw [fu d b, f0 d a c]) (by rw [fu 10 (by decide)]; exact ⟨g0, g1, g2, g3⟩) (fun q hq => hu q (by omega)) (by rw [fu 16 (by decide), g4])
  · rintro s10 rfl x1 rfl
    refine ⟨6 - (n + 1), by omega, n + 1, by omega, by omega, rfl, fun d hd => by rw [up2_c hd, fu d hd], fun q hq => ?_⟩
    rw [up2_e]
    split
    · rfl
    · exact hu q (by omega)
theorem c_all {s : Mem} {x : Nat → Int} {L : Int} {B0 : Nat → Int} {Q : Int → Mem → Prop} (tx : TX x L) (tc : TXc s x L) (pb : PlainB B0)
    (hq : ∀ u : Mem, (∀ d, ¬ (8 ≤ d ∧ d ≤ 16) → u d = s d) → u 8 2 = 0 → ((∃ B : Nat → Int, allF x L 200 (sk x L 0) B0 = .inl B ∧ u 8 5 = 0 ∧ u 8 3 = -1 ∧ Dr u B ∧ BI B) ∨ (∃ c w : Int, allF x L 200 (sk x L 0) B0 = .inr (c, w) ∧ (1 ≤ c ∧ c ≤ 4) ∧ u 8 5 = c ∧ u 8 3 = w)) → Q (u 8 5) u) : wp_X6_readAll s Q := by
  have hL := tx.1
  unfold wp_X6_readAll
  refine c_empty (fun u fu gu hu h16 => ?_)
  rintro s2 rfl s3 rfl s4 rfl s5 rfl s6 rfl
  have f0 : ∀ d, d ≠ 8 → up2 (up2 (up2 (up2 (up2 u 8 4 0) 8 5 0) 8 3 (-1)) 8 7 0) 8 8 0 d = u d := fun d a => by rw [up2_c a, up2_c a, up2_c a, up2_c a, up2_c a]
  have k2 : up2 (up2 (up2 (up2 (up2 u 8 4 0) 8 5 0) 8 3 (-1)) 8 7 0) 8 8 0 8 2 = s 8 2 := by rw [up2_n (by decide), up2_n (by decide), up2_n (by decide), up2_n (by decide), up2_n (by decide), fu 8 (by decide) (by decide) (by decide)]
  have k3 : up2 (up2 (up2 (up2 (up2 u 8 4 0) 8 5 0) 8 3 (-1)) 8 7 0) 8 8 0 8 3 = -1 := by rw [up2_n (by decide), up2_n (by decide), up2_s]
  have k4 : up2 (up2 (up2 (up2 (up2 u 8 4 0) 8 5 0) 8 3 (-1)) 8 7 0) 8 8 0 8 4 = 0 := by rw [up2_n (by decide), up2_n (by decide), up2_n (by decide), up2_n (by decide), up2_s]
  have k5 : up2 (up2 (up2 (up2 (up2 u 8 4 0) 8 5 0) 8 3 (-1)) 8 7 0) 8 8 0 8 5 = 0 := by rw [up2_n (by decide), up2_n (by decide), up2_n (by decide), up2_s]
  have k7 : up2 (up2 (up2 (up2 (up2 u 8 4 0) 8 5 0) 8 3 (-1)) 8 7 0) 8 8 0 8 7 = 0 := by rw [up2_n (by decide), up2_s]
  have k8 : up2 (up2 (up2 (up2 (up2 u 8 4 0) 8 5 0) 8 3 (-1)) 8 7 0) 8 8 0 8 8 = 0 := up2_s
  generalize up2 (up2 (up2 (up2 (up2 u 8 4 0) 8 5 0) 8 3 (-1)) 8 7 0) 8 8 0 = t at f0 k2 k3 k4 k5 k7 k8
  have tct : TXc t x L := tc.keep (by rw [f0 9 (by decide), fu 9 (by decide) (by decide) (by decide)]) k2
  refine c_skip tx tct k4 (by omega) (by omega) (fun v fv gv v4 => ?_)
  have hs0 := sk_in x L 0
  have hs0L := hs0.1.2 hL.1
  generalize hR : allF x L 200 (sk x L 0) B0 = R at hq
  refine ⟨fun k y t => k ≤ 200 ∧ y = 200 - (k : Int) ∧ (∀ d, ¬ (8 ≤ d ∧ d ≤ 16) → t d = s d) ∧ TXc t x L ∧ (0 ≤ t 8 4 ∧ t 8 4 ≤ L) ∧ ((∃ (p : Int) (B : Nat → Int), allF x L k p B = R ∧ t 8 4 = p ∧ (L - p).toNat ≤ k ∧ t 8 5 = 0 ∧ t 8 3 = -1 ∧ Dr t B ∧ BI B) ∨ (∃ c w : Int, R = .inr (c, w) ∧ (1 ≤ c ∧ c ≤ 4) ∧ t 8 5 = c ∧ t 8 3 = w)), ?_, 200, by omega, by omega, fun d hd => by rw [fv d (by omega), f0 d (by omega), fu d (by omega) (by omega) (by omega)], tct.keep (fv 9 (by decide)) (gv 2 (by decide)), by omega, Or.inl ⟨_, B0, hR, v4, by omega, by rw [gv 5 (by decide), k5], by rw [gv 3 (by decide), k3], ?_, pb.bi⟩⟩
  · rintro k y r ⟨k2, rfl, fr, tcr, hr, hI⟩
    refine ⟨inR_s (by omega) (by omega), (∃ B : Nat → Int, R = .inl B ∧ r 8 5 = 0 ∧ r 8 3 = -1 ∧ Dr r B ∧ BI B) ∨ (∃ c w : Int, R = .inr (c, w) ∧ (1 ≤ c ∧ c ≤ 4) ∧ r 8 5 = c ∧ r 8 3 = w), ?_, fun h => ?_, fun h => ?_⟩
    · intro hX
      rintro s11 rfl
      refine hq _ (fun d hd => by rw [up2_c (by omega), fr d hd]) up2_s ?_
      rcases hX with ⟨B, h1, h5, h3, hd, hb⟩ | ⟨c, w, h1, hc, h5, h3⟩
      · exact Or.inl ⟨B, h1, by rw [up2_n (by decide), h5], by rw [up2_n (by decide), h3], hd.keep (fun d hd => up2_c hd) ⟨up2_n (by decide), up2_n (by decide)⟩, hb⟩
      · exact Or.inr ⟨c, w, h1, hc, by rw [up2_n (by decide), h5], by rw [up2_n (by decide), h3]⟩
    · rcases hI with ⟨p, B, h1, h4, hf, h5, h3, hd, hb⟩ | hI
      · rw [show k = 0 by omega] at h1
        exact Or.inl ⟨B, h1.symm, h5, h3, hd, hb⟩
      · exact Or.inr hI
    · rcases hI with ⟨p, B, h1, h4, hf, h5, h3, hd, hb⟩ | ⟨c, w, h1, hc, h5, h3⟩
      · obtain ⟨f, rfl⟩ : ∃ f, k = f + 1 := ⟨k - 1, by omega⟩
        rw [allF] at h1
        refine ⟨by rw [h5]; exact inR_0, fun _ => ⟨inR_s (by omega) (by omega), by rw [tcr.1]; exact inR_s (by omega) (by omega), fun hl => ?_, fun hl => ?_⟩, fun z => absurd h5 z⟩
        all_goals rw [h4, tcr.1] at hl
        · rw [if_pos hl] at h1
          exact Or.inl ⟨B, h1.symm, h5, h3, hd, hb⟩
        · rw [if_neg hl] at h1
          refine c_clause tx tcr h5 h3 h4 (by omega) (by omega) hd hb (fun z rz => ?_)
          obtain ⟨z1, z9, z2, z4, hz⟩ := rz
          refine c_skip tx (tcr.keep z9 z2) rfl z4.1 (by omega) (fun z' fz gz z4' => ?_)
          intro x1 hx1
          have hs := sk_in x L (z 8 4)
          have hsL := hs.1.2 z4.2
          refine ⟨f, by omega, by omega, by omega, fun d hd => by rw [fz d (by omega), z1 d hd, fr d hd], (tcr.keep z9 z2).keep (fz 9 (by decide)) (gz 2 (by decide)), by omega, ?_⟩
          rcases hz with ⟨e, B', hc, e4, e5, e3, hd', hb'⟩ | ⟨c, w, hc, hc4, e5, e3⟩
          · have ha := clF_in hb hc
            rw [hc] at h1
            refine Or.inl ⟨sk x L e, B', h1, by rw [z4', e4], ?_, by rw [gz 5 (by decide), e5], by rw [gz 3 (by decide), e3], hd'.keep fz ⟨gz 8 (by decide), gz 7 (by decide)⟩, hb'⟩
            rw [e4] at hs
            have := ha.1.1
            have e0 : (e, B').1 = e := rfl
            omega
          · rw [hc] at h1
            exact Or.inr ⟨c, w, h1.symm, hc4, by rw [gz 5 (by decide), e5], by rw [gz 3 (by decide), e3]⟩
      · exact ⟨by rw [h5]; exact inR_s (by omega) (by omega), fun z => by omega, fun _ => Or.inr ⟨c, w, h1, hc, h5, h3⟩⟩
  · obtain ⟨⟨b0, b1, b2, b3, b4, b5⟩, bh, bl⟩ := pb
    have vd : ∀ d, d ≠ 8 → v d = u d := fun d hd => by rw [fv d hd, f0 d hd]
    unfold Dr
    rw [b0, b1, b2, b3, b4, b5, vd 10 (by decide), vd 11 (by decide), vd 16 (by decide), gv 8 (by decide), gv 7 (by decide), k8, k7]
    refine ⟨⟨gu.1, gu.2.1, gu.2.2.1, gu.2.2.2, rfl, rfl⟩, fun q hq => by rw [hu q hq, bh q hq], fun i hi => by omega, fun i hi => ?_⟩
    rw [show i = 0 by omega, h16, show (36 + 0 : Nat) = 36 from rfl, bl]
