/-! ===== steady ===== -/
def WW (t u : Nat → Int) : Prop := ∀ p : Int, 0 ≤ p → p < 6 → whoOf t p = whoOf u p ∧ warmOf t p = warmOf u p
theorem WW.rfl' {t : Nat → Int} : WW t t := fun _ _ _ => ⟨rfl, rfl⟩
theorem WW.goes {b t u : Nat → Int} (ok : BedOk b) (h : WW t u) (w : Int) : WW (goesR b t w) (goesR b u w) := by
  have hn := ok.n6
  have hw : WA (turnsR b t w) (turnsR b u w) := by
    intro p h0 h1
    rw [whoOf_turnsR h0, whoOf_turnsR h0]
    by_cases c : p < b 0
    · rw [if_pos c, if_pos c, tw_src, tw_src]
      have := src_in (w := w) h0 c
      exact (h _ this.1 (by omega)).1
    · rw [if_neg c, if_neg c]
      exact (h p h0 h1).1
  intro p h0 h1
  unfold goesR
  rw [whoOf_up0 h0, whoOf_up0 h0, warmOf_up0 h0, warmOf_up0 h0, whoOf_warmR h0 h1, whoOf_warmR h0 h1, warmOf_warmR h0, warmOf_warmR h0, warmOf_turnsR hn.2 h0, warmOf_turnsR hn.2 h0, dl_wa ok hw, (h p h0 h1).2]
  exact ⟨hw p h0 h1, rfl⟩
theorem WW.law {b t u : Nat → Int} (ok : BedOk b) (h : WW t u) (g : t 0 % b 3 = u 0 % b 3) : ∀ n : Nat, WW (itL b t n) (itL b u n) ∧ itL b t n 0 % b 3 = itL b u n 0 % b 3
  | 0 => ⟨h, g⟩
  | n + 1 => by
    obtain ⟨i1, i2⟩ := WW.law ok h g n
    have e : lawW b (itL b t n) = lawW b (itL b u n) := by unfold lawW; rw [i2]
    refine ⟨?_, ?_⟩
    · show WW (goesR b (itL b t n) (lawW b (itL b t n))) (goesR b (itL b u n) (lawW b (itL b u n)))
      rw [e]
      exact i1.goes ok _
    · rw [itL_0, itL_0, Int.add_emod, g, ← Int.add_emod]
theorem itL_add (b r : Nat → Int) (m : Nat) : ∀ n : Nat, itL b r (m + n) = itL b (itL b r m) n
  | 0 => rfl
  | n + 1 => by
    show goesR b (itL b r (m + n)) (lawW b (itL b r (m + n))) = goesR b (itL b (itL b r m) n) (lawW b (itL b (itL b r m) n))
    rw [itL_add b r m n]
def cntL (b t : Nat → Int) (hp a : Int) : Nat → Int
  | 0 => 0
  | n + 1 => cntL b t hp a n + (if whoOf (itL b t (n + 1)) hp = a then 1 else 0)
theorem cntL_ww {b t u : Nat → Int} {hp a : Int} (ok : BedOk b) (h : WW t u) (g : t 0 % b 3 = u 0 % b 3) (p0 : 0 ≤ hp) (p1 : hp < 6) : ∀ n : Nat, cntL b t hp a n = cntL b u hp a n
  | 0 => rfl
  | n + 1 => by
    rw [cntL, cntL, cntL_ww ok h g p0 p1 n, ((WW.law ok h g (n + 1)).1 hp p0 p1).1]
theorem cntL_in (b t : Nat → Int) (hp a : Int) : ∀ n : Nat, 0 ≤ cntL b t hp a n ∧ cntL b t hp a n ≤ (n : Int)
  | 0 => by unfold cntL; omega
  | n + 1 => by
    have := cntL_in b t hp a n
    rw [cntL]
    split <;> omega
def st (b r : Nat → Int) (k : Nat) : Nat → Int := itL b r (k * (b 3).toNat)
def cd (b r : Nat → Int) (k : Nat) : Int := codeN (st b r k) 6
def hotN (b : Nat → Int) : Nat → Int
  | 0 => 0
  | n + 1 => if heatOf b ((n + 1 : Nat) : Int) ≤ heatOf b (hotN b n) then hotN b n else ((n + 1 : Nat) : Int)
theorem hotN_in (b : Nat → Int) : ∀ n : Nat, 0 ≤ hotN b n ∧ hotN b n ≤ (n : Int)
  | 0 => by unfold hotN; omega
  | n + 1 => by
    have := hotN_in b n
    rw [hotN]
    split <;> omega
def hot (b : Nat → Int) : Int := hotN b ((b 0).toNat - 1)
theorem hot_in {b : Nat → Int} (h : 2 ≤ b 0) : 0 ≤ hot b ∧ hot b < b 0 := by
  have := hotN_in b ((b 0).toNat - 1)
  unfold hot
  omega
theorem c_warmest {σ : Mem} {b : Nat → Int} {Q : Int → Prop} (bc : BedC σ b) (ok : BedOk b) (h2 : 2 ≤ b 0) (hq : Q (hot b)) : wp_X0_warmestPlace σ Q := by
  have hn := ok.n6
  unfold wp_X0_warmestPlace
  rw [bc.1]
  refine ⟨fun k y z => ∃ i : Nat, z = ((i + 1 : Nat) : Int) ∧ ((i + 1 : Nat) : Int) ≤ b 0 ∧ k + (i + 1) = (b 0).toNat ∧ y = hotN b i, ?_, (b 0).toNat - 1, 0, rfl, by omega, by omega, rfl⟩
  rintro k y z ⟨i, rfl, i1, i2, rfl⟩
  have hi := hotN_in b i
  refine ⟨inR_s (by omega) (by omega), inR_s (by omega) (by omega), fun h => ?_, fun h => ⟨by omega, by omega, ?_⟩⟩
  · unfold hot at hq
    rw [show (b 0).toNat - 1 = i by omega] at hq
    exact hq
  · have e1 := bc.2.2.2.2.1 ((i + 1 : Nat) : Int) (by omega) (by omega)
    have e2 := bc.2.2.2.2.1 (hotN b i) hi.1 (by omega)
    have r1 := ok.2.2.2.2.1 ((i + 1 : Nat) : Int) (by omega) (by omega)
    have r2 := ok.2.2.2.2.1 (hotN b i) hi.1 (by omega)
    rw [e1, e2]
    refine ⟨inR_s (by omega) (by omega), inR_s (by omega) (by omega), ?_⟩
    rintro y1 rfl x2 rfl
    exact ⟨k - 1, by omega, i + 1, by omega, by omega, by omega, rfl⟩
theorem m_hottest {σ : Mem} {Q : Int → Prop} (ok : BedOk (σ 67)) (h2 : 2 ≤ σ 67 0) (hq : Q (hot (σ 67))) : wp_X12_hottest σ Q := by
  have hn := ok.n6
  unfold wp_X12_hottest
  refine ⟨fun k y z => ∃ i : Nat, z = ((i + 1 : Nat) : Int) ∧ ((i + 1 : Nat) : Int) ≤ σ 67 0 ∧ k + (i + 1) = (σ 67 0).toNat ∧ y = hotN (σ 67) i, ?_, (σ 67 0).toNat - 1, 0, rfl, by omega, by omega, rfl⟩
  rintro k y z ⟨i, rfl, i1, i2, rfl⟩
  have hi := hotN_in (σ 67) i
  refine ⟨inR_s (by omega) (by omega), inR_s (by omega) (by omega), fun h => ?_, fun h => ⟨by omega, by omega, ?_⟩⟩
  · unfold hot at hq
    rw [show (σ 67 0).toNat - 1 = i by omega] at hq
    exact hq
  · have r1 := ok.2.2.2.2.1 ((i + 1 : Nat) : Int) (by omega) (by omega)
    have r2 := ok.2.2.2.2.1 (hotN (σ 67) i) hi.1 (by omega)
    refine ⟨inR_s (by unfold heatOf at r1; omega) (by unfold heatOf at r1; omega), inR_s (by unfold heatOf at r2; omega) (by unfold heatOf at r2; omega), ?_⟩
    rintro y1 rfl x2 rfl
    exact ⟨k - 1, by omega, i + 1, by omega, by omega, by omega, rfl⟩
/-- the first night like one before: (length, before) -/
def SD (b r : Nat → Int) (len : Int) (j : Nat) : Prop := (∃ k : Nat, k ≤ 200 ∧ j < k ∧ len = (k : Int) - (j : Int) ∧ cd b r j = cd b r k ∧ ∀ i i' : Nat, i < i' → i' < k → cd b r i ≠ cd b r i') ∨ (len = -1 ∧ ∀ i i' : Nat, i < i' → i' ≤ 200 → cd b r i ≠ cd b r i')
theorem SD.uniq {b r : Nat → Int} {l l' : Int} {j j' : Nat} (h : SD b r l j) (g : SD b r l' j') : l = l' ∧ (l ≠ -1 → j = j') := by
  rcases h with ⟨k, a1, a2, a3, a4, a5⟩ | ⟨a1, a2⟩ <;> rcases g with ⟨k', c1, c2, c3, c4, c5⟩ | ⟨c1, c2⟩
  · have ek : k = k' := by
      rcases Nat.lt_trichotomy k k' with c | c | c
      · exact absurd a4 (c5 j k a2 c)
      · exact c
      · exact absurd c4 (a5 j' k' c2 c)
    rw [← ek] at c2 c3 c4
    have ej : j = j' := by
      rcases Nat.lt_trichotomy j j' with c | c | c
      · exact absurd (a4.trans c4.symm) (a5 j j' c c2)
      · exact c
      · exact absurd (c4.trans a4.symm) (a5 j' j c a2)
    exact ⟨by omega, fun _ => ej⟩
  · exact absurd a4 (c2 j k a2 a1)
  · exact absurd c4 (a2 j' k' c2 c1)
  · exact ⟨by omega, fun z => absurd a1 z⟩
theorem c_seekS {σ : Mem} {b r : Nat → Int} {Q : Mem → Prop} (bc : BedC σ b) (nc : NightC σ 17 r) (ok : BedOk b) (nk : NightOk b r) (hk : hrsOk r)
    (hq : ∀ (u : Mem) (len : Int) (j : Nat), SD b r len j → (∀ d, d ≠ 20 → d ≠ 21 → d ≠ 22 → d ≠ 58 → d ≠ 59 → u d = σ d) → u 58 2 = len → (len ≠ -1 → u 58 3 = (j : Int)) → Q u) : wp_X8_seek 17 σ Q := by
  have hl := ok.2.2.2.1
  unfold hrsOk at hk
  generalize hL : (b 3).toNat = L
  have eL : b 3 = (L : Int) := by omega
  have hst : ∀ k, st b r k = itL b r (k * L) := fun k => by unfold st; rw [hL]
  unfold wp_X8_seek
  rintro s1 rfl s2 rfl
  refine c_become isN_20 isN_17 (nc.keep (by rw [up2_c (by decide), up2_c (by decide)]) (by rw [up2_c (by decide), up2_c (by decide)]) (by rw [up2_c (by decide), up2_c (by decide)])) (fun t nt ft => ?_)
  refine c_code nt ok nk ?_
  rintro s5 rfl
  refine ⟨fun k y s => ∃ j : Nat, y = ((j + 1 : Nat) : Int) ∧ j ≤ 200 ∧ k + j = 200 ∧ (∀ d, d ≠ 20 → d ≠ 21 → d ≠ 22 → d ≠ 58 → d ≠ 59 → s d = σ d) ∧ s 58 2 = -1 ∧ NightC s 20 (st b r j) ∧ (∀ i : Nat, i ≤ j → s 59 i = cd b r i) ∧ (∀ i i' : Nat, i < i' → i' ≤ j → cd b r i ≠ cd b r i'), ?_, 200, 0, rfl, by omega, rfl, fun d g0 g1 g2 g3 g4 => by rw [up2_c g4, ft d g0 g1 g2, up2_c g3, up2_c g3], by rw [up2_c (by decide), ft 58 (by decide) (by decide) (by decide), up2_n (by decide), up2_s], ?_, ?_, fun i i' h0 h1 => by omega⟩
  · rintro k y s ⟨j, rfl, j1, j2, j3, j4, j5, j6, j7⟩
    have hmul : j * L ≤ 200 * 8 := Nat.mul_le_mul j1 (by omega)
    refine ⟨inR_s (by omega) (by omega), fun h => hq s (-1) 0 (Or.inr ⟨rfl, fun i i' h0 h1 => j7 i i' h0 (by omega)⟩) j3 j4 (fun z => absurd rfl z), fun h => ?_⟩
    refine ⟨fun k' y3 s' => ∃ l : Nat, y3 = (l : Int) ∧ l ≤ L ∧ k' + l = L ∧ (∀ d, d ≠ 20 → d ≠ 21 → d ≠ 22 → s' d = s d) ∧ NightC s' 20 (itL b r (j * L + l)), ?_, L, 0, rfl, by omega, rfl, fun _ _ _ _ => rfl, by rw [Nat.add_zero, ← hst]; exact j5⟩
    rintro k' y3 s' ⟨l, rfl, l1, l2, l3, l4⟩
    have bs' : BedC s' b := bc.keep (fun d g0 g1 => by rw [l3 d (by omega) (by omega) (by omega)]; exact j3 d (by omega) (by omega) (by omega) (by omega) (by omega))
    have h0l := itL_0 b r (j * L + l)
    rw [bs'.2.2.2.1, eL]
    refine ⟨inR_s (by omega) (by omega), inR_s (by omega) (by omega), fun h1 => ?_, fun h1 => ?_⟩
    · have e : j * L + l = (j + 1) * L := by rw [Nat.add_mul, Nat.one_mul]; omega
      rw [e, ← hst] at l4
      have kj : NightOk b (st b r (j + 1)) := by rw [hst]; exact itL_ok ok nk _
      refine c_code l4 ok kj ⟨by omega, ?_⟩
      rintro s15 rfl
      rw [show (((j + 1 : Nat) : Int)).toNat = j + 1 by omega]
      have c59 : ∀ i : Nat, i ≤ j + 1 → up2 s' 59 (j + 1) (codeN (st b r (j + 1)) 6) 59 i = cd b r i := by
        intro i hi
        rw [up2_e]
        by_cases c : i = j + 1
        · rw [if_pos c, c]; rfl
        · rw [if_neg c, l3 59 (by decide) (by decide) (by decide)]; exact j6 i (by omega)
      have f15 : ∀ d, d ≠ 20 → d ≠ 21 → d ≠ 22 → d ≠ 58 → d ≠ 59 → up2 s' 59 (j + 1) (codeN (st b r (j + 1)) 6) d = σ d := fun d g0 g1 g2 g3 g4 => by rw [up2_c g4, l3 d g0 g1 g2]; exact j3 d g0 g1 g2 g3 g4
      have n15 : NightC (up2 s' 59 (j + 1) (codeN (st b r (j + 1)) 6)) 20 (st b r (j + 1)) := l4.keep (up2_c (by decide)) (up2_c (by decide)) (up2_c (by decide))
      have e58 : up2 s' 59 (j + 1) (codeN (st b r (j + 1)) 6) 58 2 = -1 := by rw [up2_c (by decide), l3 58 (by decide) (by decide) (by decide)]; exact j4
      generalize up2 s' 59 (j + 1) (codeN (st b r (j + 1)) 6) = s15 at *
      have cin : ∀ i : Nat, inL (cd b r i) := fun i => by
        have := codeN_lt (r := st b r i) ok (by rw [hst]; exact itL_ok ok nk _) 6 (by omega)
        unfold cd inL
        omega
      unfold wp_X8_likeBefore
      refine ⟨fun k y => ∃ i : Nat, y = (i : Int) ∧ i ≤ j + 1 ∧ k + i = j + 1 ∧ ∀ i' : Nat, i' < i → cd b r i' ≠ cd b r (j + 1), ?_, j + 1, 0, rfl, by omega, rfl, fun i' hi => by omega⟩
      rintro k2 y ⟨i, rfl, i1, i2, i3⟩
      rw [show (i : Int).toNat = i by omega, show (((j + 1 : Nat) : Int)).toNat = j + 1 by omega, c59 i i1, c59 (j + 1) (Nat.le_refl _)]
      refine ⟨inR_s (by omega) (by omega), inR_s (by omega) (by omega), fun h2 => ⟨inR_s (by omega) (by omega), fun _ => ?_, fun z => absurd rfl z⟩, fun h2 => ⟨by omega, by omega, cin _, cin _, fun h3 => ⟨inR_s (by omega) (by omega), fun z => by omega, fun _ => ?_⟩, fun h3 => ?_⟩⟩
      · rintro x2 rfl
        refine ⟨k - 1, by omega, j + 1, by omega, by omega, by omega, f15, e58, n15, c59, fun a a' h0 h1' => ?_⟩
        by_cases ca : a' = j + 1
        · rw [ca]; exact i3 a (by omega)
        · exact j7 a a' h0 (by omega)
      · rintro s20 rfl s21 rfl
        refine hq _ _ i (Or.inl ⟨j + 1, by omega, by omega, rfl, h3, fun a a' h0 h1' => j7 a a' h0 (by omega)⟩) (fun d g0 g1 g2 g3 g4 => by rw [up2_c g3, up2_c g3]; exact f15 d g0 g1 g2 g3 g4) up2_s (fun _ => by rw [up2_n (by decide), up2_s])
      · rintro x2 rfl
        refine ⟨k2 - 1, by omega, i + 1, by omega, by omega, by omega, fun i' hi => ?_⟩
        by_cases c : i' = i
        · rw [c]; exact h3
        · exact i3 i' (by omega)
    · refine c_passByLaw isN_20 bs' l4 ok (itL_ok ok nk _) ⟨inR_s (by omega) (by omega), by omega⟩ (fun u nu fu => ?_)
      rintro x3 rfl
      exact ⟨k' - 1, by omega, l + 1, by omega, by omega, by omega, fun d g0 g1 g2 => by rw [fu d g0 g1 g2]; exact l3 d g0 g1 g2, nu⟩
  · rw [hst, Nat.zero_mul]
    exact nt.keep (up2_c (by decide)) (up2_c (by decide)) (up2_c (by decide))
  · intro i hi
    rw [show i = 0 by omega, up2_s]
    unfold cd
    rw [hst, Nat.zero_mul]
    rfl
theorem c_hours {σ : Mem} {b r : Nat → Int} {a : Int} {Q : Int → Mem → Prop} (bc : BedC σ b) (nc : NightC σ 17 r) (ok : BedOk b) (nk : NightOk b r) (hk : hrsOk r) (h2 : 2 ≤ b 0) (ha : inR a) {j n : Nat} (hj : j ≤ 200) (hn : n ≤ 200) (e3 : σ 58 3 = (j : Int)) (e2 : σ 58 2 = (n : Int))
    (hq : ∀ u : Mem, (∀ d, d ≠ 20 → d ≠ 21 → d ≠ 22 → u d = σ d) → Q (cntL b (st b r j) (hot b) a (n * (b 3).toNat)) u) : wp_X8_hoursInWarmest 17 a σ Q := by
  have hl := ok.2.2.2.1
  have hb := ok.n6
  unfold hrsOk at hk
  generalize hL : (b 3).toNat = L at hq
  have eL : b 3 = (L : Int) := by omega
  have hst : st b r j = itL b r (j * L) := by unfold st; rw [hL]
  have hm1 : j * L ≤ 200 * 8 := Nat.mul_le_mul hj (by omega)
  have hm2 : n * L ≤ 200 * 8 := Nat.mul_le_mul hn (by omega)
  have hh := hot_in h2
  unfold wp_X8_hoursInWarmest
  refine c_warmest bc ok h2 ?_
  rw [bc.2.2.2.1, eL]
  rintro x4 rfl
  refine c_become isN_20 isN_17 nc (fun t nt ft => ?_)
  refine ⟨fun k y s => ∃ i : Nat, y = (i : Int) ∧ i ≤ j * L ∧ k + i = j * L ∧ (∀ d, d ≠ 20 → d ≠ 21 → d ≠ 22 → s d = σ d) ∧ NightC s 20 (itL b r i), ?_, j * L, 0, rfl, by omega, rfl, ft, nt⟩
  rintro k y s ⟨i, rfl, i1, i2, i3, i4⟩
  have ec : (j : Int) * (L : Int) = ((j * L : Nat) : Int) := (Int.natCast_mul _ _).symm
  have ec2 : (n : Int) * (L : Int) = ((n * L : Nat) : Int) := (Int.natCast_mul _ _).symm
  generalize hJ : j * L = J at *
  generalize hNN : n * L = M at *
  rw [i3 58 (by decide) (by decide) (by decide), e3, ec]
  have h0i := itL_0 b r i
  refine ⟨inR_s (by omega) (by omega), inR_s (by omega) (by omega), fun h => ?_, fun h => ?_⟩
  · have ei : i = J := by omega
    rw [ei, ← hst] at i4
    have kj : NightOk b (st b r j) := by rw [hst]; exact itL_ok ok nk _
    have j0 : st b r j 0 = r 0 + (J : Int) := by rw [hst]; exact itL_0 b r J
    refine ⟨fun k' y5 y6 s' => ∃ l : Nat, y6 = (l : Int) ∧ l ≤ M ∧ k' + l = M ∧ y5 = cntL b (st b r j) (hot b) a l ∧ (∀ d, d ≠ 20 → d ≠ 21 → d ≠ 22 → s' d = σ d) ∧ NightC s' 20 (itL b (st b r j) l), ?_, M, 0, rfl, by omega, rfl, rfl, i3, i4⟩
    rintro k' y5 y6 s' ⟨l, rfl, l1, l2, rfl, l3, l4⟩
    have h0l := itL_0 b (st b r j) l
    have kl := itL_ok ok kj l
    rw [l3 58 (by decide) (by decide) (by decide), e2, ec2]
    refine ⟨inR_s (by omega) (by omega), inR_s (by omega) (by omega), fun h1 => ?_, fun h1 => ?_⟩
    · rw [show l = M by omega]
      exact hq s' l3
    · refine c_passByLaw isN_20 (bc.keep (fun d g0 g1 => l3 d (by omega) (by omega) (by omega))) l4 ok kl ⟨inR_s (by omega) (by omega), by omega⟩ (fun u nu fu => ⟨by omega, ?_⟩)
      have nu' : NightC u 20 (itL b (st b r j) (l + 1)) := nu
      have eh : u 21 (hot b).toNat = whoOf (itL b (st b r j) (l + 1)) (hot b) := (nu'.2 (hot b) hh.1 (by omega)).1
      have hwr := ((itL_ok ok kj (l + 1)).1 (hot b) hh.1 (by omega)).1
      have h6 := ok.s6
      rw [eh]
      refine ⟨inR_s (by omega) (by omega), ha, fun y5 => y5 = cntL b (st b r j) (hot b) a (l + 1), ?_, fun c => ?_, fun c => ?_⟩
      · rintro y5 rfl x6 rfl
        exact ⟨k' - 1, by omega, l + 1, by omega, by omega, by omega, rfl, fun d g0 g1 g2 => by rw [fu d g0 g1 g2]; exact l3 d g0 g1 g2, nu'⟩
      · rintro x5 rfl
        rw [cntL, if_pos c]
      · rw [cntL, if_neg c, Int.add_zero]
  · refine c_passByLaw isN_20 (bc.keep (fun d g0 g1 => i3 d (by omega) (by omega) (by omega))) i4 ok (itL_ok ok nk i) ⟨inR_s (by omega) (by omega), by omega⟩ (fun u nu fu => ?_)
    rintro x5 rfl
    exact ⟨k - 1, by omega, i + 1, by omega, by omega, by omega, fun d g0 g1 g2 => by rw [fu d g0 g1 g2]; exact i3 d g0 g1 g2, nu⟩
