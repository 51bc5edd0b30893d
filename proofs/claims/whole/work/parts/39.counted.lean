/-! what was seen -/
def dst (b : Nat → Int) (w p : Int) : Int :=
  if w = 1 then (if p = b 0 - 1 then 0 else p + 1)
  else if w = 2 then (if p = 0 then b 0 - 1 else p - 1)
  else if w = 3 then (if p = 0 then b 0 - 1 else if p = b 0 - 1 then 0 else p)
  else p
theorem dst_in {b : Nat → Int} {w p : Int} (h0 : 0 ≤ p) (h1 : p < b 0) : (0 ≤ dst b w p ∧ dst b w p < b 0) ∧ src b w (dst b w p) = p := by
  unfold dst src
  by_cases w1 : w = 1
  · rw [if_pos w1, if_pos w1]
    by_cases c : p = b 0 - 1
    · rw [if_pos c, if_pos rfl]; omega
    · rw [if_neg c, if_neg (by omega)]; omega
  · rw [if_neg w1, if_neg w1]
    by_cases w2 : w = 2
    · rw [if_pos w2, if_pos w2]
      by_cases c : p = 0
      · rw [if_pos c, if_pos rfl]; omega
      · rw [if_neg c, if_neg (by omega)]; omega
    · rw [if_neg w2, if_neg w2]
      by_cases w3 : w = 3
      · rw [if_pos w3, if_pos w3]
        by_cases c : p = 0
        · rw [if_pos c]
          by_cases c2 : b 0 - 1 = 0
          · rw [if_pos c2]; omega
          · rw [if_neg c2, if_pos rfl]; omega
        · rw [if_neg c]
          by_cases c2 : p = b 0 - 1
          · rw [if_pos c2, if_pos rfl]; omega
          · rw [if_neg c2, if_neg c, if_neg c2]; omega
      · rw [if_neg w3, if_neg w3]; omega
theorem pl_turn {b r : Nat → Int} (ok : BedOk b) (nk : NightOk b r) {w s : Int} (hs : s ≠ -1) : plOf b (turnsR b r w) s = if plOf b r s = -1 then -1 else dst b w (plOf b r s) := by
  have hn := ok.n6
  symm
  refine IsPl.uniq ok (nk.turns ok w) hs ?_
  rcases plOf_spec (b := b) (r := r) hn.1 s with ⟨g1, g2, g3⟩ | ⟨g1, g2⟩
  · have hd := dst_in (w := w) g1 g2
    rw [if_neg (by omega)]
    refine Or.inl ⟨hd.1.1, hd.1.2, ?_⟩
    rw [whoOf_turnsR hd.1.1, if_pos hd.1.2, tw_src, hd.2, g3]
  · rw [if_pos g1]
    refine Or.inr ⟨rfl, fun p p0 p1 => ?_⟩
    have := src_in (w := w) p0 p1
    rw [whoOf_turnsR p0, if_pos p1, tw_src]
    exact g2 _ this.1 this.2
theorem pl_who {b r : Nat → Int} (ok : BedOk b) (nk : NightOk b r) {s q : Int} (hs : s ≠ -1) (h0 : 0 ≤ q) (h1 : q < b 0) : plOf b r s = q ↔ whoOf r q = s := by
  have hn := ok.n6
  constructor
  · intro h
    rcases plOf_spec (b := b) (r := r) hn.1 s with ⟨g1, g2, g3⟩ | ⟨g1, g2⟩
    · rw [← h]; exact g3
    · omega
  · intro h
    exact (IsPl.uniq ok nk hs (Or.inl ⟨h0, h1, h⟩)).symm
def itT (b : Nat → Int) (ws : Nat → Int) (r : Nat → Int) : Nat → Nat → Int
  | 0 => r
  | n + 1 => turnsR b (itT b ws r n) (ws n)
theorem itT_ok {b ws r : Nat → Int} (ok : BedOk b) (nk : NightOk b r) : ∀ n : Nat, NightOk b (itT b ws r n)
  | 0 => nk
  | n + 1 => (itT_ok ok nk n).turns ok _
theorem itT_hi {b ws r : Nat → Int} (ok : BedOk b) : ∀ (n : Nat) {j : Nat}, 13 ≤ j → itT b ws r n j = r j
  | 0, _, _ => rfl
  | n + 1, j, h => by
    have hn := ok.n6
    show turnsR b (itT b ws r n) (ws n) j = _
    unfold turnsR
    rw [if_neg (by omega)]
    exact itT_hi ok n h
theorem itT_no {b ws r : Nat → Int} (ok : BedOk b) (nk : NightOk b r) {s : Int} (hs : s ≠ -1) (h : plOf b r s = -1) : ∀ n : Nat, plOf b (itT b ws r n) s = -1
  | 0 => h
  | n + 1 => by
    show plOf b (turnsR b (itT b ws r n) (ws n)) s = -1
    rw [pl_turn ok (itT_ok ok nk n) hs, if_pos (itT_no ok nk hs h n)]
theorem itT_yes {b ws r : Nat → Int} (ok : BedOk b) (nk : NightOk b r) {s : Int} (hs : s ≠ -1) (h : plOf b r s ≠ -1) : ∀ n : Nat, 0 ≤ plOf b (itT b ws r n) s ∧ plOf b (itT b ws r n) s < b 0
  | 0 => by
    rcases plOf_spec (b := b) (r := r) ok.n6.1 s with ⟨g1, g2, g3⟩ | ⟨g1, g2⟩
    · exact ⟨g1, g2⟩
    · exact absurd g1 h
  | n + 1 => by
    have ih := itT_yes (ws := ws) ok nk hs h n
    show 0 ≤ plOf b (turnsR b (itT b ws r n) (ws n)) s ∧ plOf b (turnsR b (itT b ws r n) (ws n)) s < b 0
    rw [pl_turn ok (itT_ok ok nk n) hs, if_neg (by omega)]
    exact (dst_in ih.1 ih.2).1
def mkN (ws : Nat → Int) : Nat → Int
  | 0 => 0
  | n + 1 => zor (mkN ws n) (zshl 1 (ws n))
theorem mk_tab : ∀ (a : Fin 16) (w : Fin 4), 0 ≤ zor (a.val : Int) (zshl 1 (w.val : Int)) ∧ zor (a.val : Int) (zshl 1 (w.val : Int)) ≤ 15 := by decide +kernel
theorem an_tab : ∀ a b : Fin 16, (0 ≤ zand (a.val : Int) (b.val : Int) ∧ zand (a.val : Int) (b.val : Int) ≤ 15) ∧ zand 15 (b.val : Int) = (b.val : Int) ∧ zand (a.val : Int) 15 = (a.val : Int) := by decide +kernel
theorem an_in {a b : Int} (h0 : 0 ≤ a) (h1 : a ≤ 15) (g0 : 0 ≤ b) (g1 : b ≤ 15) : (0 ≤ zand a b ∧ zand a b ≤ 15) ∧ zand 15 b = b ∧ zand a 15 = a := by
  have T := an_tab ⟨a.toNat, by omega⟩ ⟨b.toNat, by omega⟩
  simp only [Int.toNat_of_nonneg h0, Int.toNat_of_nonneg g0] at T
  exact T
theorem mkN_in {ws : Nat → Int} (h : ∀ k, 0 ≤ ws k ∧ ws k ≤ 3) : ∀ n : Nat, 0 ≤ mkN ws n ∧ mkN ws n ≤ 15
  | 0 => by unfold mkN; omega
  | n + 1 => by
    have ih := mkN_in h n
    have hw := h n
    have T := mk_tab ⟨(mkN ws n).toNat, by omega⟩ ⟨(ws n).toNat, by omega⟩
    simp only [Int.toNat_of_nonneg ih.1, Int.toNat_of_nonneg hw.1] at T
    exact T
def fitN (G : Nat → Bool) : Nat → Bool
  | 0 => true
  | k + 1 => fitN G k && G k
theorem fitN_no {G : Nat → Bool} {i : Nat} (h : G i = false) : ∀ n : Nat, i < n → fitN G n = false
  | 0, h0 => by omega
  | n + 1, h0 => by
    unfold fitN
    by_cases e : i = n
    · rw [← e, h, Bool.and_false]
    · rw [fitN_no h n (by omega), Bool.false_and]
def seenG (b r ws : Nat → Int) (n : Nat) (A C : Nat → Int) : Nat → Bool := fun k => decide (whoOf (itT b ws r n) (C k) = A k)
def cnF (Fi : Nat → Bool) (mk : Nat → Int) : Nat → Int × Int × Int
  | 0 => (0, 0, 15)
  | k + 1 => if Fi k = true then ((cnF Fi mk k).1 + 1, (if (cnF Fi mk k).1 = 0 then (k : Int) else (cnF Fi mk k).2.1), zand (cnF Fi mk k).2.2 (mk k)) else cnF Fi mk k
theorem cnF_in {Fi : Nat → Bool} {mk : Nat → Int} (h : ∀ k, 0 ≤ mk k ∧ mk k ≤ 15) : ∀ k : Nat, (0 ≤ (cnF Fi mk k).1 ∧ (cnF Fi mk k).1 ≤ (k : Int)) ∧ (0 ≤ (cnF Fi mk k).2.1 ∧ (cnF Fi mk k).2.1 ≤ (k : Int)) ∧ ((cnF Fi mk k).1 ≠ 0 → (cnF Fi mk k).2.1 < (k : Int)) ∧ (0 ≤ (cnF Fi mk k).2.2 ∧ (cnF Fi mk k).2.2 ≤ 15) ∧ ((cnF Fi mk k).1 = 0 → (cnF Fi mk k).2.2 = 15)
  | 0 => by unfold cnF; dsimp only; omega
  | k + 1 => by
    have ih := cnF_in (Fi := Fi) h k
    have hm := h k
    have ha := an_in ih.2.2.2.1.1 ih.2.2.2.1.2 hm.1 hm.2
    unfold cnF
    by_cases c : Fi k = true
    · rw [if_pos c]
      dsimp only
      refine ⟨by omega, ?_, ?_, ha.1, by omega⟩
      · split <;> omega
      · intro _; split <;> omega
    · rw [if_neg c]
      refine ⟨by omega, by omega, fun _ => by omega, ih.2.2.2.1, ih.2.2.2.2⟩
theorem c_turned {p w : Int} {σ : Mem} {b : Nat → Int} {Q : Int → Prop} (bc : BedC σ b) (ok : BedOk b) (hp : 0 ≤ p ∧ p < b 0) (hw : inR w) (hq : Q (dst b w p)) : wp_X0_turned p w σ Q := by
  have hn := ok.n6
  unfold wp_X0_turned
  rw [bc.1]
  unfold dst at hq
  have hr : inR p := inR_s (by omega) (by omega)
  have hr2 : inR (b 0 - 1) := inR_s (by omega) (by omega)
  rintro x3 rfl
  refine ⟨hw, fun c => ⟨hr, hr2, fun c2 => ?_, fun c2 => ?_⟩, fun c => ⟨hr, fun c2 => ?_, fun c2 => ?_⟩, fun c => ⟨hr, fun c2 => ?_, fun c2 => ⟨hr2, fun c3 => ?_, fun c3 => ?_⟩⟩, fun c => ?_⟩
  · rw [if_pos c, if_pos c2] at hq; exact hq
  · rw [if_pos c, if_neg c2] at hq; exact hq
  · rw [if_neg (by omega), if_pos c, if_pos c2] at hq; exact hq
  · rw [if_neg (by omega), if_pos c, if_neg c2] at hq; exact hq
  · rw [if_neg (by omega), if_neg (by omega), if_pos c, if_pos c2] at hq; exact hq
  · rw [if_neg (by omega), if_neg (by omega), if_pos c, if_neg c2, if_pos c3] at hq; exact hq
  · rw [if_neg (by omega), if_neg (by omega), if_pos c, if_neg c2, if_neg c3] at hq; exact hq
  · rw [if_neg (by omega), if_neg (by omega), if_neg (by omega)] at hq; exact hq
theorem c_fits {p n sn : Nat} {σ : Mem} {b r A C : Nat → Int} {Q : Int → Prop} (bc : BedC σ b) (nc : NightC σ 17 r) (ok : BedOk b) (nk : NightOk b r) (hn : n ≤ 5) (hp : p < 1024) (hsn : sn ≤ 6) (e2 : σ 60 2 = (sn : Int)) (hA : ∀ k : Nat, k < sn → σ 61 k = A k ∧ (0 ≤ A k ∧ A k < 6)) (hC : ∀ k : Nat, k < sn → σ 62 k = C k ∧ (0 ≤ C k ∧ C k < b 0))
    (hq : Q (if fitN (seenG b r (wq n p) n A C) sn = true then 1 else 0)) : wp_X9_fits 17 (p : Int) (n : Int) σ Q := by
  have hb := ok.n6
  unfold wp_X9_fits
  rw [e2]
  refine ⟨fun k y => ∃ i : Nat, y = (i : Int) ∧ i ≤ sn ∧ k + i = sn ∧ fitN (seenG b r (wq n p) n A C) i = true, ?_, sn, 0, rfl, by omega, rfl, rfl⟩
  rintro k y ⟨i, rfl, i1, i2, i3⟩
  refine ⟨inR_s (by omega) (by omega), inR_s (by omega) (by omega), fun h => ?_, fun h => ⟨by omega, ?_⟩⟩
  · rw [show sn = i by omega, if_pos i3] at hq; exact hq
  · rw [show (i : Int).toNat = i by omega]
    obtain ⟨a1, a2, a3⟩ := hA i (by omega)
    obtain ⟨c1, c2, c3⟩ := hC i (by omega)
    have hs : A i ≠ -1 := by omega
    have no : seenG b r (wq n p) n A C i = false → Q 0 := fun hg => by
      rw [fitN_no hg sn (by omega)] at hq; exact hq
    rw [a1, c1]
    refine c_placeOf bc nc ok nk (inR_s (by omega) (by omega)) hs ?_
    have hpl := plOf_spec (b := b) (r := r) hb.1 (A i)
    refine ⟨by rcases hpl with g | g <;> exact inR_s (by omega) (by omega), fun g => ?_, fun g => ?_⟩
    · refine no (decide_eq_false (fun q => ?_))
      have := (pl_who ok (itT_ok (ws := wq n p) ok nk n) hs c2 c3).mpr q
      rw [itT_no ok nk hs g n] at this
      omega
    · refine ⟨fun k' y5 y6 => ∃ j : Nat, y6 = (j : Int) ∧ j ≤ n ∧ k' + j = n ∧ y5 = plOf b (itT b (wq n p) r j) (A i), ?_, n, 0, rfl, by omega, rfl, rfl⟩
      rintro k' y5 y6 ⟨j, rfl, j1, j2, rfl⟩
      have hy := itT_yes (ws := wq n p) ok nk hs g j
      refine ⟨inR_s (by omega) (by omega), inR_s (by omega) (by omega), fun h1 => ⟨inR_s (by omega) (by omega), inR_s (by omega) (by omega), fun h2 => ?_, fun h2 => ?_⟩, fun h1 => ?_⟩
      · rintro x4 rfl
        refine ⟨k - 1, by omega, i + 1, by omega, by omega, by omega, ?_⟩
        unfold fitN
        rw [i3, Bool.true_and]
        rw [show j = n by omega] at h2
        exact decide_eq_true ((pl_who ok (itT_ok (ws := wq n p) ok nk n) hs c2 c3).mp h2)
      · refine no (decide_eq_false (fun q => h2 ?_))
        rw [show j = n by omega]
        exact (pl_who ok (itT_ok (ws := wq n p) ok nk n) hs c2 c3).mpr q
      · unfold wp_X11_wordOf
        have ew : zand (zshr (p : Int) (2 * (((n : Int) - 1) - (j : Int)))) 3 = wq n p j := wd_wq hp hn (by omega)
        have hw := wq_in n p j
        rw [ew]
        refine c_turned bc ok hy (inR_s (by omega) (by omega)) ?_
        rintro x6 rfl
        refine ⟨k' - 1, by omega, j + 1, by omega, by omega, by omega, ?_⟩
        show _ = plOf b (turnsR b (itT b (wq n p) r j) (wq n p j)) (A i)
        rw [pl_turn ok (itT_ok ok nk j) hs, if_neg (by omega)]
theorem c_wordsIn {p n : Nat} {σ : Mem} {Q : Int → Prop} (hn : n ≤ 5) (hp : p < 1024) (hq : Q (mkN (wq n p) n)) : wp_X9_wordsIn (p : Int) (n : Int) σ Q := by
  unfold wp_X9_wordsIn
  refine ⟨fun k y z => ∃ j : Nat, z = (j : Int) ∧ j ≤ n ∧ k + j = n ∧ y = mkN (wq n p) j, ?_, n, 0, rfl, by omega, rfl, rfl⟩
  rintro k y z ⟨j, rfl, j1, j2, rfl⟩
  refine ⟨inR_s (by omega) (by omega), inR_s (by omega) (by omega), fun h => ?_, fun h => ?_⟩
  · rw [show j = n by omega]; exact hq
  · unfold wp_X11_wordOf
    have ew : zand (zshr (p : Int) (2 * (((n : Int) - 1) - (j : Int)))) 3 = wq n p j := wd_wq hp hn (by omega)
    rw [ew]
    rintro x2 rfl x3 rfl
    exact ⟨k - 1, by omega, j + 1, by omega, by omega, by omega, rfl⟩
def fitQ (b r : Nat → Int) (n sn : Nat) (A C : Nat → Int) : Nat → Bool := fun p => fitN (seenG b r (wq n p) n A C) sn
def mkQ (n : Nat) : Nat → Int := fun p => mkN (wq n p) n
theorem mkQ_in (n : Nat) (p : Nat) : 0 ≤ mkQ n p ∧ mkQ n p ≤ 15 := mkN_in (wq_in n p) n
theorem c_seekSeen {n sn : Nat} {σ : Mem} {b r A C : Nat → Int} {Q : Mem → Prop} (bc : BedC σ b) (nc : NightC σ 17 r) (ok : BedOk b) (nk : NightOk b r) (hn : n ≤ 5) (hsn : sn ≤ 6) (e2 : σ 60 2 = (sn : Int)) (hA : ∀ k : Nat, k < sn → σ 61 k = A k ∧ (0 ≤ A k ∧ A k < 6)) (hC : ∀ k : Nat, k < sn → σ 62 k = C k ∧ (0 ≤ C k ∧ C k < b 0))
    (hq : ∀ u : Mem, (∀ d, d ≠ 60 → u d = σ d) → u 60 2 = σ 60 2 → u 60 3 = (cnF (fitQ b r n sn A C) (mkQ n) (4 ^ n)).1 → u 60 4 = (cnF (fitQ b r n sn A C) (mkQ n) (4 ^ n)).2.1 → u 60 5 = (if (cnF (fitQ b r n sn A C) (mkQ n) (4 ^ n)).1 = 0 then 0 else (cnF (fitQ b r n sn A C) (mkQ n) (4 ^ n)).2.2) → Q u) : wp_X9_seek 17 (n : Int) σ Q := by
  unfold wp_X9_seek
  have hp := pw4_le hn
  have ep : zshl 1 (2 * (n : Int)) = ((4 ^ n : Nat) : Int) := pw4_val ⟨n, by omega⟩
  generalize 4 ^ n = M at hp ep hq
  rw [ep]
  rintro s1 rfl s2 rfl s3 rfl
  generalize hF : fitQ b r n sn A C = Fi at hq
  refine ⟨fun k y s => ∃ j : Nat, y = (j : Int) ∧ j ≤ M ∧ k + j = M ∧ (∀ d, d ≠ 60 → s d = σ d) ∧ s 60 2 = σ 60 2 ∧ s 60 3 = (cnF Fi (mkQ n) j).1 ∧ s 60 4 = (cnF Fi (mkQ n) j).2.1 ∧ s 60 5 = (if (cnF Fi (mkQ n) j).1 = 0 then 0 else (cnF Fi (mkQ n) j).2.2), ?_, M, 0, rfl, by omega, rfl, fun d hd => by rw [up2_c hd, up2_c hd, up2_c hd], by rw [up2_n (by decide), up2_n (by decide), up2_n (by decide)], by rw [up2_n (by decide), up2_n (by decide), up2_s]; rfl, by rw [up2_n (by decide), up2_s]; rfl, by rw [up2_s]; rfl⟩
  rintro k y s ⟨j, rfl, j1, j2, j3, j4, j5, j6, j7⟩
  have hc := cnF_in (Fi := Fi) (mkQ_in n) j
  refine ⟨inR_s (by omega) (by omega), inR_s (by omega) (by omega), fun h => ?_, fun h => ?_⟩
  · have e : j = M := by omega
    rw [e] at j5 j6 j7
    exact hq s j3 j4 j5 j6 j7
  · refine c_fits (A := A) (C := C) (sn := sn) (b := b) (r := r) (bc.keep (fun d g0 g1 => j3 d (by omega))) (nc.keep (j3 _ (by decide)) (j3 _ (by decide)) (j3 _ (by decide))) ok nk hn (by omega) hsn (by rw [j4]; exact e2) (fun k hk => by rw [j3 61 (by decide)]; exact hA k hk) (fun k hk => by rw [j3 62 (by decide)]; exact hC k hk) ?_
    have eF : fitN (seenG b r (wq n j) n A C) sn = Fi j := by rw [← hF]; rfl
    rw [eF]
    refine ⟨by split <;> exact inR_s (by omega) (by omega), fun s10 => (∀ d, d ≠ 60 → s10 d = σ d) ∧ s10 60 2 = σ 60 2 ∧ s10 60 3 = (cnF Fi (mkQ n) (j + 1)).1 ∧ s10 60 4 = (cnF Fi (mkQ n) (j + 1)).2.1 ∧ s10 60 5 = (if (cnF Fi (mkQ n) (j + 1)).1 = 0 then 0 else (cnF Fi (mkQ n) (j + 1)).2.2), ?_, fun h1 => ?_, fun h1 => ?_⟩
    · rintro s10 ⟨x1, x2, x3, x4, x5⟩ x rfl
      exact ⟨k - 1, by omega, j + 1, by omega, by omega, by omega, x1, x2, x3, x4, x5⟩
    · have hf : ¬ Fi j = true := fun q => by rw [if_pos q] at h1; omega
      rw [cnF, if_neg hf]
      exact ⟨j3, j4, j5, j6, j7⟩
    · have hf : Fi j = true := by
        by_cases q : Fi j = true
        · exact q
        · rw [if_neg q] at h1; exact absurd rfl h1
      refine c_wordsIn hn (by omega) ⟨by rw [j5]; exact inR_s (by omega) (by omega), ?_⟩
      have em : mkN (wq n j) n = mkQ n j := rfl
      have hm := mkQ_in n j
      rw [em]
      rintro v15 rfl s16 rfl
      rw [up2_n (show (3 : Nat) ≠ 4 by decide), up2_n (show (5 : Nat) ≠ 4 by decide), j5, j6, j7]
      refine ⟨inR_s (by omega) (by omega), ?_⟩
      rintro v18 rfl s19 rfl s20 rfl
      rw [up2_n (show (3 : Nat) ≠ 5 by decide), up2_n (show (3 : Nat) ≠ 4 by decide), j5, cnF, if_pos hf]
      dsimp only
      refine ⟨fun d hd => by rw [up2_c hd, up2_c hd, up2_c hd]; exact j3 d hd, by rw [up2_n (by decide), up2_n (by decide), up2_n (by decide)]; exact j4, up2_s, by rw [up2_n (by decide), up2_n (by decide), up2_s], ?_⟩
      rw [up2_n (by decide), up2_s, if_neg (show ¬ (cnF Fi (mkQ n) j).1 + 1 = 0 by omega)]
      by_cases c0 : (cnF Fi (mkQ n) j).1 = 0
      · rw [if_pos c0, hc.2.2.2.2 c0, (an_in (a := 0) (by omega) (by omega) hm.1 hm.2).2.1]
      · rw [if_neg c0, if_neg c0]
