/-! the best turns -/
def wq (n p : Nat) : Nat → Int := fun k => ((p / 4 ^ (n - 1 - k) % 4 : Nat) : Int)
theorem wq_in (n p k : Nat) : 0 ≤ wq n p k ∧ wq n p k ≤ 3 := by
  unfold wq
  have := Nat.mod_lt (p / 4 ^ (n - 1 - k)) (show 0 < 4 by decide)
  omega
theorem wq_same {n d p p' : Nat} (hd : d ≤ n) (h : p / 4 ^ (n - d) = p' / 4 ^ (n - d)) {k : Nat} (hk : k < d) : wq n p k = wq n p' k := by
  unfold wq
  have e : n - 1 - k = (n - d) + (d - 1 - k) := by omega
  rw [e, Nat.pow_add, ← Nat.div_div_eq_div_mul, ← Nat.div_div_eq_div_mul, h]
theorem wd_tab : ∀ (p : Fin 1024) (m : Fin 5), zand (zshr (p.val : Int) (2 * (m.val : Int))) 3 = ((p.val / 4 ^ m.val % 4 : Nat) : Int) := by decide +kernel
theorem wd_wq {p n k : Nat} (h : p < 1024) (hn : n ≤ 5) (hk : k < n) : wd (p : Int) (n : Int) (k : Int) = wq n p k := by
  have T := wd_tab ⟨p, h⟩ ⟨n - 1 - k, by omega⟩
  unfold wd wq
  rw [show (2 * ((n : Int) - 1 - (k : Int))) = 2 * ((n - 1 - k : Nat) : Int) by omega]
  exact T
theorem wsf_wq {p n k : Nat} (h : p < 1024) (hn : n ≤ 5) (hk : k < n) : wsf (p : Int) (n : Int) k = wq n p k := by
  unfold wsf
  rw [Int.emod_eq_of_lt (by omega) (by omega)]
  exact wd_wq h hn hk
theorem pw4_val : ∀ w : Fin 6, zshl 1 (2 * (w.val : Int)) = ((4 ^ w.val : Nat) : Int) := by decide +kernel
theorem pw4_le {n : Nat} (h : n ≤ 5) : 1 ≤ 4 ^ n ∧ 4 ^ n ≤ 1024 := by
  have h1 : 4 ^ n ≤ 4 ^ 5 := Nat.pow_le_pow_right (by decide) h
  have h2 : (4 : Nat) ^ 5 = 1024 := by decide
  have h3 : 0 < 4 ^ n := Nat.pow_pos (by decide)
  omega
theorem itB_congr {b r ws ws' : Nat → Int} : ∀ m : Nat, (∀ k : Nat, k < m → ws k = ws' k) → itB b ws r m = itB b ws' r m
  | 0, _ => rfl
  | m + 1, h => by
    show goesR b (itB b ws r m) (ws m) = goesR b (itB b ws' r m) (ws' m)
    rw [itB_congr m (fun k hk => h k (by omega)), h m (by omega)]
def okN (b ws r : Nat → Int) : Nat → Bool
  | 0 => true
  | i + 1 => okN b ws r i && decide (awV b (itB b ws r (i + 1)) = 0)
theorem okN_iff {b ws r : Nat → Int} : ∀ n : Nat, okN b ws r n = true ↔ ∀ k : Nat, k < n → awV b (itB b ws r (k + 1)) = 0
  | 0 => ⟨fun _ k hk => by omega, fun _ => rfl⟩
  | n + 1 => by
    have ih := okN_iff (b := b) (ws := ws) (r := r) n
    unfold okN
    rw [Bool.and_eq_true, ih, decide_eq_true_iff]
    refine ⟨fun h k hk => ?_, fun h => ⟨fun k hk => h k (by omega), h n (by omega)⟩⟩
    by_cases e : k = n
    · rw [e]; exact h.2
    · exact h.1 k (by omega)
theorem okN_congr {b r ws ws' : Nat → Int} (m : Nat) (h : ∀ k : Nat, k < m → ws k = ws' k) (g : okN b ws r m = true) : okN b ws' r m = true :=
  (okN_iff m).mpr (fun k hk => by rw [← itB_congr (k + 1) (fun j hj => h j (by omega))]; exact (okN_iff m).mp g k hk)
theorem okN_le {b ws r : Nat → Int} {m n : Nat} (h : m ≤ n) (g : okN b ws r n = true) : okN b ws r m = true := (okN_iff m).mpr (fun k hk => (okN_iff n).mp g k (by omega))
def tcN (ws : Nat → Int) : Nat → Int
  | 0 => 0
  | k + 1 => tcN ws k + (if ws k = 0 then 0 else 1)
theorem tcN_congr {ws ws' : Nat → Int} : ∀ m : Nat, (∀ k : Nat, k < m → ws k = ws' k) → tcN ws m = tcN ws' m
  | 0, _ => rfl
  | m + 1, h => by
    unfold tcN
    rw [tcN_congr m (fun k hk => h k (by omega)), h m (by omega)]
theorem tcN_in (ws : Nat → Int) : ∀ n : Nat, 0 ≤ tcN ws n ∧ tcN ws n ≤ (n : Int)
  | 0 => by unfold tcN; omega
  | n + 1 => by
    have := tcN_in ws n
    unfold tcN
    split <;> omega
def tsU (s : Int × Int × Int) (k c t : Int) : Int × Int × Int := if s.2.1 < c ∨ (c = s.2.1 ∧ t < s.2.2) then (k, c, t) else s
def tsF (b r : Nat → Int) (n : Nat) : Nat → Int × Int × Int
  | 0 => (-1, -1, 0)
  | k + 1 => if okN b (wq n k) r n = true then tsU (tsF b r n k) (k : Int) (coldV b (itB b (wq n k) r n)) (tcN (wq n k) n) else tsF b r n k
def tsOk (n k : Nat) (s : Int × Int × Int) : Prop := (s.1 = -1 ∧ s.2.1 = -1 ∧ s.2.2 = 0) ∨ ((0 ≤ s.1 ∧ s.1 < (k : Int)) ∧ (2 ≤ s.2.1 ∧ s.2.1 ≤ 199) ∧ (0 ≤ s.2.2 ∧ s.2.2 ≤ (n : Int)))
theorem coldV_in {b r : Nat → Int} (ok : BedOk b) (nk : NightOk b r) : coldV b r = -1 ∨ (2 ≤ coldV b r ∧ coldV b r ≤ 199) := by
  rcases coldV_spec ok nk with h | h
  · exact Or.inl h.1
  · exact Or.inr ⟨h.1, h.2.1⟩
theorem tsF_ok {b r : Nat → Int} (ok : BedOk b) (nk : NightOk b r) (n : Nat) : ∀ k : Nat, tsOk n k (tsF b r n k)
  | 0 => Or.inl ⟨rfl, rfl, rfl⟩
  | k + 1 => by
    have ih := tsF_ok ok nk n k
    have hc := coldV_in ok (itB_ok (ws := wq n k) ok nk n)
    have ht := tcN_in (wq n k) n
    have h0 : tsOk n (k + 1) (tsF b r n k) := by
      rcases ih with h | h
      · exact Or.inl h
      · exact Or.inr ⟨⟨h.1.1, by omega⟩, h.2⟩
    unfold tsF
    split
    · unfold tsU
      split
      · rename_i c
        refine Or.inr ⟨⟨by dsimp only; omega, by dsimp only; omega⟩, ?_, ht⟩
        dsimp only
        rcases ih with h | h <;> omega
      · exact h0
    · exact h0
theorem tsF_skip {b r : Nat → Int} {n p : Nat} : ∀ m : Nat, (∀ j : Nat, p ≤ j → j < p + m → ¬ okN b (wq n j) r n = true) → tsF b r n (p + m) = tsF b r n p
  | 0, _ => rfl
  | m + 1, h => by
    rw [← Nat.add_assoc, tsF, if_neg (h (p + m) (by omega) (by omega))]
    exact tsF_skip m (fun j h0 h1 => h j h0 (by omega))
def TsC (s : Mem) (n : Nat) (y : Int × Int × Int) : Prop := s 29 3 = y.2.1 ∧ s 29 4 = y.2.2 ∧ (y.1 ≠ -1 → ∀ k : Nat, k < n → s 32 k = wq n y.1.toNat k)
theorem TsC.keep {s t : Mem} {n : Nat} {y : Int × Int × Int} (h : TsC s n y) (h1 : t 29 = s 29) (h2 : t 32 = s 32) : TsC t n y := by
  unfold TsC; rw [h1, h2]; exact h
theorem c_tryWords {b r : Nat → Int} (ok : BedOk b) (nk : NightOk b r) {n : Nat} (hn : n ≤ 5) : ∀ (m d c p : Nat) (s : Mem) (Q : Mem → Prop), d + m = n → p = c * 4 ^ m → BedC s b → (∀ k : Nat, k < d → s 31 k = wq n p k) → NightC s (33 + 3 * d) (itB b (wq n p) r d) → okN b (wq n p) r d = true → TsC s n (tsF b r n p) →
    (∀ u : Mem, (∀ e : Nat, e ≠ 29 → e ≠ 31 → e ≠ 32 → ¬ (36 + 3 * d ≤ e ∧ e ≤ 50) → u e = s e) → (∀ k : Nat, k < d → u 31 k = s 31 k) → TsC u n (tsF b r n (p + 4 ^ m)) → Q u) → wp_X10_tryWords (m + 1) (d : Int) (n : Int) (tcN (wq n p) d) s Q
  | 0, d, c, p, s, Q, h1, h2, bc, hw, nc, hok, ht, hq => by
    have e : d = n := by omega
    rw [e] at hw nc hok hq ⊢
    have hcold := coldV_in ok (itB_ok (ws := wq n p) ok nk n)
    have htc := tcN_in (wq n p) n
    have hts := tsF_ok ok nk n p
    obtain ⟨t1, t2, t3⟩ := ht
    rw [wp_X10_tryWords]
    refine ⟨inR_s (by omega) (by omega), inR_s (by omega) (by omega), True, fun _ => ?_, fun _ => trivial, fun h => absurd (Int.le_refl _) h⟩
    unfold wp_X10_compare
    rw [show (n : Int).toNat = n by omega]
    refine ⟨by omega, c_coldest bc nc ok (itB_ok ok nk n) ?_⟩
    rw [t1, t2]
    have hs2 : -1 ≤ (tsF b r n p).2.1 ∧ (tsF b r n p).2.1 ≤ 199 ∧ 0 ≤ (tsF b r n p).2.2 ∧ (tsF b r n p).2.2 ≤ n := by rcases hts with h | h <;> omega
    have stay : ¬ ((tsF b r n p).2.1 < coldV b (itB b (wq n p) r n) ∨ (coldV b (itB b (wq n p) r n) = (tsF b r n p).2.1 ∧ tcN (wq n p) n < (tsF b r n p).2.2)) → Q s := by
      intro hc
      refine hq s (fun _ _ _ _ _ => rfl) (fun _ _ => rfl) ?_
      rw [show p + 4 ^ 0 = p + 1 from rfl, tsF, if_pos hok, tsU, if_neg hc]
      exact ⟨t1, t2, t3⟩
    refine ⟨inR_s (by omega) (by omega), inR_s (by omega) (by omega), (tsF b r n p).2.1 < coldV b (itB b (wq n p) r n) ∨ (coldV b (itB b (wq n p) r n) = (tsF b r n p).2.1 ∧ tcN (wq n p) n < (tsF b r n p).2.2), fun hc => ?_, fun h => Or.inl h, fun h => ⟨fun h2 => ⟨inR_s (by omega) (by omega), inR_s (by omega) (by omega), fun h3 => stay (by omega), fun h3 => Or.inr ⟨h2, by omega⟩⟩, fun h2 => stay (by omega)⟩⟩
    rintro s5 rfl s6 rfl s7 rfl
    refine hq _ (fun e h0 h1 h2 h3 => by rw [upr_c h2, up2_c h0, up2_c h0]) (fun k hk => by rw [upr_c (by decide), up2_c (by decide), up2_c (by decide)]) ?_
    rw [show p + 4 ^ 0 = p + 1 from rfl, tsF, if_pos hok, tsU, if_pos hc]
    refine ⟨by rw [upr_c (by decide), up2_n (by decide), up2_s], by rw [upr_c (by decide), up2_s], fun _ k hk => ?_⟩
    rw [upr_s, if_pos (by omega), up2_c (by decide), up2_c (by decide)]
    exact hw k hk
  | m + 1, d, c, p, s, Q, h1, h2, bc, hw, nc, hok, ht, hq => by
    have htc := tcN_in (wq n p) d
    have hpos : 0 < 4 ^ m := Nat.pow_pos (by decide)
    have hp4 : 4 ^ (m + 1) = 4 ^ m * 4 := Nat.pow_succ ..
    rw [wp_X10_tryWords]
    refine ⟨inR_s (by omega) (by omega), inR_s (by omega) (by omega), False, fun h => h.elim, fun h => by omega, fun h => ⟨fun h5 => ⟨by omega, ?_⟩, fun h5 => by omega⟩⟩
    rw [show ((d : Int) + 1).toNat = d + 1 by omega, show (d : Int).toNat = d by omega]
    refine ⟨fun k y s' => ∃ i : Nat, y = (i : Int) ∧ i ≤ 4 ∧ k + i = 4 ∧ (∀ e : Nat, e ≠ 29 → e ≠ 31 → e ≠ 32 → ¬ (36 + 3 * d ≤ e ∧ e ≤ 50) → s' e = s e) ∧ (∀ k : Nat, k < d → s' 31 k = s 31 k) ∧ TsC s' n (tsF b r n (p + i * 4 ^ m)), ?_, 4, 0, rfl, by omega, rfl, fun _ _ _ _ _ => rfl, fun _ _ => rfl, by rw [Nat.zero_mul, Nat.add_zero]; exact ht⟩
    rintro k y s' ⟨i, rfl, i1, i2, i3, i4, i5⟩
    refine ⟨inR_s (by omega) (by omega), fun h4 => hq s' i3 i4 ?_, fun h4 => ⟨by omega, ?_⟩⟩
    · have e4 : i = 4 := by omega
      rw [e4] at i5
      rw [hp4, Nat.mul_comm]
      exact i5
    · have ep : p + i * 4 ^ m = (4 * c + i) * 4 ^ m := by
        rw [h2, hp4, Nat.add_mul, ← Nat.mul_assoc, Nat.mul_comm 4 c, Nat.mul_assoc c (4 ^ m) 4, Nat.mul_comm (4 ^ m) 4, Nat.mul_assoc c 4]
      have d1 : (p + i * 4 ^ m) / 4 ^ m = 4 * c + i := by rw [ep]; exact Nat.mul_div_cancel _ hpos
      have d2 : (p + i * 4 ^ m) / 4 ^ (m + 1) = c := by rw [hp4, ← Nat.div_div_eq_div_mul, d1]; omega
      have d3 : p / 4 ^ (m + 1) = c := by rw [h2]; exact Nat.mul_div_cancel _ (Nat.pow_pos (by decide))
      have hw1 : ∀ k : Nat, k < d → wq n (p + i * 4 ^ m) k = wq n p k := fun k hk => wq_same (d := d) (by omega) (by rw [show n - d = m + 1 by omega, d2, d3]) hk
      have hw2 : wq n (p + i * 4 ^ m) d = (i : Int) := by
        unfold wq
        rw [show n - 1 - d = m by omega, d1]
        omega
      generalize hp' : p + i * 4 ^ m = p' at ep d1 d2 hw1 hw2 i5
      have isd : isN (33 + 3 * d) := by unfold isN; omega
      have isd1 : isN (33 + 3 * (d + 1)) := by unfold isN; omega
      have nc' : NightC s' (33 + 3 * d) (itB b (wq n p) r d) := nc.keep (i3 _ (by omega) (by omega) (by omega) (by omega)) (i3 _ (by omega) (by omega) (by omega) (by omega)) (i3 _ (by omega) (by omega) (by omega) (by omega))
      refine c_become isd1 isd nc' (fun t nt ft => ?_)
      have bt : BedC t b := bc.keep (fun e g0 g1 => by rw [ft e (by omega) (by omega) (by omega)]; exact i3 e (by omega) (by omega) (by omega) (by omega))
      refine c_passHour isd1 bt nt ok (itB_ok ok nk d) (inR_s (by omega) (by omega)) (fun u nu fu => ?_)
      have eN : goesR b (itB b (wq n p) r d) (i : Int) = itB b (wq n p') r (d + 1) := by
        show _ = goesR b (itB b (wq n p') r d) (wq n p' d)
        rw [hw2, itB_congr d hw1]
      rw [eN] at nu
      have fr : ∀ e : Nat, e ≠ 29 → e ≠ 31 → e ≠ 32 → ¬ (36 + 3 * d ≤ e ∧ e ≤ 50) → u e = s e := fun e g0 g1 g2 g3 => by
        rw [fu e (by omega) (by omega) (by omega), ft e (by omega) (by omega) (by omega)]
        exact i3 e g0 g1 g2 g3
      have u29 : u 29 = s' 29 := by rw [fu _ (by omega) (by omega) (by omega), ft _ (by omega) (by omega) (by omega)]
      have u31 : u 31 = s' 31 := by rw [fu _ (by omega) (by omega) (by omega), ft _ (by omega) (by omega) (by omega)]
      have u32 : u 32 = s' 32 := by rw [fu _ (by omega) (by omega) (by omega), ft _ (by omega) (by omega) (by omega)]
      have bu : BedC u b := bc.keep (fun e g0 g1 => fr e (by omega) (by omega) (by omega) (by omega))
      have hb2 : 0 ≤ awV b (itB b (wq n p') r (d + 1)) ∧ awV b (itB b (wq n p') r (d + 1)) ≤ 63 := bset_range _
      have e2 : p + (i + 1) * 4 ^ m = p' + 4 ^ m := by rw [← hp', Nat.add_mul, Nat.one_mul, Nat.add_assoc]
      refine c_awake bu nu ok (itB_ok ok nk _) ⟨inR_s (by omega) (by omega), fun s13 => (∀ e : Nat, e ≠ 29 → e ≠ 31 → e ≠ 32 → ¬ (36 + 3 * d ≤ e ∧ e ≤ 50) → s13 e = s e) ∧ (∀ k : Nat, k < d → s13 31 k = s 31 k) ∧ TsC s13 n (tsF b r n (p + (i + 1) * 4 ^ m)), ?_, fun hz => ⟨by omega, ?_⟩, fun hz => ?_⟩
      · rintro s13 ⟨x1, x2, x3⟩ x5 rfl
        exact ⟨k - 1, by omega, i + 1, by omega, by omega, by omega, x1, x2, x3⟩
      · rintro s17 rfl v18 rfl
        have ev : (if (i : Int) = 0 then tcN (wq n p) d else tcN (wq n p) d + 1) = tcN (wq n p') (d + 1) := by
          rw [tcN, hw2, tcN_congr d hw1]
          split <;> omega
        rw [ev]
        refine c_tryWords ok nk hn m (d + 1) (4 * c + i) p' _ _ (by omega) ep (bu.keep (fun e g0 g1 => up2_c (by omega))) (fun k hk => ?_) (nu.keep (up2_c (by omega)) (up2_c (by omega)) (up2_c (by omega))) ?_ (i5.keep (by rw [up2_c (by decide), u29]) (by rw [up2_c (by decide), u32])) (fun v fv gv tv => ⟨fun e g0 g1 g2 g3 => ?_, fun k hk => ?_, by rw [e2]; exact tv⟩)
        · rw [up2_e]
          by_cases hk2 : k = d
          · rw [if_pos hk2, hk2, hw2]
          · rw [if_neg hk2, u31, i4 k (by omega), hw k (by omega), hw1 k (by omega)]
        · rw [okN, Bool.and_eq_true, decide_eq_true_iff]
          exact ⟨okN_congr d (fun k hk => (hw1 k hk).symm) hok, hz⟩
        · rw [fv e g0 g1 g2 (by omega), up2_c g1]; exact fr e g0 g1 g2 g3
        · rw [gv k (by omega), up2_n (by omega), u31]; exact i4 k hk
      · refine ⟨fr, fun k hk => by rw [u31]; exact i4 k hk, ?_⟩
        rw [e2, tsF_skip (4 ^ m) (fun j j0 j1 hj => ?_)]
        · exact i5.keep u29 u32
        · have hj1 := okN_le (show d + 1 ≤ n by omega) hj
          have dj : j / 4 ^ m = 4 * c + i := by
            refine Nat.div_eq_of_lt_le (by rw [← ep]; exact j0) ?_
            rw [Nat.add_mul, Nat.one_mul, ← ep]; exact j1
          have hj2 := okN_congr (ws' := wq n p') (d + 1) (fun k hk => wq_same (d := d + 1) (by omega) (by rw [show n - (d + 1) = m by omega, dj, d1]) hk) hj1
          exact hz ((okN_iff (d + 1)).mp hj2 d (by omega))
theorem SL_okN {b r : Nat → Int} {p n : Nat} {v : Int} (h : p < 1024) (hn : n ≤ 5) (g : SL b (wsf (p : Int) (n : Int)) r (n : Int) v) : (v = 1 ∧ okN b (wq n p) r n = true) ∨ (v = 0 ∧ ¬ okN b (wq n p) r n = true) := by
  have e : ∀ k : Nat, k < n → itB b (wsf (p : Int) (n : Int)) r (k + 1) = itB b (wq n p) r (k + 1) := fun k hk => itB_congr (k + 1) (fun j hj => wsf_wq h hn (by omega))
  rcases g with ⟨g1, g2⟩ | ⟨g1, k, k1, k2⟩
  · exact Or.inl ⟨g1, (okN_iff n).mpr (fun k hk => by rw [← e k hk]; exact g2 k (by omega))⟩
  · refine Or.inr ⟨g1, fun q => k2 ?_⟩
    rw [e k (by omega)]
    exact (okN_iff n).mp q k (by omega)
def TV (y : Int × Int × Int) (n : Nat) (i : Int) : Int := if y.1 = -1 then -1 else if i = -1 then y.2.1 else if 0 ≤ i ∧ i < (n : Int) then wq n y.1.toNat i.toNat else -1
theorem pub_turnsFor {a i : Int} (ha : inR a) (hi : inR i) : Good (fun σ Q => wp_X11_turnsFor a i σ Q) (fun σ Q => wp_X12_turnsFor a i σ Q) := by
  intro σ hR
  have hR' := hR
  obtain ⟨ok, bc, ⟨x, pc, pm⟩, rs⟩ := hR'
  show wp_X11_turnsFor a i σ (fun r t => wp_X12_turnsFor a i t (fun r' u => r = r' ∧ Rel u))
  have nk := pc.2.2.1
  have m9 := pm.2.2
  have hin : 0 ≤ inV (σ 67) x.2.2 ∧ inV (σ 67) x.2.2 ≤ 63 := bset_range _
  have hN : ¬ inV (σ 67) x.2.2 = 0 → 2 ≤ σ 67 0 := by
    intro h3
    rcases ok.1 with c | c
    · exfalso
      exact h3 ((inV_0 ok nk).mpr (fun p p0 p1 => by omega))
    · exact c.1
  have m_part : ∀ (t : Mem) (P : Int → Mem → Prop), t 67 = σ 67 → t 69 = σ 69 → (¬ (1 ≤ a ∧ a ≤ 5) → P (-1000000002) t) → ((1 ≤ a ∧ a ≤ 5) → (inV (σ 67) x.2.2 = 0 → P (-1000000003) t) ∧ (¬ inV (σ 67) x.2.2 = 0 → ∀ u : Mem, (∀ d, d ≠ 70 → d ≠ 72 → u d = t d) → P (TV (tsF (σ 67) x.2.2 a.toNat (4 ^ a.toNat)) a.toNat i) u)) → wp_X12_turnsFor a i t P := by
    intro t P h7 h9 g1 g2
    unfold wp_X12_turnsFor
    refine ⟨ha, m_in ha (inR_s (by omega) (by omega)) (inR_s (by omega) (by omega)) ?_⟩
    by_cases q : 1 ≤ a ∧ a ≤ 5
    · rw [if_pos q]
      obtain ⟨g3, g4⟩ := g2 q
      refine ⟨inR_s (by omega) (by omega), fun z => absurd z (by decide), fun _ => m_inBed (by rw [h7]; exact ok) (by rw [h7, h9, m9]; exact nk) ?_⟩
      rw [h7, h9, m9]
      refine ⟨inR_s (by omega) (by omega), g3, fun hz => m_asides (fun w fw gw => ?_)⟩
      have w72 : ∀ j : Nat, j < 13 → w 72 j = x.2.2 j := fun j hj => by rw [gw j hj, h9, m9]
      have w69 : w 69 = x.2.2 := by rw [fw 69 (by decide), h9, m9]
      obtain ⟨n, hn, rfl⟩ : ∃ n : Nat, n ≤ 5 ∧ a = (n : Int) := ⟨a.toNat, by omega, by omega⟩
      have en : (n : Int).toNat = n := by omega
      rw [en] at g4
      have hp := pw4_le hn
      have ep : zshl 1 (2 * (n : Int)) = ((4 ^ n : Nat) : Int) := pw4_val ⟨n, by omega⟩
      generalize hM : 4 ^ n = M at hp ep g4
      refine ⟨fun k y3 y4 y5 y6 s => ∃ j : Nat, y6 = (j : Int) ∧ j ≤ M ∧ k + j = M ∧ y3 = (tsF (σ 67) x.2.2 n j).1 ∧ y4 = (tsF (σ 67) x.2.2 n j).2.1 ∧ y5 = (tsF (σ 67) x.2.2 n j).2.2 ∧ (∀ d, d ≠ 70 → s d = w d), ?_, M, 0, rfl, by omega, by omega, rfl, rfl, rfl, fun _ _ => rfl⟩
      rintro k y3 y4 y5 y6 s ⟨j, rfl, j1, j2, rfl, rfl, rfl, j3⟩
      have hts := tsF_ok ok nk n j
      have hs2 : (-1 ≤ (tsF (σ 67) x.2.2 n j).1 ∧ (tsF (σ 67) x.2.2 n j).1 ≤ 1024) ∧ -1 ≤ (tsF (σ 67) x.2.2 n j).2.1 ∧ (tsF (σ 67) x.2.2 n j).2.1 ≤ 199 ∧ 0 ≤ (tsF (σ 67) x.2.2 n j).2.2 ∧ (tsF (σ 67) x.2.2 n j).2.2 ≤ n := by rcases hts with h | h <;> omega
      unfold wp_X12_power
      rw [ep]
      refine ⟨inR_s (by omega) (by omega), inR_s (by omega) (by omega), fun h => ?_, fun h => ?_⟩
      · have e : j = M := by omega
        have fin := g4 hz s (fun d h0 h1 => by rw [j3 d h0, fw d h1])
        rw [e] at hts hs2 ⊢
        unfold TV at fin
        refine ⟨inR_s (by omega) (by omega), fun c => ?_, fun c => ⟨hi, fun c2 => ?_, fun c2 => ⟨inR_s (by omega) (by omega), m_in hi inR_0 (inR_s (by omega) (by omega)) ?_⟩⟩⟩
        · rw [if_pos c] at fin; exact fin
        · rw [if_neg c, if_pos c2] at fin; exact fin
        · rw [if_neg c, if_neg c2] at fin
          by_cases c3 : 0 ≤ i ∧ i < (n : Int)
          · rw [if_pos c3] at fin
            rw [if_pos (by omega)]
            refine ⟨inR_s (by omega) (by omega), fun z => absurd z (by decide), fun _ => ?_⟩
            rw [← wd_wq (by rcases hts with h | h <;> omega) hn (by omega), Int.toNat_of_nonneg c3.1, Int.toNat_of_nonneg (by rcases hts with h | h <;> omega)] at fin
            exact fin
          · rw [if_neg c3] at fin
            rw [if_neg (by omega)]
            exact ⟨inR_0, fun _ => fin, fun z => absurd rfl z⟩
      · have s7 : s 67 = σ 67 := by rw [j3 67 (by decide), fw 67 (by decide), h7]
        have s9 : s 69 = x.2.2 := by rw [j3 69 (by decide), w69]
        refine m_sleeps (by rw [s7]; exact ok) (by rw [s7, s9]; exact nk) (by rw [s7]; exact hN hz) q.1 (by omega) (by omega) (by omega) (fun v u sl fu hu nu vu => ?_)
        rw [s7, s9] at sl vu
        rw [s7] at nu
        have u7 : u 67 = σ 67 := by rw [fu 67 (by decide) (by decide), s7]
        refine m_coldest (by rw [u7]; exact ok) (by rw [u7]; exact nu) ?_
        rw [u7]
        have hcold := coldV_in ok nu
        have hsl := SL_okN (by omega) hn sl
        refine ⟨fun k' y9 y10 => ∃ l : Nat, y10 = (l : Int) ∧ l ≤ n ∧ k' + l = n ∧ y9 = tcN (wq n j) l, ?_, n, 0, rfl, by omega, rfl, rfl⟩
        rintro k' y9 y10 ⟨l, rfl, l1, l2, rfl⟩
        have htc := tcN_in (wq n j) l
        refine ⟨inR_s (by omega) (by omega), fun hl => ?_, fun hl => ?_⟩
        · have el : l = n := by omega
          rw [el] at htc ⊢
          refine m_backs (r := x.2.2) (fun e he => by rw [fu 72 (by decide) (by decide), j3 72 (by decide)]; exact w72 e he) (fun e he => by rw [hu e he, s9]) (fun u' fu' hu' => ?_)
          refine ⟨inR_s (by omega) (by omega), ⟨fun _ => trivial, fun _ => ⟨inR_s (by omega) (by omega), inR_s (by omega) (by omega), fun _ => trivial, fun _ => ⟨fun _ => ⟨inR_s (by omega) (by omega), inR_s (by omega) (by omega)⟩, fun _ => trivial⟩⟩⟩, ?_⟩
          intro y3 e3 y4 e4 y5 e5 x6 e6
          have ff : ∀ d, d ≠ 70 → u' d = w d := by
            intro d h0
            by_cases hd : d = 69
            · rw [hd, hu', w69]
            · rw [fu' d hd, fu d hd h0, j3 d h0]
          refine ⟨k - 1, by omega, j + 1, by omega, by omega, by omega, ?_⟩
          rw [tsF]
          rcases hsl with ⟨c1, c2⟩ | ⟨c1, c2⟩
          · rw [if_pos c2]
            have ec := vu c1
            rw [en, itB_congr n (fun k hk => wsf_wq (by omega) hn hk)] at ec
            rw [if_neg (show ¬ v = 0 by omega), ec] at e3 e4 e5
            unfold tsU
            by_cases d1 : (tsF (σ 67) x.2.2 n j).2.1 < coldV (σ 67) (itB (σ 67) (wq n j) x.2.2 n)
            · rw [if_pos d1] at e3 e4 e5
              rw [if_pos (Or.inl d1)]
              exact ⟨e3, e4, e5, ff⟩
            · rw [if_neg d1] at e3 e4 e5
              by_cases d2 : coldV (σ 67) (itB (σ 67) (wq n j) x.2.2 n) = (tsF (σ 67) x.2.2 n j).2.1
              · rw [if_pos d2] at e3 e4 e5
                by_cases d3 : (tsF (σ 67) x.2.2 n j).2.2 ≤ tcN (wq n j) n
                · rw [if_pos d3] at e3 e4 e5
                  rw [if_neg (by omega)]
                  exact ⟨e3, e4, e5, ff⟩
                · rw [if_neg d3] at e3 e4 e5
                  rw [if_pos (Or.inr ⟨d2, by omega⟩)]
                  exact ⟨e3, e4, e5, ff⟩
              · rw [if_neg d2] at e3 e4 e5
                rw [if_neg (by omega)]
                exact ⟨e3, e4, e5, ff⟩
          · rw [if_neg c2]
            rw [if_pos c1] at e3 e4 e5
            exact ⟨e3, e4, e5, ff⟩
        · unfold wp_X12_word
          have ew : zand (zshr (j : Int) (2 * (((n : Int) - 1) - (l : Int)))) 3 = wq n j l := wd_wq (by omega) hn (by omega)
          rw [ew]
          have := wq_in n j l
          refine ⟨inR_s (by omega) (by omega), ?_⟩
          rintro v44 rfl x9 rfl x10 rfl
          exact ⟨k' - 1, by omega, l + 1, by omega, by omega, by omega, rfl⟩
    · rw [if_neg q]
      exact ⟨inR_0, fun _ => g1 q, fun z => absurd rfl z⟩
  unfold wp_X11_turnsFor
  refine ⟨ha, fun h => m_part σ _ rfl rfl (fun _ => ⟨rfl, hR⟩) (fun z => by omega), fun h => ⟨fun h2 => ?_, fun h2 => m_part σ _ rfl rfl (fun _ => ⟨rfl, hR⟩) (fun z => by omega)⟩⟩
  refine c_inBed bc pc.2.1 ok nk ⟨inR_s (by omega) (by omega), fun hz => m_part σ _ rfl rfl (fun z => by omega) (fun _ => ⟨fun _ => ⟨rfl, hR⟩, fun z => absurd hz z⟩), fun hz => ?_⟩
  have done : ∀ (v : Int) (s : Mem), v = TV (tsF (σ 67) x.2.2 a.toNat (4 ^ a.toNat)) a.toNat i → (∀ d, ¬ (29 ≤ d ∧ d ≤ 50) → s d = σ d) → wp_X12_turnsFor a i s (fun r' u => v = r' ∧ Rel u) := by
    intro v s hv fs
    refine m_part s _ (fs 67 (by omega)) (fs 69 (by omega)) (fun z => by omega) (fun _ => ⟨fun z => absurd z hz, fun _ u fu => ⟨hv, ?_⟩⟩)
    have f : ∀ d, ¬ (29 ≤ d ∧ d ≤ 50) → d ≠ 70 → d ≠ 72 → u d = σ d := fun d h0 h3 h4 => (fu d h3 h4).trans (fs d h0)
    have u65 : u 65 = σ 65 := f 65 (by omega) (by decide) (by decide)
    refine hR.tried (fun d hd => ?_) (by rw [f 60 (by omega) (by decide) (by decide)]) ⟨by rw [u65], by rw [u65], by rw [u65], by rw [u65], by rw [u65], by rw [u65]⟩
    unfold jk at hd
    exact f d (by omega) (by omega) (by omega)
  obtain ⟨n, hn, rfl⟩ : ∃ n : Nat, n ≤ 5 ∧ a = (n : Int) := ⟨a.toNat, by omega, by omega⟩
  have en : (n : Int).toNat = n := by omega
  rw [en] at done
  unfold wp_X10_seek
  rintro s1 rfl s2 rfl
  refine c_become (c := 33 + 3 * 0) (by unfold isN; omega) isN_17 (pc.2.1.keep (by rw [up2_c (by decide), up2_c (by decide)]) (by rw [up2_c (by decide), up2_c (by decide)]) (by rw [up2_c (by decide), up2_c (by decide)])) (fun t nt ft => ?_)
  have t29 : t 29 = up2 (up2 σ 29 3 (-1)) 29 4 0 29 := ft 29 (by decide) (by decide) (by decide)
  have fr : ∀ d, d ≠ 29 → ¬ (33 ≤ d ∧ d ≤ 50) → t d = σ d := fun d h0 h1 => by rw [ft d (by omega) (by omega) (by omega), up2_c h0, up2_c h0]
  refine ⟨n + 1, by omega, c_tryWords (b := σ 67) (r := x.2.2) ok nk hn n 0 0 0 t _ (by omega) (by omega) (bc.keep (fun d g0 g1 => fr d (by omega) (by omega))) (fun k hk => by omega) nt rfl ⟨by rw [t29, up2_n (by decide), up2_s]; rfl, by rw [t29, up2_s]; rfl, fun z => absurd rfl z⟩ (fun u fu _ tu => ?_)⟩
  have fs : ∀ d, ¬ (29 ≤ d ∧ d ≤ 50) → u d = σ d := fun d h0 => by rw [fu d (by omega) (by omega) (by omega) (by omega)]; exact fr d (by omega) (by omega)
  rw [Nat.zero_add] at tu
  obtain ⟨t1, t2, t3⟩ := tu
  have hts := tsF_ok ok nk n (4 ^ n)
  unfold TV at done
  dsimp only
  rw [t1]
  generalize tsF (σ 67) x.2.2 n (4 ^ n) = y at t1 t2 t3 hts done
  have hy : y.1 = -1 ∧ y.2.1 = -1 ∨ y.1 ≠ -1 ∧ y.2.1 ≠ -1 := by rcases hts with h | h <;> omega
  have hy2 : -1 ≤ y.2.1 ∧ y.2.1 ≤ 199 := by rcases hts with h | h <;> omega
  refine ⟨hi, fun c => done _ u ?_ fs, fun c => ⟨inR_s (by omega) (by omega), fun c2 => done _ u ?_ fs, fun c2 => ⟨fun c3 => done _ u ?_ fs, fun c3 => ⟨fun c4 => ⟨by omega, done _ u ?_ fs⟩, fun c4 => done _ u ?_ fs⟩⟩⟩⟩
  · by_cases e : y.1 = -1
    · rw [if_pos e]; omega
    · rw [if_neg e, if_pos c]
  · rw [if_pos (by omega)]; exact c2
  · rw [if_neg (by omega), if_neg c, if_neg (by omega)]
  · rw [if_neg (by omega), if_neg c, if_pos (by omega)]
    exact t3 (by omega) _ (by omega)
  · rw [if_neg (by omega), if_neg c, if_neg (by omega)]
