theorem pc_in {b r T : Nat → Int} {n : Nat} (ok : BedOk b) (nk : NightOk b r) (tk : Tak b r T (b 0).toNat n) : pcF (inS b r) = (n : Int) := by
  have hn := ok.n6
  rw [tk.2.2.2, ← occ_pc ok nk (b 0).toNat (by omega)]
  exact pcF_ext (fun s _ _ => (inT_S (b := b) rfl s).symm)
theorem c_tryOrders {b r T : Nat → Int} (ok : BedOk b) (nk : NightOk b r) {n : Nat} {N : Int} (hn : 1 ≤ n ∧ n ≤ 6) (tk : Tak b r T (b 0).toNat n) (hN : 1 ≤ N ∧ N ≤ 9) : ∀ (m d c p : Nat) (s : Mem) (Q : Mem → Prop), d + m = n → p = c * 6 ^ m → BedC s b → NightC s 17 r → s 52 4 = (n : Int) → (∀ k : Nat, k < n → s 53 k = T k) → (∀ k : Nat, k < d → s 54 k = dq n p k) → pcF (unN (dq n p) d) = (d : Int) → (∀ t : Int, 0 ≤ t → t < 6 → unN (dq n p) d t = true → inS b r t = true) → LdC s n (ldF b r T n N p) →
    (∀ u : Mem, (∀ e : Nat, e ≠ 20 → e ≠ 21 → e ≠ 22 → e ≠ 52 → e ≠ 54 → e ≠ 55 → u e = s e) → u 52 4 = s 52 4 → (∀ k : Nat, k < d → u 54 k = s 54 k) → LdC u n (ldF b r T n N (p + 6 ^ m)) → Q u) → wp_X3_tryOrders (m + 1) 17 (d : Int) (bset (leftS b r (dq n p) d)) N s Q
  | 0, d, c, p, s, Q, h1, h2, bc, nc, h4, hT, hw, hpc, hsub, hl, hq => by
    have e : d = n := by omega
    rw [e] at hw hpc hsub hq ⊢
    rw [wp_X3_tryOrders, h4]
    refine ⟨inR_s (by omega) (by omega), inR_s (by omega) (by omega), True, fun _ => ?_, fun _ => trivial, fun h => absurd (Int.le_refl _) h⟩
    have hlok : lok b r n p = true := decide_eq_true (bset_ext (pcF_sub hsub (by rw [hpc, pc_in ok nk tk])))
    exact c_compareL ok nk hn tk hN bc nc h4 hT hw hlok hl (fun u fu u4 lu => hq u (fun e g0 g1 g2 g3 g4 g5 => fu e g0 g1 g2 g3 g5) u4 (fun k hk => by rw [fu 54 (by decide) (by decide) (by decide) (by decide) (by decide)]) lu)
  | m + 1, d, c, p, s, Q, h1, h2, bc, nc, h4, hT, hw, hpc, hsub, hl, hq => by
    have hpos : 0 < 6 ^ m := Nat.pow_pos (by decide)
    have hp6 : 6 ^ (m + 1) = 6 ^ m * 6 := Nat.pow_succ ..
    rw [wp_X3_tryOrders, h4]
    refine ⟨inR_s (by omega) (by omega), inR_s (by omega) (by omega), False, fun h => h.elim, fun h => by omega, fun h => ⟨fun h5 => ?_, fun h5 => by omega⟩⟩
    rw [show (d : Int).toNat = d by omega]
    refine ⟨fun k y s' => ∃ i : Nat, y = (i : Int) ∧ i ≤ 6 ∧ k + i = 6 ∧ (∀ e : Nat, e ≠ 20 → e ≠ 21 → e ≠ 22 → e ≠ 52 → e ≠ 54 → e ≠ 55 → s' e = s e) ∧ s' 52 4 = s 52 4 ∧ (∀ k : Nat, k < d → s' 54 k = s 54 k) ∧ LdC s' n (ldF b r T n N (p + i * 6 ^ m)), ?_, 6, 0, rfl, by omega, rfl, fun _ _ _ _ _ _ _ => rfl, rfl, fun _ _ => rfl, by rw [Nat.zero_mul, Nat.add_zero]; exact hl⟩
    rintro k y s' ⟨i, rfl, i1, i2, i3, i4, i5, i6⟩
    refine ⟨inR_s (by omega) (by omega), fun h6 => hq s' i3 i4 i5 ?_, fun h6 => ⟨inR_of _, ?_⟩⟩
    · have e6 : i = 6 := by omega
      rw [e6] at i6
      rw [hp6, Nat.mul_comm]
      exact i6
    · have ep : p + i * 6 ^ m = (6 * c + i) * 6 ^ m := by
        rw [h2, hp6, Nat.add_mul, ← Nat.mul_assoc, Nat.mul_comm 6 c, Nat.mul_assoc c (6 ^ m) 6, Nat.mul_comm (6 ^ m) 6, Nat.mul_assoc c 6]
      have d1 : (p + i * 6 ^ m) / 6 ^ m = 6 * c + i := by rw [ep]; exact Nat.mul_div_cancel _ hpos
      have d2 : (p + i * 6 ^ m) / 6 ^ (m + 1) = c := by rw [hp6, ← Nat.div_div_eq_div_mul, d1]; omega
      have d3 : p / 6 ^ (m + 1) = c := by rw [h2]; exact Nat.mul_div_cancel _ (Nat.pow_pos (by decide))
      have hw1 : ∀ k : Nat, k < d → dq n (p + i * 6 ^ m) k = dq n p k := fun k hk => dq_same (d := d) (by omega) (by rw [show n - d = m + 1 by omega, d2, d3]) hk
      have hw2 : dq n (p + i * 6 ^ m) d = (i : Int) := by
        unfold dq
        rw [show n - 1 - d = m by omega, d1]
        omega
      have e2 : p + (i + 1) * 6 ^ m = (p + i * 6 ^ m) + 6 ^ m := by rw [Nat.add_mul, Nat.one_mul, Nat.add_assoc]
      generalize hp' : p + i * 6 ^ m = p' at ep d1 d2 hw1 hw2 i6 e2
      rw [bset_test _ (by omega) (by omega)]
      have g : ∀ e : Nat, e ≠ 20 → e ≠ 21 → e ≠ 22 → e ≠ 52 → e ≠ 54 → e ≠ 55 → s' e = s e := i3
      refine ⟨fun s8 => (∀ e : Nat, e ≠ 20 → e ≠ 21 → e ≠ 22 → e ≠ 52 → e ≠ 54 → e ≠ 55 → s8 e = s e) ∧ s8 52 4 = s 52 4 ∧ (∀ k : Nat, k < d → s8 54 k = s 54 k) ∧ LdC s8 n (ldF b r T n N (p + (i + 1) * 6 ^ m)), ?_, fun c1 => ⟨by omega, ?_⟩, fun c1 => ⟨i3, i4, i5, ?_⟩⟩
      · rintro s8 ⟨x1, x2, x3, x4⟩ x5 rfl
        exact ⟨k - 1, by omega, i + 1, by omega, by omega, by omega, x1, x2, x3, x4⟩
      · have hL : leftS b r (dq n p) d (i : Int) = true := by
          by_cases q : leftS b r (dq n p) d (i : Int) = true
          · exact q
          · rw [if_neg q] at c1; omega
        have hL2 : inS b r (i : Int) = true ∧ unN (dq n p) d (i : Int) = false := by
          unfold leftS at hL
          rw [Bool.and_eq_true] at hL
          exact ⟨hL.1, by have := hL.2; cases hu : unN (dq n p) d (i : Int) <;> rw [hu] at this <;> first | rfl | exact Bool.noConfusion this⟩
        rintro s12 rfl
        rw [bset_less _ (by omega) (by omega)]
        have eL : bset (fun t => leftS b r (dq n p) d t && !decide (t = (i : Int))) = bset (leftS b r (dq n p') (d + 1)) := by
          refine bset_ext (fun t _ _ => ?_)
          unfold leftS
          rw [unN]
          dsimp only
          rw [hw2, unN_congr d hw1]
          cases inS b r t <;> cases unN (dq n p) d t <;> cases decide (t = (i : Int)) <;> rfl
        rw [eL]
        refine c_tryOrders ok nk hn tk hN m (d + 1) (6 * c + i) p' _ _ (by omega) ep (bc.keep (fun e g0 g1 => by rw [up2_c (by omega)]; exact g e (by omega) (by omega) (by omega) (by omega) (by omega) (by omega))) (nc.keep (by rw [up2_c (by omega)]; exact g _ (by decide) (by decide) (by decide) (by decide) (by decide) (by decide)) (by rw [up2_c (by omega)]; exact g _ (by decide) (by decide) (by decide) (by decide) (by decide) (by decide)) (by rw [up2_c (by omega)]; exact g _ (by decide) (by decide) (by decide) (by decide) (by decide) (by decide))) (by rw [up2_c (by decide), i4, h4]) (fun k hk => by rw [up2_c (by decide), g 53 (by decide) (by decide) (by decide) (by decide) (by decide) (by decide)]; exact hT k hk) (fun k hk => ?_) ?_ (fun t t0 t1 ht => ?_) (i6.keep (by rw [up2_c (by decide)]) (by rw [up2_c (by decide)])) (fun v fv v4 gv lv => ⟨fun e g0 g1 g2 g3 g4 g5 => ?_, ?_, fun k hk => ?_, by rw [e2]; exact lv⟩)
        · rw [up2_e]
          by_cases hk2 : k = d
          · rw [if_pos hk2, hk2, hw2]
          · rw [if_neg hk2, i5 k (by omega), hw k (by omega), hw1 k (by omega)]
        · have hcg : pcF (unN (dq n p') d) = pcF (unN (dq n p) d) := pcF_ext (fun t _ _ => unN_congr d hw1 t)
          rcases pcF_step (dq_in n p') d with ⟨a1, a2⟩ | ⟨a1, a2⟩
          · rw [hw2, unN_congr d hw1, hL2.2] at a1
            exact Bool.noConfusion a1
          · rw [a2, hcg, hpc]; omega
        · rw [unN] at ht
          dsimp only at ht
          rw [hw2, unN_congr d hw1, Bool.or_eq_true, decide_eq_true_iff] at ht
          rcases ht with ht | ht
          · exact hsub t t0 t1 ht
          · rw [ht]; exact hL2.1
        · rw [fv e g0 g1 g2 g3 g4 g5, up2_c g4]; exact g e g0 g1 g2 g3 g4 g5
        · rw [v4, up2_c (by decide), i4]
        · rw [gv k (by omega), up2_n (by omega)]; exact i5 k hk
      · have hL : ¬ leftS b r (dq n p) d (i : Int) = true := fun q => by rw [if_pos q] at c1; exact c1 rfl
        rw [e2, ldF_skip (6 ^ m) (fun j j0 j1 hj => ?_)]
        · exact i6
        · have dj : j / 6 ^ m = 6 * c + i := by
            refine Nat.div_eq_of_lt_le (by rw [← ep]; exact j0) ?_
            rw [Nat.add_mul, Nat.one_mul, ← ep]; exact j1
          have hj1 : ∀ k : Nat, k < d + 1 → dq n j k = dq n p' k := fun k hk => dq_same (d := d + 1) (by omega) (by rw [show n - (d + 1) = m by omega, dj, d1]) hk
          have od := lok_ord ok nk tk hj
          have es := bset_inj (of_decide_eq_true hj)
          have ejd : dq n j d = (i : Int) := by rw [hj1 d (by omega), hw2]
          have hin : inS b r (i : Int) = true := by rw [← es _ (by omega) (by omega)]; exact (unN_iff n).mpr ⟨d, by omega, ejd⟩
          have hun : unN (dq n p) d (i : Int) = true := by
            cases hu : unN (dq n p) d (i : Int)
            · exact absurd (by unfold leftS; rw [hin, hu]; rfl) hL
            · rfl
          obtain ⟨l, hl1, hl2⟩ := (unN_iff d).mp hun
          have := od.2 l d (by omega) (by omega) (by rw [hj1 l (by omega), hw1 l hl1, hl2, ejd])
          omega
theorem Tak.nil {b r T : Nat → Int} : Tak b r T 0 0 := ⟨fun k hk => by omega, fun k l hk => by omega, fun p h0 h1 => by omega, rfl⟩
theorem Tak.no {b r T : Nat → Int} {i n : Nat} (h : Tak b r T i n) (e : whoOf r (i : Int) = -1) : Tak b r T (i + 1) n := by
  obtain ⟨t1, t2, t3, t4⟩ := h
  refine ⟨fun k hk => ⟨by have := (t1 k hk).1; omega, (t1 k hk).2⟩, t2, fun p h0 h1 h2 => ?_, ?_⟩
  · by_cases c : p = (i : Int)
    · rw [c] at h2; exact absurd e h2
    · exact t3 p h0 (by omega) h2
  · rw [occN, if_pos e]; exact t4
theorem Tak.yes {b r T T' : Nat → Int} {i n : Nat} (h : Tak b r T i n) (e : whoOf r (i : Int) ≠ -1) (h1 : ∀ k : Nat, k < n → T' k = T k) (h2 : T' n = (i : Int)) : Tak b r T' (i + 1) (n + 1) := by
  obtain ⟨t1, t2, t3, t4⟩ := h
  refine ⟨fun k hk => ?_, fun k l hk hl q => ?_, fun p p0 p1 p2 => ?_, ?_⟩
  · by_cases c : k = n
    · rw [c, h2]; exact ⟨by omega, e⟩
    · rw [h1 k (by omega)]; exact ⟨by have := (t1 k (by omega)).1; omega, (t1 k (by omega)).2⟩
  · by_cases c : k = n
    · by_cases c' : l = n
      · omega
      · rw [c, h2, h1 l (by omega)] at q
        have := (t1 l (by omega)).1; omega
    · by_cases c' : l = n
      · rw [c', h2, h1 k (by omega)] at q
        have := (t1 k (by omega)).1; omega
      · rw [h1 k (by omega), h1 l (by omega)] at q
        exact t2 k l (by omega) (by omega) q
  · by_cases c : p = (i : Int)
    · exact ⟨n, by omega, by rw [h2, c]⟩
    · obtain ⟨k, hk, ek⟩ := t3 p p0 (by omega) p2
      exact ⟨k, by omega, by rw [h1 k hk, ek]⟩
  · rw [occN, if_neg e, t4]
theorem Tak.congr {b r T T' : Nat → Int} {i n : Nat} (h : Tak b r T i n) (h1 : ∀ k : Nat, k < n → T' k = T k) : Tak b r T' i n := by
  obtain ⟨t1, t2, t3, t4⟩ := h
  refine ⟨fun k hk => by rw [h1 k hk]; exact t1 k hk, fun k l hk hl q => by rw [h1 k hk, h1 l hl] at q; exact t2 k l hk hl q, fun p p0 p1 p2 => ?_, t4⟩
  obtain ⟨k, hk, e⟩ := t3 p p0 p1 p2
  exact ⟨k, hk, by rw [h1 k hk, e]⟩
/-- the taken places themselves -/
def takT (r : Nat → Int) : Nat → Nat → Int
  | 0 => fun _ => 0
  | i + 1 => if whoOf r (i : Int) = -1 then takT r i else up1 (takT r i) (occN r i) (i : Int)
theorem takT_ok (b r : Nat → Int) : ∀ i : Nat, Tak b r (takT r i) i (occN r i)
  | 0 => Tak.nil
  | i + 1 => by
    have ih := takT_ok b r i
    by_cases c : whoOf r (i : Int) = -1
    · have e1 : takT r (i + 1) = takT r i := by rw [takT, if_pos c]
      have e2 : occN r (i + 1) = occN r i := by rw [occN, if_pos c]
      rw [e1, e2]; exact ih.no c
    · have e1 : takT r (i + 1) = up1 (takT r i) (occN r i) (i : Int) := by rw [takT, if_neg c]
      have e2 : occN r (i + 1) = occN r i + 1 := by rw [occN, if_neg c]
      rw [e1, e2]
      refine ih.yes c (fun k hk => ?_) ?_
      · unfold up1; rw [if_neg (by omega)]
      · unfold up1; rw [if_pos rfl]
theorem c_seekL {σ : Mem} {b r : Nat → Int} {N : Int} {Q : Mem → Prop} (bc : BedC σ b) (nc : NightC σ 17 r) (ok : BedOk b) (nk : NightOk b r) (hN : 1 ≤ N ∧ N ≤ 9)
    (hq : ∀ u : Mem, (∀ d, d ≠ 20 → d ≠ 21 → d ≠ 22 → ¬ (52 ≤ d ∧ d ≤ 55) → u d = σ d) → u 52 4 = (occN r (b 0).toNat : Int) → (occN r (b 0).toNat = 0 → u 52 5 = -1) → (occN r (b 0).toNat ≠ 0 → LdC u (occN r (b 0).toNat) (ldF b r (takT r (b 0).toNat) (occN r (b 0).toNat) N (6 ^ occN r (b 0).toNat))) → Q u) : wp_X3_seek 17 N σ Q := by
  have hb := ok.n6
  unfold wp_X3_seek
  rintro s1 rfl s2 rfl
  refine ⟨fun k y s => ∃ i : Nat, y = (i : Int) ∧ (i : Int) ≤ b 0 ∧ k + i = (b 0).toNat ∧ (∀ d, d ≠ 52 → d ≠ 53 → s d = σ d) ∧ s 52 4 = (occN r i : Int) ∧ s 52 5 = -1 ∧ ∀ k : Nat, k < occN r i → s 53 k = takT r i k, ?_, (b 0).toNat, 0, rfl, by omega, rfl, fun d h0 h1 => by rw [up2_c h0, up2_c h0], by rw [up2_s]; rfl, by rw [up2_n (by decide), up2_s], fun k hk => by unfold occN at hk; omega⟩
  rintro k y s ⟨i, rfl, i1, i2, i3, i4, i5, i6⟩
  have hoc := occN_le r i
  rw [i3 1 (by decide) (by decide), bc.1, i4]
  refine ⟨inR_s (by omega) (by omega), inR_s (by omega) (by omega), fun h => ⟨inR_s (by omega) (by omega), fun c => ?_, fun c => ?_⟩, fun h => ⟨by omega, ?_⟩⟩
  · have e : i = (b 0).toNat := by omega
    rw [e] at i4 c
    exact hq s (fun d g0 g1 g2 g3 => i3 d (by omega) (by omega)) i4 (fun _ => i5) (fun z => absurd (by omega) z)
  · have e : i = (b 0).toNat := by omega
    rw [e] at i4 i6 c hoc
    generalize hO : occN r (b 0).toNat = n at *
    have tk : Tak b r (takT r (b 0).toNat) (b 0).toNat n := by have := takT_ok b r (b 0).toNat; rw [hO] at this; exact this
    have bs' : BedC s b := bc.keep (fun d g0 g1 => i3 d (by omega) (by omega))
    have ns : NightC s 17 r := nc.keep (i3 17 (by decide) (by decide)) (i3 18 (by decide) (by decide)) (i3 19 (by decide) (by decide))
    refine c_inBed bs' ns ok nk ⟨n + 1, by omega, ?_⟩
    have eL : inV b r = bset (leftS b r (dq n 0) 0) := bset_ext (fun t _ _ => by unfold leftS; rw [unN]; dsimp only; cases inS b r t <;> rfl)
    rw [eL]
    exact c_tryOrders ok nk (T := takT r (b 0).toNat) (n := n) (by omega) tk hN n 0 0 0 s _ (by omega) (by omega) bs' ns i4 i6 (fun k hk => by omega) rfl (fun t _ _ z => Bool.noConfusion z) ⟨i5, fun z => absurd rfl z⟩ (fun u fu u4 _ lu => hq u (fun d g0 g1 g2 g3 => by rw [fu d g0 g1 g2 (by omega) (by omega) (by omega)]; exact i3 d (by omega) (by omega)) (by rw [u4, i4]) (fun z => by omega) (fun _ => by rw [Nat.zero_add] at lu; exact lu))
  · have hr := (nk.1 (i : Int) (by omega) (by omega)).1
    have e18 : s 18 (i : Int).toNat = whoOf r (i : Int) := by rw [i3 18 (by decide) (by decide)]; exact (nc.2 (i : Int) (by omega) (by omega)).1
    have h6 := ok.s6
    show inR (s 18 (i : Int).toNat) ∧ _
    rw [e18]
    refine ⟨inR_s (by omega) (by omega), fun s13 => (∀ d, d ≠ 52 → d ≠ 53 → s13 d = σ d) ∧ s13 52 4 = (occN r (i + 1) : Int) ∧ s13 52 5 = -1 ∧ ∀ k : Nat, k < occN r (i + 1) → s13 53 k = takT r (i + 1) k, ?_, fun c => ?_, fun c => ⟨by omega, ?_⟩⟩
    · rintro s13 ⟨x1, x2, x3, x4⟩ x5 rfl
      exact ⟨k - 1, by omega, i + 1, by omega, by omega, by omega, x1, x2, x3, x4⟩
    · have e1 : takT r (i + 1) = takT r i := by rw [takT, if_pos c]
      have e2 : occN r (i + 1) = occN r i := by rw [occN, if_pos c]
      rw [e1, e2]; exact ⟨i3, i4, i5, i6⟩
    · have e1 : takT r (i + 1) = up1 (takT r i) (occN r i) (i : Int) := by rw [takT, if_neg c]
      have e2 : occN r (i + 1) = occN r i + 1 := by rw [occN, if_neg c]
      rintro s17 rfl s18 rfl
      rw [e1, e2, up2_c (show (52 : Nat) ≠ 53 by decide), i4]
      refine ⟨fun d g0 g1 => by rw [up2_c g0, up2_c g1]; exact i3 d g0 g1, by rw [up2_s]; omega, by rw [up2_n (by decide), up2_c (by decide)]; exact i5, fun k hk => ?_⟩
      rw [up2_c (by decide), up2_e]
      unfold up1
      by_cases hk2 : k = occN r i
      · rw [if_pos (by omega), if_pos hk2]
      · rw [if_neg (by omega), if_neg hk2]; exact i6 k (by omega)
