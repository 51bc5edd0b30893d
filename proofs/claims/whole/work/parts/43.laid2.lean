/-- the taken places, rising -/
def Tak (b r : Nat → Int) (T : Nat → Int) (i n : Nat) : Prop := (∀ k : Nat, k < n → (0 ≤ T k ∧ T k < (i : Int)) ∧ whoOf r (T k) ≠ -1) ∧ (∀ k l : Nat, k < n → l < n → T k = T l → k = l) ∧ (∀ p : Int, 0 ≤ p → p < (i : Int) → whoOf r p ≠ -1 → ∃ k : Nat, k < n ∧ T k = p) ∧ n = occN r i
def layR (T ds r : Nat → Int) : Nat → Nat → Int
  | 0 => r
  | k + 1 => up1 (layR T ds r k) (1 + T k).toNat (ds k)
theorem lay_who {T ds r : Nat → Int} : ∀ (n : Nat) (p : Int), 0 ≤ p → (∀ k : Nat, k < n → 0 ≤ T k) → (∀ k l : Nat, k < n → l < n → T k = T l → k = l) → (∃ k : Nat, k < n ∧ T k = p ∧ whoOf (layR T ds r n) p = ds k) ∨ ((∀ k : Nat, k < n → T k ≠ p) ∧ whoOf (layR T ds r n) p = whoOf r p)
  | 0, p, _, _, _ => Or.inr ⟨fun k hk => by omega, rfl⟩
  | n + 1, p, h0, h1, h2 => by
    have ih := lay_who (T := T) (ds := ds) (r := r) n p h0 (fun k hk => h1 k (by omega)) (fun k l hk hl => h2 k l (by omega) (by omega))
    rw [layR, whoOf_put h0 (h1 n (by omega))]
    by_cases c : p = T n
    · rw [if_pos c]
      exact Or.inl ⟨n, by omega, c.symm, rfl⟩
    · rw [if_neg c]
      rcases ih with ⟨k, hk, e1, e2⟩ | ⟨e1, e2⟩
      · exact Or.inl ⟨k, by omega, e1, e2⟩
      · refine Or.inr ⟨fun k hk => ?_, e2⟩
        by_cases ek : k = n
        · rw [ek]; exact fun q => c q.symm
        · exact e1 k (by omega)
theorem lay_warm {T ds r : Nat → Int} {s : Int} (h0 : 0 ≤ s) : ∀ n : Nat, (∀ k : Nat, k < n → 0 ≤ T k ∧ T k < 6) → warmOf (layR T ds r n) s = warmOf r s
  | 0, _ => rfl
  | n + 1, h => by
    rw [layR, warmOf_put h0 (h n (by omega)).1 (h n (by omega)).2]
    exact lay_warm h0 n (fun k hk => h k (by omega))
theorem lay_hi {T ds r : Nat → Int} {j : Nat} (hj : 13 ≤ j) : ∀ n : Nat, (∀ k : Nat, k < n → 0 ≤ T k ∧ T k < 6) → layR T ds r n j = r j
  | 0, _ => rfl
  | n + 1, h => by
    have := h n (by omega)
    rw [layR]
    unfold up1
    rw [if_neg (by omega)]
    exact lay_hi hj n (fun k hk => h k (by omega))
/-- one order: each of those in bed once -/
def Ord (b r ds : Nat → Int) (n : Nat) : Prop := (∀ k : Nat, k < n → 0 ≤ ds k ∧ ds k < b 2) ∧ (∀ k l : Nat, k < n → l < n → ds k = ds l → k = l)
theorem lay_ok {b r T ds : Nat → Int} {n : Nat} (ok : BedOk b) (nk : NightOk b r) (tk : Tak b r T (b 0).toNat n) (od : Ord b r ds n) : NightOk b (layR T ds r n) := by
  have hn := ok.n6
  obtain ⟨t1, t2, t3, _⟩ := tk
  have tt : ∀ k : Nat, k < n → 0 ≤ T k ∧ T k < 6 := fun k hk => by have := (t1 k hk).1; omega
  have W : ∀ p : Int, 0 ≤ p → p < 6 → (∃ k : Nat, k < n ∧ T k = p ∧ whoOf (layR T ds r n) p = ds k) ∨ whoOf (layR T ds r n) p = -1 := by
    intro p p0 p1
    rcases lay_who (T := T) (ds := ds) (r := r) n p p0 (fun k hk => (tt k hk).1) t2 with h | ⟨h1, h2⟩
    · exact Or.inl h
    · refine Or.inr ?_
      rw [h2]
      by_cases c : p < b 0
      · by_cases d : whoOf r p = -1
        · exact d
        · obtain ⟨k, hk, e⟩ := t3 p p0 (by omega) d
          exact absurd e (h1 k hk)
      · exact (nk.1 p p0 p1).2.1 (by omega)
  refine ⟨fun p p0 p1 => ?_, fun p q p0 p1 q0 q1 he hne => ?_⟩
  · rw [lay_warm p0 n tt]
    refine ⟨?_, fun h => ?_, (nk.1 p p0 p1).2.2⟩
    · rcases W p p0 p1 with ⟨k, hk, e1, e2⟩ | e
      · have := od.1 k hk; rw [e2]; omega
      · rw [e]; have := ok.s6; omega
    · rcases W p p0 p1 with ⟨k, hk, e1, e2⟩ | e
      · have := (t1 k hk).1; omega
      · exact e
  · rcases W p p0 p1 with ⟨k, hk, e1, e2⟩ | e
    · rcases W q q0 q1 with ⟨l, hl, g1, g2⟩ | g
      · rw [e2, g2] at he
        rw [← e1, ← g1, od.2 k l hk hl he]
      · rw [g] at he; exact absurd he hne
    · exact absurd e hne
theorem lay_cold {b r T ds : Nat → Int} {n : Nat} (ok : BedOk b) (nk : NightOk b r) (tk : Tak b r T (b 0).toNat n) (od : Ord b r ds n) (h : 1 ≤ n) (N : Int) : 2 ≤ coldV b (warmR b (layR T ds r n) N) ∧ coldV b (warmR b (layR T ds r n) N) ≤ 199 := by
  have hn := ok.n6
  have h6 := ok.s6
  have lk := lay_ok ok nk tk od
  obtain ⟨t1, t2, t3, _⟩ := tk
  have d0 := od.1 0 (by omega)
  have T0 := t1 0 (by omega)
  have e : whoOf (layR T ds r n) (T 0) = ds 0 := by
    rcases lay_who (T := T) (ds := ds) (r := r) n (T 0) T0.1.1 (fun k hk => (t1 k hk).1.1) t2 with ⟨k, hk, e1, e2⟩ | ⟨h1, _⟩
    · rw [e2, t2 k 0 hk (by omega) e1]
    · exact absurd rfl (h1 0 (by omega))
  rcases coldV_spec ok (lk.warm N) with ⟨_, g⟩ | ⟨g1, g2, _⟩
  · exfalso
    have := g (ds 0) d0.1 d0.2
    rw [inS_wa hn.2 (t := warmR b (layR T ds r n) N) (u := layR T ds r n) (fun p h0 h1 => whoOf_warmR h0 h1)] at this
    have q : plOf b (layR T ds r n) (ds 0) = T 0 := (pl_who ok lk (by omega) T0.1.1 (by omega)).mpr e
    unfold inS at this
    rw [q] at this
    have := of_decide_eq_false this
    omega
  · exact ⟨g1, g2⟩
def lok (b r : Nat → Int) (n p : Nat) : Bool := decide (bset (unN (dq n p) n) = inV b r)
theorem bs_inj : ∀ (s : Fin 6) (a0 a1 a2 a3 a4 a5 : Bool), [a0, a1, a2, a3, a4, a5].getD s.val false = (zand (zshr (bs a0 a1 a2 a3 a4 a5) (s.val : Int)) 1 == 1) := by decide +kernel
theorem bset_inj {F G : Int → Bool} (h : bset F = bset G) : ∀ s : Int, 0 ≤ s → s < 6 → F s = G s := by
  intro s h0 h1
  have a := bset_test F h0 h1
  have c := bset_test G h0 h1
  rw [h, c] at a
  cases hF : F s <;> cases hG : G s <;> rw [hF, hG] at a <;> first | rfl | exact absurd a (by decide)
theorem lok_ord {b r T : Nat → Int} {n p : Nat} (ok : BedOk b) (nk : NightOk b r) (tk : Tak b r T (b 0).toNat n) (h : lok b r n p = true) : Ord b r (dq n p) n := by
  have hn := ok.n6
  have e := bset_inj (of_decide_eq_true h)
  have pc : pcF (unN (dq n p) n) = (n : Int) := by
    rw [pcF_ext e, tk.2.2.2]
    have := occ_pc ok nk (b 0).toNat (by omega)
    rw [← this]
    exact pcF_ext (fun s _ _ => (inT_S (b := b) rfl s).symm)
  refine ⟨fun k hk => ?_, ?_⟩
  · have hd := dq_in n p k
    have : inS b r (dq n p k) = true := by rw [← e _ hd.1 hd.2]; exact (unN_iff n).mpr ⟨k, hk, rfl⟩
    exact ⟨hd.1, inS_lt ok nk hd.1 this⟩
  · have key : ∀ l k : Nat, l < k → k < n → dq n p l ≠ dq n p k := by
      intro l k hlk hk q
      rcases pcF_step (dq_in n p) k with ⟨c1, c2⟩ | ⟨c1, c2⟩
      · have hle : ∀ m : Nat, pcF (unN (dq n p) m) ≤ (m : Int) := by
          intro m
          induction m with
          | zero => exact Int.le_refl 0
          | succ m ih => rcases pcF_step (dq_in n p) m with h | h <;> omega
        have h1 := hle k
        have := pcF_rep (dq_in n p) (d := k + 1) (by omega) (n - (k + 1))
        rw [show k + 1 + (n - (k + 1)) = n by omega, pc] at this
        omega
      · have : unN (dq n p) k (dq n p k) = true := (unN_iff k).mpr ⟨l, hlk, q⟩
        rw [c1] at this
        exact Bool.noConfusion this
    intro k l hk hl q
    rcases Nat.lt_trichotomy k l with c | c | c
    · exact absurd q (key k l c hl)
    · exact c
    · exact absurd q.symm (key l k c hk)
def ldF (b r T : Nat → Int) (n : Nat) (N : Int) : Nat → Int × Int
  | 0 => (-1, -1)
  | k + 1 => if lok b r n k = true ∧ (ldF b r T n N k).1 < coldV b (warmR b (layR T (dq n k) r n) N) then (coldV b (warmR b (layR T (dq n k) r n) N), (k : Int)) else ldF b r T n N k
theorem ldF_ok {b r T : Nat → Int} {n : Nat} {N : Int} (ok : BedOk b) (nk : NightOk b r) (tk : Tak b r T (b 0).toNat n) (h : 1 ≤ n) : ∀ k : Nat, ((ldF b r T n N k).1 = -1 ∧ (ldF b r T n N k).2 = -1 ∧ ∀ j : Nat, j < k → ¬ lok b r n j = true) ∨ ((2 ≤ (ldF b r T n N k).1 ∧ (ldF b r T n N k).1 ≤ 199) ∧ 0 ≤ (ldF b r T n N k).2 ∧ (ldF b r T n N k).2 < (k : Int))
  | 0 => Or.inl ⟨rfl, rfl, fun j hj => by omega⟩
  | k + 1 => by
    have ih := ldF_ok (N := N) ok nk tk h k
    rw [ldF]
    by_cases c : lok b r n k = true ∧ (ldF b r T n N k).1 < coldV b (warmR b (layR T (dq n k) r n) N)
    · rw [if_pos c]
      have := lay_cold ok nk tk (lok_ord ok nk tk c.1) h N
      exact Or.inr ⟨this, by dsimp only; omega, by dsimp only; omega⟩
    · rw [if_neg c]
      rcases ih with ⟨a1, a2, a3⟩ | ⟨a1, a2, a3⟩
      · refine Or.inl ⟨a1, a2, fun j hj => ?_⟩
        by_cases e : j = k
        · rw [e]
          intro q
          have := lay_cold ok nk tk (lok_ord ok nk tk q) h N
          exact c ⟨q, by omega⟩
        · exact a3 j (by omega)
      · exact Or.inr ⟨a1, a2, by omega⟩
theorem ldF_skip {b r T : Nat → Int} {n p : Nat} {N : Int} : ∀ m : Nat, (∀ j : Nat, p ≤ j → j < p + m → ¬ lok b r n j = true) → ldF b r T n N (p + m) = ldF b r T n N p
  | 0, _ => rfl
  | m + 1, h => by
    rw [← Nat.add_assoc, ldF, if_neg (fun q => h (p + m) (by omega) (by omega) q.1)]
    exact ldF_skip m (fun j h0 h1 => h j h0 (by omega))
theorem lok_some {b r T : Nat → Int} {n : Nat} (ok : BedOk b) (nk : NightOk b r) (tk : Tak b r T (b 0).toNat n) : ∃ p : Nat, p < 6 ^ n ∧ lok b r n p = true := by
  have hn := ok.n6
  have h6 := ok.s6
  obtain ⟨t1, t2, t3, _⟩ := tk
  have hw : ∀ k : Nat, k < n → 0 ≤ whoOf r (T k) ∧ whoOf r (T k) < 6 := fun k hk => by
    have := t1 k hk
    have := (nk.1 (T k) (by omega) (by omega)).1
    omega
  generalize hds : (fun k : Nat => if k < n then (whoOf r (T k)).toNat else 0) = ds
  have h : ∀ k, ds k < 6 := fun k => by
    rw [← hds]
    dsimp only
    split
    · have := hw k (by assumption); omega
    · omega
  refine ⟨pv6 ds n, pv6_lt h n, decide_eq_true (bset_ext (fun s s0 s1 => ?_))⟩
  refine Bool.eq_iff_iff.mpr ?_
  rw [unN_iff]
  unfold inS
  rw [decide_eq_true_iff]
  have hd : ∀ k : Nat, k < n → dq n (pv6 ds n) k = whoOf r (T k) := fun k hk => by
    rw [pv6_dq h hk, ← hds]
    dsimp only
    rw [if_pos hk, Int.toNat_of_nonneg (hw k hk).1]
  constructor
  · rintro ⟨k, hk, e⟩
    rw [hd k hk] at e
    have := (t1 k hk).1
    rw [(pl_who ok nk (by omega) this.1 (by omega)).mpr e]
    omega
  · intro q
    rcases plOf_spec (b := b) (r := r) hn.1 s with ⟨g1, g2, g3⟩ | ⟨g1, _⟩
    · obtain ⟨k, hk, e⟩ := t3 _ g1 (by omega) (by rw [g3]; omega)
      exact ⟨k, hk, by rw [hd k hk, e, g3]⟩
    · exact absurd g1 q
theorem pw6_le {n : Nat} (h : n ≤ 6) : 1 ≤ 6 ^ n ∧ 6 ^ n ≤ 46656 := by
  have h1 : 6 ^ n ≤ 6 ^ 6 := Nat.pow_le_pow_right (by decide) h
  have h2 : (6 : Nat) ^ 6 = 46656 := by decide
  have h3 : 0 < 6 ^ n := Nat.pow_pos (by decide)
  omega
def LdC (s : Mem) (n : Nat) (X : Int × Int) : Prop := s 52 5 = X.1 ∧ (X.2 ≠ -1 → ∀ k : Nat, k < n → s 55 k = dq n X.2.toNat k)
theorem LdC.keep {s t : Mem} {n : Nat} {X : Int × Int} (h : LdC s n X) (h1 : t 52 = s 52) (h2 : t 55 = s 55) : LdC t n X := by unfold LdC; rw [h1, h2]; exact h
theorem c_compareL {b r T : Nat → Int} (ok : BedOk b) (nk : NightOk b r) {n p : Nat} {N : Int} (hn : 1 ≤ n ∧ n ≤ 6) (tk : Tak b r T (b 0).toNat n) (hN : 1 ≤ N ∧ N ≤ 9) {s : Mem} {Q : Mem → Prop} (bc : BedC s b) (nc : NightC s 17 r) (h4 : s 52 4 = (n : Int)) (hT : ∀ k : Nat, k < n → s 53 k = T k) (hw : ∀ k : Nat, k < n → s 54 k = dq n p k) (hl : lok b r n p = true) (hs : LdC s n (ldF b r T n N p))
    (hq : ∀ u : Mem, (∀ e : Nat, e ≠ 20 → e ≠ 21 → e ≠ 22 → e ≠ 52 → e ≠ 55 → u e = s e) → u 52 4 = s 52 4 → LdC u n (ldF b r T n N (p + 1)) → Q u) : wp_X3_compare 17 N s Q := by
  have hb := ok.n6
  have od := lok_ord ok nk tk hl
  have lk := lay_ok ok nk tk od
  have hc := lay_cold ok nk tk od hn.1 N
  have hld := ldF_ok (N := N) ok nk tk hn.1 p
  unfold wp_X3_compare
  refine c_become isN_20 isN_17 nc (fun t nt ft => ?_)
  refine ⟨fun k y s' => ∃ i : Nat, y = (i : Int) ∧ i ≤ n ∧ k + i = n ∧ (∀ e : Nat, e ≠ 20 → e ≠ 21 → e ≠ 22 → s' e = s e) ∧ NightC s' 20 (layR T (dq n p) r i), ?_, n, 0, rfl, by omega, rfl, ft, nt⟩
  rintro k y s' ⟨i, rfl, i1, i2, i3, i4⟩
  rw [i3 52 (by decide) (by decide) (by decide), h4]
  refine ⟨inR_s (by omega) (by omega), inR_s (by omega) (by omega), fun h => ?_, fun h => ⟨by omega, ?_⟩⟩
  · have e : i = n := by omega
    rw [e] at i4
    refine c_stay isN_20 (bc.keep (fun d g0 g1 => i3 d (by omega) (by omega) (by omega))) i4 ok lk hN.1 hN.2 (fun u nu fu => ?_)
    have f : ∀ e : Nat, e ≠ 20 → e ≠ 21 → e ≠ 22 → u e = s e := fun e g0 g1 g2 => by rw [fu e g2]; exact i3 e g0 g1 g2
    refine c_coldest (bc.keep (fun d g0 g1 => f d (by omega) (by omega) (by omega))) nu ok (lk.warm N) ?_
    have u52 : u 52 = s 52 := f 52 (by decide) (by decide) (by decide)
    rw [u52, hs.1]
    refine ⟨inR_s (by omega) (by omega), by rcases hld with h | h <;> exact inR_s (by omega) (by omega), fun c => ?_, fun c => ?_⟩
    · refine hq u (fun e g0 g1 g2 _ _ => f e g0 g1 g2) (by rw [u52]) ?_
      rw [ldF, if_neg (fun q => by omega)]
      exact hs.keep u52 (f 55 (by decide) (by decide) (by decide))
    · rintro s10 rfl s11 rfl
      refine hq _ (fun e g0 g1 g2 g3 g4 => by rw [upr_c g4, up2_c g3]; exact f e g0 g1 g2) (by rw [upr_c (by decide), up2_n (by decide), u52]) ?_
      rw [ldF, if_pos ⟨hl, by omega⟩]
      refine ⟨by rw [upr_c (by decide), up2_s], fun _ k hk => ?_⟩
      rw [upr_s, if_pos (by omega), up2_c (by decide), f 54 (by decide) (by decide) (by decide)]
      exact hw k hk
  · rw [show (i : Int).toNat = i by omega, i3 53 (by decide) (by decide) (by decide), i3 54 (by decide) (by decide) (by decide), hT i (by omega), hw i (by omega)]
    have ht := (tk.1 i (by omega)).1
    refine ⟨by omega, ?_⟩
    rintro s14 rfl x3 rfl
    exact ⟨k - 1, by omega, i + 1, by omega, by omega, by omega, fun e g0 g1 g2 => by rw [up2_c g1]; exact i3 e g0 g1 g2, i4.put ht.1 (by omega)⟩
theorem left_tab : ∀ (s : Fin 6) (a0 a1 a2 a3 a4 a5 : Bool), zand (bs a0 a1 a2 a3 a4 a5) (zxor (zshl 1 (s.val : Int)) (-1)) = bs (a0 && !(s.val == 0)) (a1 && !(s.val == 1)) (a2 && !(s.val == 2)) (a3 && !(s.val == 3)) (a4 && !(s.val == 4)) (a5 && !(s.val == 5)) := by decide +kernel
theorem bset_less (F : Int → Bool) {s : Int} (h0 : 0 ≤ s) (h1 : s < 6) : zand (bset F) (zxor (zshl 1 s) (-1)) = bset (fun t => F t && !decide (t = s)) := by
  obtain ⟨f, rfl⟩ := fin6 h0 h1
  unfold bset
  rw [left_tab]
  match f with
  | ⟨0, _⟩ => rfl
  | ⟨1, _⟩ => rfl
  | ⟨2, _⟩ => rfl
  | ⟨3, _⟩ => rfl
  | ⟨4, _⟩ => rfl
  | ⟨5, _⟩ => rfl
def leftS (b r : Nat → Int) (ds : Nat → Int) (d : Nat) : Int → Bool := fun t => inS b r t && !unN ds d t
