/-! ===== bed: the model's loop, starts; the class's ===== -/
def plB (r : Nat → Int) : Nat → Int := fun j => if j = 3 then 1 else if j < 44 then 0 else r j
theorem plB_plain (r : Nat → Int) : PlainB (plB r) := by
  refine ⟨⟨rfl, rfl, rfl, rfl, rfl, rfl⟩, fun q hq => ?_, rfl⟩
  unfold plB
  rw [if_neg (by omega), if_pos (by omega)]
theorem m_plain {s : Mem} {Q : Mem → Prop} (hq : ∀ u : Mem, (∀ d, d ≠ 66 → u d = s d) → u 66 = plB (s 66) → Q u) : wp_X12_plain s Q := by
  unfold wp_X12_plain
  refine ⟨fun k y u => ∃ n : Nat, y = (n : Int) ∧ n ≤ 44 ∧ k = 44 - n ∧ (∀ d, d ≠ 66 → u d = s d) ∧ ∀ j : Nat, u 66 j = if j < n then 0 else s 66 j, ?_, 44, 0, rfl, by omega, rfl, fun _ _ => rfl, fun j => by rw [if_neg (by omega)]⟩
  rintro k y u ⟨n, rfl, n44, rfl, fu, hu⟩
  refine ⟨inR_s (by omega) (by omega), fun h => ?_, fun h => ⟨by omega, ?_⟩⟩
  · rintro s4 rfl
    refine hq _ (fun d hd => by rw [up2_c hd, fu d hd]) ?_
    rw [up2_r]
    funext j
    unfold plB
    rw [up1_e, hu j, show n = 44 by omega]
  · rintro s6 rfl x1 rfl
    refine ⟨44 - (n + 1), by omega, n + 1, by omega, by omega, rfl, fun d hd => by rw [up2_c hd, fu d hd], fun j => ?_⟩
    rw [up2_e, hu j]
    by_cases c : j = n
    · rw [if_pos (by omega), if_pos (by omega)]
    · rw [if_neg (by omega)]
      by_cases c2 : j < n
      · rw [if_pos c2, if_pos (by omega)]
      · rw [if_neg c2, if_neg (by omega)]
theorem m_starts {s : Mem} {Q : Mem → Prop} (ok : BedOk (s 66))
    (hq : ∀ u : Mem, (∀ d, d ≠ 65 → d ≠ 67 → d ≠ 69 → d ≠ 80 → u d = s d) → (∀ j, j ≠ 11 → j ≠ 18 → j ≠ 21 → u 65 j = s 65 j) → (u 65 11 = 0 ∧ u 65 18 = 0 ∧ u 65 21 = 0) → (∀ j : Nat, j < 44 → u 67 j = s 66 j) → u 69 0 = 0 →
      (∀ k : Nat, k < 6 → u 69 (1 + k) = (if (k : Int) < s 66 2 then (k : Int) else -1) ∧ u 69 (7 + k) = (if (k : Int) < s 66 2 then s 66 (12 + 4 * k) else 0)) → (u 80 0 = 0 ∧ u 80 15 = 0) → Q u) : wp_X12_starts s Q := by
  have h6 := ok.s6
  unfold wp_X12_starts
  refine ⟨fun k y u => ∃ n : Nat, y = (n : Int) ∧ n ≤ 44 ∧ k = 44 - n ∧ (∀ d, d ≠ 67 → u d = s d) ∧ ∀ j : Nat, j < n → u 67 j = s 66 j, ?_, 44, 0, rfl, by omega, rfl, fun _ _ => rfl, fun j hj => by omega⟩
  rintro k y u ⟨n, rfl, n44, rfl, fu, hu⟩
  refine ⟨inR_s (by omega) (by omega), fun h => ?_, fun h => ⟨by omega, ?_⟩⟩
  · rintro s4 rfl
    have v67 : ∀ j : Nat, j < 44 → up2 u 69 0 0 67 j = s 66 j := fun j hj => by rw [up2_c (by decide)]; exact hu j (by omega)
    have vd : ∀ d, d ≠ 67 → d ≠ 69 → up2 u 69 0 0 d = s d := fun d a b => by rw [up2_c b, fu d a]
    have v0 : up2 u 69 0 0 69 0 = 0 := up2_s
    generalize up2 u 69 0 0 = v at v67 vd v0
    refine ⟨fun k y t => ∃ n : Nat, y = (n : Int) ∧ n ≤ 6 ∧ k = 6 - n ∧ (∀ d, d ≠ 69 → t d = v d) ∧ t 69 0 = 0 ∧ ∀ k : Nat, k < n → t 69 (1 + k) = (if (k : Int) < s 66 2 then (k : Int) else -1) ∧ t 69 (7 + k) = (if (k : Int) < s 66 2 then s 66 (12 + 4 * k) else 0), ?_, 6, 0, rfl, by omega, rfl, fun _ _ => rfl, v0, fun j hj => by omega⟩
    rintro k y t ⟨i, rfl, i6, rfl, ft, t0, ht⟩
    refine ⟨inR_s (by omega) (by omega), fun h => ?_, fun h => ?_⟩
    · rintro s8 rfl s9 rfl s10 rfl s11 rfl s12 rfl
      refine hq _ (fun d a b c e => by rw [up2_c e, up2_c e, up2_c a, up2_c a, up2_c a, ft d c, vd d b c]) (fun j a b c => by rw [up2_c (by decide), up2_c (by decide), up2_n a, up2_n c, up2_n b, ft 65 (by decide), vd 65 (by decide) (by decide)]) ⟨by rw [up2_c (by decide), up2_c (by decide), up2_s], by rw [up2_c (by decide), up2_c (by decide), up2_n (by decide), up2_n (by decide), up2_s], by rw [up2_c (by decide), up2_c (by decide), up2_n (by decide), up2_s]⟩ (fun j hj => by rw [up2_c (by decide), up2_c (by decide), up2_c (by decide), up2_c (by decide), up2_c (by decide), ft 67 (by decide), v67 j hj]) (by rw [up2_c (by decide), up2_c (by decide), up2_c (by decide), up2_c (by decide), up2_c (by decide), t0]) (fun k hk => ?_) ⟨by rw [up2_n (by decide), up2_s], up2_s⟩
      rw [up2_c (by decide), up2_c (by decide), up2_c (by decide), up2_c (by decide), up2_c (by decide)]
      exact ht k (by omega)
    · have t2 : t 67 2 = s 66 2 := by rw [ft 67 (by decide), v67 2 (by decide)]
      rw [t2]
      refine ⟨inR_s (by omega) (by omega), ?_⟩
      rintro v14 rfl
      refine ⟨by omega, ?_⟩
      rintro s16 rfl
      rw [up2_c (by decide), t2]
      refine ⟨inR_s (by omega) (by omega), ⟨fun _ => trivial, fun _ => by omega⟩, ?_⟩
      rintro v19 rfl
      refine ⟨by omega, ?_⟩
      rintro s21 rfl x1 rfl
      refine ⟨6 - (i + 1), by omega, i + 1, by omega, by omega, rfl, fun d hd => by rw [up2_c hd, up2_c hd, ft d hd], by rw [up2_n (by omega), up2_n (by omega), t0], fun k hk => ?_⟩
      by_cases c : k = i
      · subst c
        rw [show (7 + (k : Int)).toNat = 7 + k by omega, show (1 + (k : Int)).toNat = 1 + k by omega, up2_n (by omega), up2_s, up2_s]
        by_cases c2 : (k : Int) < s 66 2
        · rw [if_neg (by omega), if_pos c2, if_neg (by omega), if_pos c2, ft 67 (by decide), v67 _ (by omega), show (12 + 4 * (k : Int)).toNat = 12 + 4 * k by omega]
          exact ⟨rfl, rfl⟩
        · rw [if_pos (by omega), if_neg c2, if_pos (by omega), if_neg c2]
          exact ⟨rfl, rfl⟩
      · rw [up2_n (by omega), up2_n (by omega), up2_n (by omega), up2_n (by omega)]
        exact ht k (by omega)
  · rintro s28 rfl x1 rfl
    refine ⟨44 - (n + 1), by omega, n + 1, by omega, by omega, rfl, fun d hd => by rw [up2_c hd, fu d hd], fun j hj => ?_⟩
    rw [up2_e]
    by_cases c : j = n
    · rw [if_pos (by omega), fu 66 (by decide), c]; rfl
    · rw [if_neg (by omega)]; exact hu j (by omega)
theorem m_bed {s : Mem} {x : Nat → Int} {L : Int} {R : (Nat → Int) ⊕ (Int × Int)} {Q : Int → Mem → Prop} (tx : TX x L) (tc : TXm s x L) (hR : allF x L 200 (sk x L 0) (plB (s 66)) = R)
    (hg : ∀ (t : Mem) (B : Nat → Int), (∀ d, d ≠ 65 → d ≠ 66 → t d = s d) → (∀ j, j ≠ 3 → j ≠ 4 → j ≠ 5 → j ≠ 6 → j ≠ 7 → t 65 j = s 65 j) → t 65 3 = 0 → t 65 6 = -1 → t 66 = B → R = .inl B → BI B → wp_X12_starts t (fun u => Q (u 67 2) u))
    (hb : ∀ (t : Mem) (c w : Int), (∀ d, d ≠ 65 → d ≠ 66 → t d = s d) → (∀ j, j ≠ 3 → j ≠ 4 → j ≠ 5 → j ≠ 6 → j ≠ 7 → t 65 j = s 65 j) → t 65 3 = 0 → t 65 6 = w → R = .inr (c, w) → (1 ≤ c ∧ c ≤ 4) → Q (-10 - c) t) : wp_X12_bed s Q := by
  have hL := tx.1
  unfold wp_X12_bed
  rintro s1 rfl s2 rfl s3 rfl
  have f0 : ∀ d, d ≠ 65 → up2 (up2 (up2 s 65 4 0) 65 5 0) 65 6 (-1) d = s d := fun d a => by rw [up2_c a, up2_c a, up2_c a]
  have g0 : ∀ j, j ≠ 4 → j ≠ 5 → j ≠ 6 → up2 (up2 (up2 s 65 4 0) 65 5 0) 65 6 (-1) 65 j = s 65 j := fun j a b c => by rw [up2_n c, up2_n b, up2_n a]
  have k4 : up2 (up2 (up2 s 65 4 0) 65 5 0) 65 6 (-1) 65 4 = 0 := by rw [up2_n (by decide), up2_n (by decide), up2_s]
  have k5 : up2 (up2 (up2 s 65 4 0) 65 5 0) 65 6 (-1) 65 5 = 0 := by rw [up2_n (by decide), up2_s]
  have k6 : up2 (up2 (up2 s 65 4 0) 65 5 0) 65 6 (-1) 65 6 = -1 := up2_s
  generalize up2 (up2 (up2 s 65 4 0) 65 5 0) 65 6 (-1) = v at f0 g0 k4 k5 k6
  refine m_plain (fun z fz zB => ?_)
  rw [f0 66 (by decide)] at zB
  have mz : MidM s z := ⟨fun d a b => by rw [fz d b, f0 d a], fun j a b c _ => by rw [fz 65 (by decide), g0 j a b c]⟩
  have hs0 := sk_in x L 0
  refine ⟨fun k t => MidM s t ∧ ((∃ (p : Int) (B : Nat → Int), allF x L k (sk x L p) B = R ∧ t 65 4 = p ∧ (0 ≤ p ∧ p ≤ L) ∧ (L - sk x L p).toNat ≤ k ∧ t 65 5 = 0 ∧ t 65 6 = -1 ∧ t 66 = B ∧ BI B) ∨ (∃ c w : Int, R = .inr (c, w) ∧ (1 ≤ c ∧ c ≤ 4) ∧ t 65 5 = c ∧ t 65 6 = w)), ?_, 200, mz, Or.inl ⟨0, plB (s 66), hR, by rw [fz 65 (by decide), k4], by omega, by omega, by rw [fz 65 (by decide), k5], by rw [fz 65 (by decide), k6], zB, (plB_plain _).bi⟩⟩
  rintro k t ⟨mt, hI⟩
  have it : inR (t 65 5) := by
    rcases hI with ⟨p, B, _, _, _, _, t5, _⟩ | ⟨c, w, _, hc, t5, _⟩
    · rw [t5]; exact inR_0
    · rw [t5]; exact inR_s (by omega) (by omega)
  refine ⟨it, fun t => MidM s t ∧ ((∃ B : Nat → Int, R = .inl B ∧ t 65 5 = 0 ∧ t 65 6 = -1 ∧ t 66 = B ∧ BI B) ∨ (∃ c w : Int, R = .inr (c, w) ∧ (1 ≤ c ∧ c ≤ 4) ∧ t 65 5 = c ∧ t 65 6 = w)), ?_, fun t0 => ?_, fun t0 => ?_⟩
  · rintro r ⟨mr, hr⟩ s8 rfl
    have fr : ∀ d, d ≠ 65 → d ≠ 66 → up2 r 65 3 0 d = s d := fun d a b => by rw [up2_c a, mr.1 d a b]
    have gr : ∀ j, j ≠ 3 → j ≠ 4 → j ≠ 5 → j ≠ 6 → j ≠ 7 → up2 r 65 3 0 65 j = s 65 j := fun j a b c d e => by rw [up2_n a, mr.2 j b c d e]
    rcases hr with ⟨B, eR, r5, r6, rB, bi⟩ | ⟨c, w, eR, hc, r5, r6⟩
    · rw [show up2 r 65 3 0 65 5 = 0 by rw [up2_n (by decide), r5]]
      exact ⟨inR_0, fun _ => hg _ B fr gr up2_s (by rw [up2_n (by decide), r6]) (by rw [up2_c (by decide), rB]) eR bi, fun z => absurd rfl z⟩
    · rw [show up2 r 65 3 0 65 5 = c by rw [up2_n (by decide), r5]]
      exact ⟨inR_s (by omega) (by omega), fun z => by omega, fun _ => hb _ c w fr gr up2_s (by rw [up2_n (by decide), r6]) eR hc⟩
  · rcases hI with ⟨p, B, h1, t4, hp, hk, t5, t6, tB, bi⟩ | ⟨c, w, _, hc, t5, _⟩
    · refine m_here tx (mt.tx tc) t4 hp.1 (by omega) (fun u fu gu u4 => ?_)
      have hh := hereV_in (p := p) tx hp.1
      have hs := sk_in x L p
      have hsL := hs.1.2 hp.2
      have mu : MidM s u := mt.trans ⟨fun d a _ => fu d a, fun j a _ _ _ => gu j a⟩
      have u5 : u 65 5 = 0 := by rw [gu 5 (by decide), t5]
      have u6 : u 65 6 = -1 := by rw [gu 6 (by decide), t6]
      have uB : u 66 = B := by rw [fu 66 (by decide), tB]
      refine ⟨inR_s (by omega) (by omega), fun h => ⟨mu, Or.inl ⟨B, ?_, u5, u6, uB, bi⟩⟩, fun h => ?_⟩
      · have hl : L ≤ sk x L p := by
          by_cases c : L ≤ sk x L p
          · exact c
          · unfold hereV at h
            rw [if_neg c] at h
            have := tx.2 (sk x L p) (by omega) (by omega)
            omega
        rw [← h1]
        cases k with
        | zero => rfl
        | succ f => rw [allF, if_pos hl]
      · have hl : ¬ L ≤ sk x L p := fun c => by
          unfold hereV at h
          rw [if_pos c] at h
          omega
        obtain ⟨f, rfl⟩ : ∃ f, k = f + 1 := ⟨k - 1, by omega⟩
        rw [allF, if_neg hl] at h1
        refine m_clause tx (mu.tx tc) u5 u6 u4 (by omega) (by omega) (sk_idem x L p) uB bi (fun w rw' => ?_)
        obtain ⟨mw, hw⟩ := rw'
        refine ⟨f, by omega, mu.trans mw, ?_⟩
        rcases hw with ⟨e, B', hc, w4, w5, w6, wB⟩ | ⟨c, w', hc, hc4, w5, w6⟩
        · have ha := clF_in bi hc
          have hse := sk_in x L e
          rw [hc] at h1
          have e0 : (e, B').1 = e := rfl
          exact Or.inl ⟨e, B', h1, w4, by omega, by omega, w5, w6, wB, ha.2⟩
        · rw [hc] at h1
          exact Or.inr ⟨c, w', h1.symm, hc4, w5, w6⟩
    · omega
  · rcases hI with ⟨p, B, h1, t4, hp, hk, t5, t6, tB, bi⟩ | hI
    · exact absurd t5 t0
    · exact ⟨mt, Or.inr hI⟩
theorem c_bedBecome {s : Mem} {Q : Mem → Prop} (h1 : s 10 1 = 0 ∨ s 10 1 = 1) (hq : ∀ u : Mem, (∀ d, ¬ (1 ≤ d ∧ d ≤ 7) → u d = s d) → (u 1 0 = s 10 0 ∧ u 1 1 = s 10 1 ∧ u 1 2 = s 10 2 ∧ u 1 3 = s 10 3) → (∀ j : Nat, j < 6 → u 2 j = s 11 j ∧ u 3 j = s 12 j ∧ u 4 j = s 13 j ∧ u 5 j = s 14 j ∧ u 6 j = s 15 j) → (∀ j : Nat, j < 8 → u 7 j = s 16 j) → Q u) : wp_X0_become s Q := by
  unfold wp_X0_become
  rintro s1 rfl
  refine ⟨by rw [up2_c (by decide)]; exact h1, ?_⟩
  rintro s3 rfl s4 rfl s5 rfl s6 rfl s7 rfl s8 rfl s9 rfl s10 rfl s11 rfl
  refine hq _ (fun d hd => ?_) ?_ (fun j hj => ?_) (fun j hj => ?_)
  · rw [upr_c (by omega), upr_c (by omega), upr_c (by omega), upr_c (by omega), upr_c (by omega), upr_c (by omega), up2_c (by omega), up2_c (by omega), up2_c (by omega), up2_c (by omega)]
  · simp [up2, upr, up1]
  · simp [up2, upr, up1, hj]
  · simp [up2, upr, up1, hj]
theorem c_layAll {s : Mem} {b2 : Int} {Q : Mem → Prop} (h2 : s 1 2 = b2) (hb : 0 ≤ b2 ∧ b2 ≤ 6) (hq : ∀ u : Mem, (∀ d, d ≠ 17 → d ≠ 18 → d ≠ 19 → u d = s d) → u 17 3 = 0 → (∀ k : Nat, k < 6 → u 18 k = (if (k : Int) < b2 then (k : Int) else -1) ∧ u 19 k = (if (k : Int) < b2 then s 3 k else 0)) → Q u) : wp_X4_layAll 17 s Q := by
  unfold wp_X4_layAll
  refine ⟨fun k y t => ∃ n : Nat, y = (n : Int) ∧ n ≤ 6 ∧ k = 6 - n ∧ (∀ d, d ≠ 18 → d ≠ 19 → t d = s d) ∧ ∀ k : Nat, k < n → t 18 k = (if (k : Int) < b2 then (k : Int) else -1) ∧ t 19 k = (if (k : Int) < b2 then s 3 k else 0), ?_, 6, 0, rfl, by omega, rfl, fun _ _ _ => rfl, fun j hj => by omega⟩
  rintro k y t ⟨i, rfl, i6, rfl, ft, ht⟩
  refine ⟨inR_s (by omega) (by omega), fun h => ?_, fun h => ?_⟩
  · rintro s4 rfl
    refine hq _ (fun d a b c => by rw [up2_c a, ft d b c]) up2_s (fun k hk => ?_)
    rw [up2_c (by decide), up2_c (by decide)]
    exact ht k (by omega)
  · rw [ft 1 (by decide) (by decide), h2]
    refine ⟨inR_s (by omega) (by omega), ?_⟩
    rintro v6 rfl
    refine ⟨by split <;> exact inR_s (by omega) (by omega), ?_⟩
    rintro v8 rfl
    refine ⟨by omega, ?_⟩
    rintro s10 rfl v11 rfl s12 rfl x1 rfl
    refine ⟨6 - (i + 1), by omega, i + 1, by omega, by omega, rfl, fun d a b => by rw [up2_c b, up2_c a, ft d a b], fun k hk => ?_⟩
    rw [show (17 + 1 : Nat) = 18 from rfl, show (17 + 2 : Nat) = 19 from rfl, up2_c (show (18 : Nat) ≠ 19 by decide), up2_e, up2_e, up2_c (show (19 : Nat) ≠ 18 by decide), up2_c (show (3 : Nat) ≠ 18 by decide), ft 3 (by decide) (by decide), Int.toNat_natCast]
    by_cases c : k = i
    · subst c
      rw [if_pos rfl, if_pos rfl]
      by_cases c2 : (k : Int) < b2
      · rw [if_neg (by omega : ¬ b2 ≤ (k : Int)), if_neg (show ¬ (1 : Int) = 0 by decide), if_neg (show ¬ (1 : Int) = 0 by decide), if_pos c2, if_pos c2]; exact ⟨rfl, rfl⟩
      · rw [if_pos (by omega : b2 ≤ (k : Int)), if_pos rfl, if_pos rfl, if_neg c2, if_neg c2]; exact ⟨rfl, rfl⟩
    · rw [if_neg c, if_neg c]
      exact ht k (by omega)
