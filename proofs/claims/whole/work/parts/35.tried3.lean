/-! the book -/
def itB (b : Nat → Int) (ws : Nat → Int) (r : Nat → Int) : Nat → Nat → Int
  | 0 => r
  | n + 1 => goesR b (itB b ws r n) (ws n)
def wrN (b : Nat → Int) (ws : Nat → Int) (r : Nat → Int) : Nat → Int
  | 0 => -1
  | n + 1 => if wrN b ws r n = -1 ∧ awV b (itB b ws r (n + 1)) ≠ 0 then (n : Int) else wrN b ws r n
theorem itB_ok {b ws r : Nat → Int} (ok : BedOk b) (nk : NightOk b r) : ∀ n : Nat, NightOk b (itB b ws r n)
  | 0 => nk
  | n + 1 => (itB_ok ok nk n).goes ok _
theorem itB_hi {b ws r : Nat → Int} (ok : BedOk b) : ∀ (n : Nat) {j : Nat}, 13 ≤ j → itB b ws r n j = r j
  | 0, _, _ => rfl
  | n + 1, j, h => by
    show goesR b (itB b ws r n) (ws n) j = _
    rw [goesR_hi ok h]
    exact itB_hi ok n h
theorem wrN_in (b ws r : Nat → Int) : ∀ n : Nat, -1 ≤ wrN b ws r n ∧ wrN b ws r n ≤ n
  | 0 => by unfold wrN; omega
  | n + 1 => by
    have := wrN_in b ws r n
    unfold wrN
    split <;> omega
theorem pub_judge {a : Int} (ha : inR a) : Good (fun σ Q => wp_X11_judge a σ Q) (fun σ Q => wp_X12_judge a σ Q) := by
  intro σ hR
  have hR' := hR
  obtain ⟨ok, bc, ⟨x, pc, pm⟩, ⟨tr, ir, sr, nr, br⟩⟩ := hR'
  show wp_X11_judge a σ (fun r t => wp_X12_judge a t (fun r' u => r = r' ∧ Rel u))
  have nk := pc.2.2.1
  have m9 := pm.2.2
  obtain ⟨b1, b2, b3⟩ := br
  have awr : ∀ y : Nat → Int, 0 ≤ awV (σ 67) y ∧ awV (σ 67) y ≤ 63 := fun y => bset_range _
  have inr : ∀ y : Nat → Int, 0 ≤ inV (σ 67) y ∧ inV (σ 67) y ≤ 63 := fun y => bset_range _
  have hin := inr x.2.2
  generalize hn : (σ 65 21).toNat = n0
  have hN : ¬ inV (σ 67) x.2.2 = 0 → 2 ≤ σ 67 0 := by
    intro h3
    rcases ok.1 with c | c
    · exfalso
      exact h3 ((inV_0 ok nk).mpr (fun p p0 p1 => by omega))
    · exact c.1
  have m_part : ∀ (t : Mem) (P : Int → Mem → Prop), t 65 = σ 65 → t 67 = σ 67 → t 69 = σ 69 → t 79 = σ 79 → (¬ (a = 0 ∨ a = 1) → P (-1000000002) t) → ((a = 0 ∨ a = 1) → (inV (σ 67) x.2.2 = 0 → P (-1000000003) t) ∧ (¬ inV (σ 67) x.2.2 = 0 → ∀ u : Mem, (∀ d, d ≠ 70 → d ≠ 72 → u d = t d) → P (if a = 0 then wrN (σ 67) (σ 79) x.2.2 n0 else coldV (σ 67) (itB (σ 67) (σ 79) x.2.2 n0)) u)) → wp_X12_judge a t P := by
    intro t P h5 h7 h9 h79 g1 g2
    unfold wp_X12_judge
    refine ⟨ha, m_in ha inR_0 (inR_s (by omega) (by omega)) ?_⟩
    by_cases q : a = 0 ∨ a = 1
    · rw [if_pos (by omega)]
      obtain ⟨g3, g4⟩ := g2 q
      refine ⟨inR_s (by omega) (by omega), fun z => absurd z (by decide), fun _ => m_inBed (by rw [h7]; exact ok) (by rw [h7, h9, m9]; exact nk) ?_⟩
      rw [h7, h9, m9]
      refine ⟨inR_s (by omega) (by omega), g3, fun hz => m_asides (fun w fw gw => ?_)⟩
      have w72 : ∀ j : Nat, j < 13 → w 72 j = x.2.2 j := fun j hj => by rw [gw j hj, h9, m9]
      refine ⟨fun k y z s => ∃ n : Nat, z = (n : Int) ∧ k + n = n0 ∧ y = wrN (σ 67) (σ 79) x.2.2 n ∧ (∀ d, d ≠ 69 → d ≠ 70 → s d = w d) ∧ s 69 = itB (σ 67) (σ 79) x.2.2 n, ?_, n0, 0, rfl, rfl, rfl, fun _ _ _ => rfl, by rw [fw 69 (by decide), h9, m9]; rfl⟩
      rintro k y z s ⟨n, rfl, n3, rfl, n4, n5⟩
      have s7 : s 67 = σ 67 := by rw [n4 67 (by decide) (by decide), fw 67 (by decide), h7]
      have s65 : s 65 = σ 65 := by rw [n4 65 (by decide) (by decide), fw 65 (by decide), h5]
      have s79 : s 79 = σ 79 := by rw [n4 79 (by decide) (by decide), fw 79 (by decide), h79]
      have oks : BedOk (s 67) := by rw [s7]; exact ok
      have nks : NightOk (s 67) (s 69) := by rw [s7, n5]; exact itB_ok ok nk n
      rw [s65, s79]
      refine ⟨inR_s (by omega) (by omega), inR_s (by omega) (by omega), fun h => m_coldest oks nks ?_, fun h => ⟨by omega, ?_⟩⟩
      · have e : n = n0 := by omega
        rw [s7, n5]
        refine m_backs (r := x.2.2) (fun j hj => by rw [n4 72 (by decide) (by decide)]; exact w72 j hj) (fun j hj => by rw [n5]; exact itB_hi ok n hj) (fun u fu hu => ?_)
        have ff : ∀ d, d ≠ 70 → d ≠ 72 → u d = t d := by
          intro d h0 h1
          by_cases hd : d = 69
          · rw [hd, hu, h9, m9]
          · rw [fu d hd, n4 d hd h0, fw d h1]
        have := g4 hz u ff
        rw [e]
        refine ⟨fun c => ?_, fun c => ?_⟩
        · rw [if_pos c] at this; exact this
        · rw [if_neg c] at this; exact this
      · have hbk := b3 (n : Int) (by omega) (by omega)
        have e79 : σ 79 (n : Int).toNat = σ 79 n := by rw [show (n : Int).toNat = n by omega]
        rw [e79] at hbk ⊢
        refine m_goesOn oks nks (inR_s (by omega) (by omega)) (Or.inl (by rw [s7]; exact hN hz)) (fun u hu fu => ?_)
        rw [s7, n5] at hu
        have hu' : u 69 = itB (σ 67) (σ 79) x.2.2 (n + 1) := hu
        have u7 : u 67 = σ 67 := by rw [fu 67 (by decide) (by decide), s7]
        have hwr := wrN_in (σ 67) (σ 79) x.2.2 n
        have hb2 := awr (itB (σ 67) (σ 79) x.2.2 (n + 1))
        refine ⟨inR_s (by omega) (by omega), fun v => v = wrN (σ 67) (σ 79) x.2.2 (n + 1), ?_, ¬ (wrN (σ 67) (σ 79) x.2.2 n = -1 ∧ awV (σ 67) (itB (σ 67) (σ 79) x.2.2 (n + 1)) ≠ 0), fun c => ?_, fun c => m_awake (by rw [u7]; exact ok) (by rw [u7, hu']; exact itB_ok ok nk _) ?_, fun c d => c d.1⟩
        · rintro v rfl x3 rfl
          exact ⟨k - 1, by omega, n + 1, by omega, by omega, rfl, fun d d0 d1 => by rw [fu d d0 d1]; exact n4 d d0 d1, hu'⟩
        · rw [wrN, if_neg c]
        · rw [u7, hu']
          refine ⟨inR_s (by omega) (by omega), fun e d => d.2 e, fun e => ?_⟩
          rw [wrN, if_pos ⟨c, e⟩]
    · rw [if_neg (by omega)]
      exact ⟨inR_0, fun _ => g1 q, fun z => absurd rfl z⟩
  unfold wp_X11_judge
  refine ⟨ha, a = 0 ∨ a = 1, fun q => ?_, fun h => Or.inl h, fun h => ⟨fun h2 => Or.inr h2, fun h2 => m_part σ _ rfl rfl rfl rfl (fun _ => ⟨rfl, hR⟩) (fun z => by omega)⟩⟩
  refine c_inBed bc pc.2.1 ok nk ⟨inR_s (by omega) (by omega), fun hz => m_part σ _ rfl rfl rfl rfl (fun z => absurd q z) (fun _ => ⟨fun _ => ⟨rfl, hR⟩, fun z => absurd hz z⟩), fun hz => ?_⟩
  refine c_become isN_20 isN_17 pc.2.1 (fun t nt ft => ?_)
  have done : ∀ (v : Int) (s : Mem), v = (if a = 0 then wrN (σ 67) (σ 79) x.2.2 n0 else coldV (σ 67) (itB (σ 67) (σ 79) x.2.2 n0)) → (∀ d, d ≠ 20 → d ≠ 21 → d ≠ 22 → s d = σ d) → wp_X12_judge a s (fun r' u => v = r' ∧ Rel u) := by
    intro v s hv fs
    refine m_part s _ (fs 65 (by decide) (by decide) (by decide)) (fs 67 (by decide) (by decide) (by decide)) (fs 69 (by decide) (by decide) (by decide)) (fs 79 (by decide) (by decide) (by decide)) (fun z => absurd q z) (fun _ => ⟨fun z => absurd z hz, fun _ u fu => ⟨hv, ?_⟩⟩)
    have f : ∀ d, d ≠ 20 → d ≠ 21 → d ≠ 22 → d ≠ 70 → d ≠ 72 → u d = σ d := fun d h0 h1 h2 h3 h4 => (fu d h3 h4).trans (fs d h0 h1 h2)
    have u65 : u 65 = σ 65 := f 65 (by decide) (by decide) (by decide) (by decide) (by decide)
    refine hR.tried (fun d hd => ?_) (by rw [f 60 (by decide) (by decide) (by decide) (by decide) (by decide)]) ⟨by rw [u65], by rw [u65], by rw [u65], by rw [u65], by rw [u65], by rw [u65]⟩
    unfold jk at hd
    exact f d (by omega) (by omega) (by omega) (by omega) (by omega)
  unfold wp_X1_sayTo
  refine ⟨fun k y z s => ∃ n : Nat, z = (n : Int) ∧ k + n = n0 ∧ y = wrN (σ 67) (σ 79) x.2.2 n ∧ (∀ d, d ≠ 20 → d ≠ 21 → d ≠ 22 → s d = σ d) ∧ NightC s 20 (itB (σ 67) (σ 79) x.2.2 n), ?_, n0, 0, rfl, rfl, rfl, ft, nt⟩
  rintro k y z s ⟨n, rfl, n3, rfl, n4, n5⟩
  have bs' : BedC s (σ 67) := bc.keep (fun d h0 h1 => n4 d (by omega) (by omega) (by omega))
  rw [n4 63 (by decide) (by decide) (by decide), n4 64 (by decide) (by decide) (by decide), b1]
  refine ⟨inR_s (by omega) (by omega), inR_s (by omega) (by omega), fun h => ?_, fun h => ⟨by omega, ?_⟩⟩
  · have e : n = n0 := by omega
    rw [e] at n5 ⊢
    refine ⟨fun c => done _ s (by rw [if_pos c]) n4, fun c => c_coldest bs' n5 ok (itB_ok ok nk _) (done _ s (by rw [if_neg c]) n4)⟩
  · have hbk := b3 (n : Int) (by omega) (by omega)
    have e79 : σ 79 (n : Int).toNat = σ 79 n := by rw [show (n : Int).toNat = n by omega]
    rw [hbk.1, e79]
    rw [e79] at hbk
    refine c_passHour isN_20 bs' n5 ok (itB_ok ok nk n) (inR_s (by omega) (by omega)) (fun u nu fu => ?_)
    have hwr := wrN_in (σ 67) (σ 79) x.2.2 n
    have hb2 := awr (itB (σ 67) (σ 79) x.2.2 (n + 1))
    have fu' : ∀ d, d ≠ 20 → d ≠ 21 → d ≠ 22 → u d = σ d := fun d h0 h1 h2 => (fu d h0 h1 h2).trans (n4 d h0 h1 h2)
    refine ⟨inR_s (by omega) (by omega), fun v => v = wrN (σ 67) (σ 79) x.2.2 (n + 1), ?_, fun c => c_awake (bc.keep (fun d h0 h1 => fu' d (by omega) (by omega) (by omega))) nu ok (itB_ok ok nk (n + 1)) ⟨inR_s (by show -1000000 ≤ awV (σ 67) (itB (σ 67) (σ 79) x.2.2 (n + 1)); omega) (by show awV (σ 67) (itB (σ 67) (σ 79) x.2.2 (n + 1)) ≤ 1000000; omega), fun e => ?_, fun e => ?_⟩, fun c => ?_⟩
    · rintro v rfl x3 rfl
      exact ⟨k - 1, by omega, n + 1, by omega, by omega, rfl, fu', nu⟩
    · rw [wrN, if_neg (fun d => d.2 e)]
    · rw [wrN, if_pos ⟨c, e⟩]
    · rw [wrN, if_neg (fun d => c d.1)]
/-! nobody up -/
def odN (q : Int) : Nat → Int
  | 0 => 1000000000
  | n + 1 => Int.tdiv (odN q n * (1000 - q)) 1000
theorem odN_in {q : Int} (h0 : 0 ≤ q) (h1 : q ≤ 1000) : ∀ n : Nat, 0 ≤ odN q n ∧ odN q n ≤ 1000000000
  | 0 => by unfold odN; omega
  | n + 1 => by
    have ih := odN_in h0 h1 n
    unfold odN
    have hp : 0 ≤ odN q n * (1000 - q) := Int.mul_nonneg ih.1 (by omega)
    have hm : odN q n * (1000 - q) ≤ odN q n * 1000 := Int.mul_le_mul_of_nonneg_left (by omega) ih.1
    rw [Int.tdiv_eq_ediv_of_nonneg hp]
    omega
theorem odN_mul {q : Int} (h0 : 0 ≤ q) (h1 : q ≤ 1000) (n : Nat) : inL (odN q n * (1000 - q)) := by
  have ih := odN_in h0 h1 n
  have hp : 0 ≤ odN q n * (1000 - q) := Int.mul_nonneg ih.1 (by omega)
  have hm : odN q n * (1000 - q) ≤ odN q n * 1000 := Int.mul_le_mul_of_nonneg_left (by omega) ih.1
  exact ⟨by omega, by omega⟩
def pcs (b0 b1 b2 b3 b4 b5 : Bool) : Int := (if b0 then 1 else 0) + (if b1 then 1 else 0) + (if b2 then 1 else 0) + (if b3 then 1 else 0) + (if b4 then 1 else 0) + (if b5 then 1 else 0)
def bcx (a : Int) : Int := a - (zand (zushr a 1) 1431655765)
def bcy (x : Int) : Int := (zand x 858993459) + (zand (zushr x 2) 858993459)
def bcz (x : Int) : Int := zand (x + (zushr x 4)) 252645135
def bcw (x : Int) : Int := x + (zushr x 8)
def bcu (x : Int) : Int := x + (zushr x 16)
theorem bc_tab : ∀ (b0 b1 b2 b3 b4 b5 : Bool), zand (bcu (bcw (bcz (bcy (bcx (bs b0 b1 b2 b3 b4 b5)))))) 63 = pcs b0 b1 b2 b3 b4 b5 := by decide +kernel
def pcF (F : Int → Bool) : Int := pcs (F 0) (F 1) (F 2) (F 3) (F 4) (F 5)
theorem c_bitCount {F : Int → Bool} {σ : Mem} {Q : Int → Prop} (hq : Q (pcF F)) : wp_J6_bitCount_0f7a4 (bset F) σ Q := by
  unfold wp_J6_bitCount_0f7a4
  rintro x1 rfl x2 rfl x3 rfl x4 rfl x5 rfl
  have := bc_tab (F 0) (F 1) (F 2) (F 3) (F 4) (F 5)
  unfold pcF at hq
  rw [← this] at hq
  exact hq
theorem pcs_tab : ∀ (b0 b1 b2 b3 b4 b5 : Bool) (s : Fin 6), [b0, b1, b2, b3, b4, b5].getD s.val false = false → pcs (b0 || s.val == 0) (b1 || s.val == 1) (b2 || s.val == 2) (b3 || s.val == 3) (b4 || s.val == 4) (b5 || s.val == 5) = pcs b0 b1 b2 b3 b4 b5 + 1 := by decide +kernel
theorem pcF_ext {F G : Int → Bool} (h : ∀ s : Int, 0 ≤ s → s < 6 → F s = G s) : pcF F = pcF G := by
  unfold pcF
  rw [h 0 (by omega) (by omega), h 1 (by omega) (by omega), h 2 (by omega) (by omega), h 3 (by omega) (by omega), h 4 (by omega) (by omega), h 5 (by omega) (by omega)]
theorem pcF_or (F : Int → Bool) {s : Int} (h0 : 0 ≤ s) (h1 : s < 6) (hf : F s = false) : pcF (fun t => F t || decide (t = s)) = pcF F + 1 := by
  obtain ⟨f, rfl⟩ := fin6 h0 h1
  have T := pcs_tab (F 0) (F 1) (F 2) (F 3) (F 4) (F 5) f
  unfold pcF
  match f, hf, T with
  | ⟨0, _⟩, hf, T => exact T hf
  | ⟨1, _⟩, hf, T => exact T hf
  | ⟨2, _⟩, hf, T => exact T hf
  | ⟨3, _⟩, hf, T => exact T hf
  | ⟨4, _⟩, hf, T => exact T hf
  | ⟨5, _⟩, hf, T => exact T hf
def occN (r : Nat → Int) : Nat → Nat
  | 0 => 0
  | n + 1 => if whoOf r (n : Int) = -1 then occN r n else occN r n + 1
theorem occ_pc {b r : Nat → Int} (ok : BedOk b) (nk : NightOk b r) : ∀ n : Nat, n ≤ 6 → pcF (inT r n) = (occN r n : Int)
  | 0, _ => rfl
  | n + 1, h => by
    have ih := occ_pc ok nk n (by omega)
    have h6 := ok.s6
    have hw := (nk.1 (n : Int) (by omega) (by omega)).1
    unfold occN
    by_cases hm : whoOf r (n : Int) = -1
    · rw [if_pos hm, ← ih]
      refine pcF_ext (fun s g0 g1 => ?_)
      rw [inT_succ, hm, decide_eq_false (show ¬ s = -1 by omega), Bool.or_false]
    · rw [if_neg hm]
      have e : pcF (inT r (n + 1)) = pcF (fun t => inT r n t || decide (t = whoOf r (n : Int))) := pcF_ext (fun s _ _ => inT_succ r n s)
      rw [e, pcF_or _ (by omega) (by omega) (inT_new nk (by omega) hm), ih]
      omega
theorem occN_le (r : Nat → Int) : ∀ n : Nat, occN r n ≤ n
  | 0 => Nat.le_refl _
  | n + 1 => by
    have := occN_le r n
    unfold occN
    split <;> omega
theorem pub_nobodyUp {n q : Int} (hn' : inR n) (hq' : inR q) : GoodP (fun σ Q => wp_X11_nobodyUp n q σ Q) (fun σ Q => wp_X12_nobodyUp n q σ Q) := by
  intro σ ⟨ok, bc, ⟨x, pc, pm⟩, _⟩
  show wp_X11_nobodyUp n q σ (fun r => wp_X12_nobodyUp n q σ (fun r' => r = r'))
  have nk := pc.2.2.1
  have m9 := pm.2.2
  have hN := ok.n6
  have h6 := ok.s6
  generalize hz : occN x.2.2 (σ 67 0).toNat = oc
  have hoc : oc ≤ 6 := by have := occN_le x.2.2 (σ 67 0).toNat; omega
  have m_part : ∀ v : Int, (¬ ((1 ≤ n ∧ n ≤ 50) ∧ (0 ≤ q ∧ q ≤ 1000)) → v = -1000000002) → ((1 ≤ n ∧ n ≤ 50) ∧ (0 ≤ q ∧ q ≤ 1000) → v = odN q (n.toNat * oc)) → wp_X12_nobodyUp n q σ (fun r' => v = r') := by
    intro v g1 g2
    unfold wp_X12_nobodyUp
    refine ⟨hn', m_in hn' (inR_s (by omega) (by omega)) (inR_s (by omega) (by omega)) ?_⟩
    by_cases c1 : 1 ≤ n ∧ n ≤ 50
    · rw [if_pos c1]
      refine ⟨inR_s (by omega) (by omega), fun z => absurd z (by decide), fun _ => ⟨hq', m_in hq' inR_0 (inR_s (by omega) (by omega)) ?_⟩⟩
      by_cases c2 : 0 ≤ q ∧ q ≤ 1000
      · rw [if_pos c2]
        refine ⟨inR_s (by omega) (by omega), fun z => absurd z (by decide), fun _ => ?_⟩
        refine ⟨fun k y p => ∃ i : Nat, p = (i : Int) ∧ (i : Int) ≤ σ 67 0 ∧ k + i = (σ 67 0).toNat ∧ y = odN q (n.toNat * occN x.2.2 i), ?_, (σ 67 0).toNat, 0, rfl, by omega, rfl, rfl⟩
        rintro k y p ⟨i, rfl, i1, i2, rfl⟩
        refine ⟨inR_s (by omega) (by omega), inR_s (by omega) (by omega), fun h => ?_, fun h => ?_⟩
        · have e : i = (σ 67 0).toNat := by omega
          rw [e, hz]
          exact g2 ⟨c1, c2⟩
        · have hw := (nk.1 (i : Int) (by omega) (by omega)).1
          have ew : σ 69 (1 + (i : Int)).toNat = whoOf x.2.2 (i : Int) := by rw [m9]; rfl
          rw [ew]
          refine ⟨fun k' y' z => ∃ j : Nat, z = (j : Int) ∧ (j : Int) ≤ n ∧ k' + j = n.toNat ∧ y' = odN q (n.toNat * occN x.2.2 i + j) ∧ (whoOf x.2.2 (i : Int) = -1 → j = 0), ?_, n.toNat, 0, rfl, by omega, rfl, rfl, fun _ => rfl⟩
          rintro k' y' z ⟨j, rfl, j1, j2, rfl, j4⟩
          refine ⟨inR_s (by omega) (by omega), (whoOf x.2.2 (i : Int) = -1 ∧ j = 0) ∨ (whoOf x.2.2 (i : Int) ≠ -1 ∧ (j : Int) = n), fun hx => ?_, fun h1 => ?_, fun h1 => ⟨by omega, inR_s (by omega) (by omega), fun h2 => Or.inl ⟨h2, j4 h2⟩, fun h2 => ⟨inR_s (by omega) (by omega), odN_mul c2.1 c2.2 _, ?_⟩⟩⟩
          · rintro x5 rfl
            refine ⟨k - 1, by omega, i + 1, by omega, by omega, by omega, ?_⟩
            rw [occN]
            rcases hx with ⟨e1, e2⟩ | ⟨e1, e2⟩
            · rw [if_pos e1, e2, Nat.add_zero]
            · rw [if_neg e1, Nat.mul_add, Nat.mul_one, show j = n.toNat by omega]
          · by_cases h2 : whoOf x.2.2 (i : Int) = -1
            · have := j4 h2; omega
            · exact Or.inr ⟨h2, by omega⟩
          · rintro x3 rfl x6 rfl
            exact ⟨k' - 1, by omega, j + 1, by omega, by omega, by omega, rfl, fun h => absurd h h2⟩
      · rw [if_neg c2]
        exact ⟨inR_0, fun _ => g1 (fun z => c2 z.2), fun z => absurd rfl z⟩
    · rw [if_neg c1]
      exact ⟨inR_0, fun _ => g1 (fun z => c1 z.1), fun z => absurd rfl z⟩
  unfold wp_X11_nobodyUp
  refine ⟨hn', fun h => m_part _ (fun _ => rfl) (fun z => by omega), fun h => ⟨fun h2 => m_part _ (fun _ => rfl) (fun z => by omega), fun h2 => ⟨hq', fun h3 => m_part _ (fun _ => rfl) (fun z => by omega), fun h3 => ⟨fun h4 => ?_, fun h4 => m_part _ (fun _ => rfl) (fun z => by omega)⟩⟩⟩⟩
  refine c_inBed bc pc.2.1 ok nk (c_bitCount ?_)
  have eS : pcF (inS (σ 67) x.2.2) = (oc : Int) := by
    have := occ_pc ok nk (σ 67 0).toNat (by omega)
    rw [hz] at this
    rw [← this]
    exact pcF_ext (fun s _ _ => (inT_S (b := σ 67) rfl s).symm)
  rw [eS]
  rintro x3 rfl
  have hm : n * (oc : Int) = ((n.toNat * oc : Nat) : Int) := by rw [Int.natCast_mul, Int.toNat_of_nonneg (by omega)]
  have hle : n.toNat * oc ≤ 50 * 6 := Nat.mul_le_mul (by omega) hoc
  rw [hm]
  refine ⟨fun k y z => ∃ j : Nat, z = (j : Int) ∧ j ≤ n.toNat * oc ∧ k + j = n.toNat * oc ∧ y = odN q j, ?_, n.toNat * oc, 0, rfl, by omega, by omega, rfl⟩
  rintro k y z ⟨j, rfl, j1, j2, rfl⟩
  refine ⟨inR_s (by omega) (by omega), inR_s (by omega) (by omega), fun g => ?_, fun g => ⟨inR_s (by omega) (by omega), odN_mul (by omega) h4 _, ?_⟩⟩
  · rw [show j = n.toNat * oc by omega]
    exact m_part _ (fun z => absurd ⟨⟨by omega, by omega⟩, ⟨by omega, h4⟩⟩ z) (fun _ => rfl)
  · rintro x4 rfl x6 rfl
    exact ⟨k - 1, by omega, j + 1, by omega, by omega, by omega, rfl⟩
