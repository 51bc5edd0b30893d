/-! ===== the model's law, clause, bed ===== -/
theorem up1_law (B : Nat → Int) (n : Nat) (v : Int) : up1 (up1 (up1 (up1 B 3 (n : Int)) 4 1) (36 + n) v) 3 ((n : Int) + 1) = up1 (up1 (up1 B (36 + n) v) 3 ((n + 1 : Nat) : Int)) 4 1 := by
  funext j
  unfold up1
  by_cases h3 : j = 3
  · subst h3; simp
  · by_cases h4 : j = 4
    · subst h4; simp; omega
    · simp [h3, h4]
theorem up1_law0 (B : Nat → Int) (v : Int) : up1 (up1 (up1 B 4 1) 36 v) 3 1 = up1 (up1 (up1 B 36 v) 3 ((1 : Nat) : Int)) 4 1 := by
  funext j
  unfold up1
  by_cases h3 : j = 3
  · subst h3; simp
  · by_cases h4 : j = 4
    · subst h4; simp
    · simp [h3, h4]
theorem hereV_eq {x : Nat → Int} {L p c : Int} (hc : 0 ≤ c) : hereV x L p = c ↔ (sk x L p < L ∧ x (sk x L p).toNat = c) := by
  unfold hereV
  by_cases h : L ≤ sk x L p
  · rw [if_pos h]; constructor
    · intro z; omega
    · intro z; omega
  · rw [if_neg h]; constructor
    · intro z; exact ⟨by omega, z⟩
    · intro z; exact z.2
theorem m_law {s0 s : Mem} {x : Nat → Int} {L p : Int} {B : Nat → Int} {Q : Mem → Prop} (tx : TX x L) (tc : TXm s0 x L) (m : MidM s0 s) (h5 : s 65 5 = 0) (h6 : s 65 6 = -1) (hp : s 65 4 = p + 1) (p0 : 0 ≤ p) (p1 : p < L) (hB : s 66 = B) (hq : ∀ u : Mem, MidM s0 u → (GdM L (lawM x L p B) u ∨ FlM (lawM x L p B) u) → Q u) : wp_X12_readLaw s Q := by
  have hL := tx.1
  unfold wp_X12_readLaw
  rintro s1 rfl
  generalize hM : lawM x L p B = M at hq
  unfold lawM at hM
  refine m_num tx tc m.w66 (by rw [up2_c (by decide), h5]) (by rw [up2_c (by decide), h6]) (by rw [up2_c (by decide), hp]) (by omega) (by omega) (by omega) (by omega) (fun u v e q mu uB n1 u6 u4 u5 u7 l1 l1' l2 l3 => ?_) (fun u v c w mu uB n1 hv hc u5 u6 ne i5 => ?_)
  · rintro s4 rfl s5 rfl
    refine ⟨fun k t => MidM s0 t ∧ (FlM M t ∨ ∃ (n : Nat) (p' : Int) (B' : Nat → Int), (1 ≤ n ∧ n ≤ 8) ∧ k = 8 - n ∧ t 65 5 = 0 ∧ t 65 6 = -1 ∧ t 65 4 = p' ∧ (0 ≤ p' ∧ p' ≤ L) ∧ M = bd (wordsF x L (8 - n) p' n B') lawKM ∧ t 66 = up1 (up1 B' 3 (n : Int)) 4 1), ?_, 7, mu.w66.w66, Or.inr ⟨1, e, up1 B 36 v, by omega, rfl, by rw [up2_c (by decide), up2_c (by decide), u5], by rw [up2_c (by decide), up2_c (by decide), u6], by rw [up2_c (by decide), up2_c (by decide), u4], by omega, by rw [← hM, n1]; rfl, by rw [up2_r, up2_r, uB, up2_r, hB]; exact up1_law0 B v⟩⟩
    rintro k t ⟨mt, hI⟩
    rcases hI with fl | ⟨n, p', B', hn, rfl, t5, t6, t4, hp', eM, tB⟩
    · exact ⟨fl.ne.2, fun z => absurd z fl.ne.1, fun _ => hq t mt (Or.inr fl)⟩
    · have t3 : t 66 3 = (n : Int) := by rw [tB, up1_n (by decide), up1_s]
      rw [t5, t3]
      refine ⟨inR_0, fun _ => ⟨inR_s (by omega) (by omega), fun h8 => ?_, fun h8 => ?_⟩, fun z => absurd rfl z⟩
      · rw [show 8 - n = 0 by omega] at eM
        exact hq t mt (Or.inl ⟨p', _, eM, t4, hp', t5, t6, tB⟩)
      · refine m_here tx (mt.tx tc) t4 hp'.1 (by omega) (fun z fz gz z4 => ?_)
        have hh := hereV_in (p := p') tx hp'.1
        have h44 := hereV_eq (x := x) (L := L) (p := p') (c := 44) (by omega)
        obtain ⟨f, hf⟩ : ∃ f : Nat, 8 - n = f + 1 := ⟨7 - n, by omega⟩
        have wF : wordsF x L (8 - n) p' n B' = if sk x L p' < L ∧ x (sk x L p').toNat = 44 then bd (numF x L 0 3 (sk x L p' + 1)) fun a => wordsF x L f a.2.1 (n + 1) (up1 B' (36 + n) a.1) else .inl (sk x L p', n, B') := by rw [hf, wordsF]
        have hs := sk_in x L p'
        have hqL := hs.1.2 hp'.2
        have mz : MidM s0 z := mt.trans ⟨fun d a _ => fz d a, fun j a _ _ _ => gz j a⟩
        have z5 : z 65 5 = 0 := by rw [gz 5 (by decide), t5]
        have z6 : z 65 6 = -1 := by rw [gz 6 (by decide), t6]
        have zB : z 66 = up1 (up1 B' 3 (n : Int)) 4 1 := by rw [fz 66 (by decide), tB]
        refine ⟨inR_s (by omega) (by omega), fun h => ?_, fun h => ?_⟩
        · rintro s12 rfl
          rw [if_pos (h44.mp h)] at wF
          have hlt := (h44.mp h).1
          have z3 : up2 z 65 4 (z 65 4 + 1) 66 3 = (n : Int) := by rw [up2_c (by decide), zB, up1_n (by decide), up1_s]
          rw [z3]
          refine m_num tx tc mz.w4 (by rw [up2_n (by decide), z5]) (by rw [up2_n (by decide), z6]) (by rw [up2_s, z4]) (by omega) (by omega) (by omega) (by omega) (fun y v' e' q' my yB n2 y6 y4 y5 y7 k1 k1' k2 k3 => ?_) (fun y v' c w my yB n2 hv hc y5 y6 ne i5 => ?_)
          · refine ⟨by omega, ?_⟩
            rintro s16 rfl s17 rfl
            have y3 : up2 y 66 (36 + (n : Int)).toNat v' 66 3 = (n : Int) := by rw [up2_n (by omega), yB, z3]
            rw [y3]
            refine ⟨8 - (n + 1), by omega, my.w66.w66, Or.inr ⟨n + 1, e', up1 B' (36 + n) v', by omega, rfl, by rw [up2_c (by decide), up2_c (by decide), y5], by rw [up2_c (by decide), up2_c (by decide), y6], by rw [up2_c (by decide), up2_c (by decide), y4], by omega, ?_, ?_⟩⟩
            · rw [eM, wF, n2, show 8 - (n + 1) = f by omega]; rfl
            · rw [up2_r, up2_r, yB, up2_c (by decide), zB, show (36 + (n : Int)).toNat = 36 + n by omega]
              exact up1_law B' n v'
          · refine ⟨by omega, ?_⟩
            rintro s16 rfl s17 rfl
            have fl : FlM M y := ⟨c, w, by rw [eM, wF, n2]; rfl, hc, y5, y6⟩
            exact ⟨8 - (n + 1), by omega, my.w66.w66, Or.inl fl.w66.w66⟩
        · rw [if_neg (fun zz => h (h44.mpr zz))] at wF
          exact hq z mz (Or.inl ⟨sk x L p', _, by rw [eM, wF]; rfl, z4, by omega, z5, z6, zB⟩)
  · rintro s4 rfl s5 rfl
    have fl : FlM M u := ⟨c, w, by rw [← hM, n1]; rfl, hc, u5, u6⟩
    refine ⟨fun k t => MidM s0 t ∧ FlM M t, ?_, 0, mu.w66.w66, fl.w66.w66⟩
    rintro k t ⟨mt, ft⟩
    exact ⟨ft.ne.2, fun z => absurd z ft.ne.1, fun _ => hq t mt (Or.inr ft)⟩
def ResM (s0 : Mem) (R : (Int × (Nat → Int)) ⊕ (Int × Int)) (u : Mem) : Prop := MidM s0 u ∧ ((∃ (e : Int) (B : Nat → Int), R = .inl (e, B) ∧ u 65 4 = e ∧ u 65 5 = 0 ∧ u 65 6 = -1 ∧ u 66 = B) ∨ FlM R u)
/-- what behind the letter is read, ahead of the end -/
def clM (x : Nat → Int) (L p : Int) (B : Nat → Int) : (Int × (Nat → Int)) ⊕ (Int × Int) := if x p.toNat = 98 then placesM x L p B else if x p.toNat = 104 then heatM x L p B else if x p.toNat = 115 then sleeperM x L p B else lawM x L p B
theorem FlM.w4 {M : (Int × (Nat → Int)) ⊕ (Int × Int)} {u : Mem} {v : Int} (h : FlM M u) : FlM M (up2 u 65 4 v) := by unfold FlM; rw [up2_n (by decide), up2_n (by decide)]; exact h
theorem clM_eq {x : Nat → Int} {L p : Int} {B : Nat → Int} (h98 : x p.toNat = 98 → B 0 = 0) (hne : x p.toNat ≠ 98 → B 0 ≠ 0 ∧ (x p.toNat = 104 ∨ x p.toNat = 115 ∨ x p.toNat = 114)) (h115 : x p.toNat = 115 → B 2 < B 0) (h114 : x p.toNat = 114 → B 4 = 0) : clF x L p B = bd (clM x L p B) (endK x L) := by
  unfold clF clM
  by_cases c : x p.toNat = 98
  · rw [if_pos (h98 c), if_pos c, if_pos c, placesM_eq]
  · obtain ⟨b0, h⟩ := hne c
    rw [if_neg b0, if_neg c, if_neg c]
    by_cases c4 : x p.toNat = 104
    · rw [if_pos c4, if_pos c4, heatM_eq]
    · rw [if_neg c4, if_neg c4]
      by_cases c5 : x p.toNat = 115
      · rw [if_neg (by omega), if_pos c5, if_pos c5, sleeperM_eq (h115 c5)]
      · rw [if_pos (by omega), if_neg c5, lawM_eq (h114 (by omega))]
theorem m_clause {s : Mem} {x : Nat → Int} {L p : Int} {B : Nat → Int} {Q : Mem → Prop} (tx : TX x L) (tc : TXm s x L) (h5 : s 65 5 = 0) (h6 : s 65 6 = -1) (hp : s 65 4 = p) (p0 : 0 ≤ p) (p1 : p < L) (hk : sk x L p = p) (hB : s 66 = B) (bi : BI B) (hq : ∀ u : Mem, ResM s (clF x L p B) u → Q u) : wp_X12_clause s Q := by
  have hL := tx.1
  have hx := tx.2 p p0 p1
  have hn := bi.1.n6
  have hs2 := bi.1.s6
  have hle := bi.1.2.2.1.2
  have hb4 := bi.2.1
  have hb40 := bi.2.2
  unfold wp_X12_clause
  refine m_here tx tc hp p0 (by omega) (fun u fu gu u4 => ?_)
  have hv : hereV x L p = x p.toNat := by unfold hereV; rw [hk, if_neg (by omega)]
  rw [hk] at u4
  have mu : MidM s u := ⟨fun d a _ => fu d a, fun j a _ _ _ => gu j a⟩
  have u5 : u 65 5 = 0 := by rw [gu 5 (by decide), h5]
  have u6 : u 65 6 = -1 := by rw [gu 6 (by decide), h6]
  have uB : u 66 = B := by rw [fu 66 (by decide), hB]
  rw [hv]
  rintro x2 rfl
  rw [u4, uB]
  refine ⟨inR_s (by omega) (by omega), ?_⟩
  rintro v5 rfl
  refine ⟨inR_s (by omega) (by omega), ?_⟩
  have v5R : inR (if B 0 = 0 then (1 : Int) else 0) := by split <;> exact inR_s (by omega) (by omega)
  have v50 : (if B 0 = 0 then (1 : Int) else 0) = 0 → B 0 ≠ 0 := fun h z => by rw [if_pos z] at h; omega
  have v51 : ¬ (if B 0 = 0 then (1 : Int) else 0) = 0 → B 0 = 0 := fun h => by
    by_cases z : B 0 = 0
    · exact z
    · exact absurd (if_neg z) h
  generalize (if B 0 = 0 then (1 : Int) else 0) = v5 at v5R v50 v51
  have hMe := clM_eq (x := x) (L := L) (p := p) (B := B)
  have hM : clM x L p B = if x p.toNat = 98 then placesM x L p B else if x p.toNat = 104 then heatM x L p B else if x p.toNat = 115 then sleeperM x L p B else lawM x L p B := rfl
  have hR : clF x L p B = if B 0 = 0 then (if x p.toNat = 98 then placesF x L p B else .inr (1, p)) else if x p.toNat = 98 then .inr (3, p) else if x p.toNat = 104 then heatF x L p B else if x p.toNat = 114 then lawF x L p B else if x p.toNat = 115 then sleeperF x L p B else .inr (1, p) := rfl
  generalize clF x L p B = R at hq hR hMe
  generalize clM x L p B = M at hM hMe
  generalize x p.toNat = c at hM hR hMe hx
  refine ⟨fun t => MidM s t ∧ ((t 65 5 = 0 ∧ t 65 6 = -1 ∧ t 65 4 = p ∧ t 66 = B ∧ (c = 98 → B 0 = 0) ∧ (c = 114 → B 4 = 0) ∧ (c = 115 → B 0 ≠ 0 → B 2 < B 0)) ∨ (R = .inr (3, p) ∧ t 65 5 = 3 ∧ t 65 6 = p ∧ B 0 ≠ 0 ∧ (c = 98 ∨ c = 114 ∨ c = 115))), ?_, R = .inr (3, p) ∧ B 0 ≠ 0 ∧ (c = 98 ∨ c = 114 ∨ c = 115), ?_, c = 98 → B 0 = 0, ?_, ?_, ?_⟩
  · rintro t ⟨mt, ht⟩
    refine ⟨fun t => MidM s t ∧ ((t 65 5 = 0 ∧ t 65 6 = -1 ∧ t 65 4 = p ∧ t 66 = B ∧ R = bd M (endK x L) ∧ (c ≠ 98 → B 0 ≠ 0 ∧ (c = 104 ∨ c = 115 ∨ c = 114)) ∧ (c = 115 → B 2 < B 0)) ∨ FlM R t), ?_, ?_, ?_⟩
    · rintro r ⟨mr, hr⟩
      rcases hr with ⟨r5, r6, r4, rB, eR, hne, h115⟩ | fl
      · rw [r5]
        refine ⟨inR_0, fun _ => ?_, fun z => absurd rfl z⟩
        rintro s10 rfl
        rw [r4]
        have m1 : MidM s (up2 r 65 4 (p + 1)) := mr.w4
        have a5 : up2 r 65 4 (p + 1) 65 5 = 0 := by rw [up2_n (by decide), r5]
        have a6 : up2 r 65 4 (p + 1) 65 6 = -1 := by rw [up2_n (by decide), r6]
        have a4 : up2 r 65 4 (p + 1) 65 4 = p + 1 := up2_s
        have aB : up2 r 65 4 (p + 1) 66 = B := by rw [up2_c (by decide), rB]
        generalize up2 r 65 4 (p + 1) = w at m1 a5 a6 a4 aB
        refine ⟨fun t => MidM s t ∧ (GdM L M t ∨ FlM M t), ?_, fun hc => ?_, fun hc => ⟨fun h4 => ?_, fun h4 => ⟨fun h1 => ?_, fun h1 => ?_⟩⟩⟩
        · rintro y ⟨my, hy⟩
          have iy : inR (y 65 5) := by
            rcases hy with ⟨e, B', _, _, _, y5, _⟩ | fl
            · rw [y5]; exact inR_0
            · exact fl.ne.2
          refine ⟨iy, fun t => MidM s t ∧ ((∃ B' : Nat → Int, R = .inl (t 65 4 + 1, B') ∧ t 65 5 = 0 ∧ t 65 6 = -1 ∧ t 66 = B') ∨ FlM R t), ?_, fun y0 => ?_, fun y0 => ?_⟩
          · rintro z ⟨mz, hz⟩ s14 rfl
            refine hq _ ⟨mz.w4, ?_⟩
            rcases hz with ⟨B', e1, z5, z6, zB⟩ | fl
            · exact Or.inl ⟨_, B', e1, up2_s, by rw [up2_n (by decide), z5], by rw [up2_n (by decide), z6], by rw [up2_c (by decide), zB]⟩
            · exact Or.inr fl.w4
          · rcases hy with ⟨e, B', eM, y4, he, y5, y6, yB⟩ | fl
            · refine m_here tx (my.tx tc) y4 he.1 (by omega) (fun z fz gz z4 => ?_)
              have hh := hereV_in (p := e) tx he.1
              have h59 := hereV_eq (x := x) (L := L) (p := e) (c := 59) (by omega)
              have mz : MidM s z := my.trans ⟨fun d a _ => fz d a, fun j a _ _ _ => gz j a⟩
              have z5 : z 65 5 = 0 := by rw [gz 5 (by decide), y5]
              have eE : R = bd (endF x L e) fun e => .inl (e, B') := by rw [eR, eM]; rfl
              unfold endF at eE
              refine ⟨inR_s (by omega) (by omega), fun h => ?_, fun h => ?_⟩
              · rw [if_pos (h59.mp h)] at eE
                exact ⟨mz, Or.inl ⟨B', by rw [z4]; exact eE, z5, by rw [gz 6 (by decide), y6], by rw [fz 66 (by decide), yB]⟩⟩
              · rw [if_neg (fun q => h (h59.mpr q))] at eE
                exact m_faults z5 (fun q mq _ q5 q6 => ⟨mz.trans mq, Or.inr ⟨1, sk x L e, eE, by omega, q5, by rw [q6, z4]⟩⟩)
            · exact absurd y0 fl.ne.1
          · rcases hy with ⟨e, B', eM, y4, he, y5, y6, yB⟩ | ⟨c', w', eM, hc', y5, y6⟩
            · exact absurd y5 y0
            · exact ⟨my, Or.inr ⟨c', w', by rw [eR, eM]; rfl, hc', y5, y6⟩⟩
        · rw [if_pos hc] at hM
          unfold placesM at hM
          refine m_num tx tc m1 a5 a6 a4 (by omega) (by omega) (by omega) (by omega) (fun y v e q my yB n1 y6 y4 y5 y7 l1 l1' l2 l3 => ?_) (fun y v c' w' my yB n1 hv' hc' y5 y6 ne i5 => ?_)
          · rintro s21 rfl
            refine m_num tx tc my.w66 (by rw [up2_c (by decide), y5]) (by rw [up2_c (by decide), y6]) (by rw [up2_c (by decide), y4]) (by omega) (by omega) (by omega) (by omega) (fun z v' e' q' mz zB n2 z6 z4 z5 z7 k1 k1' k2 k3 => ?_) (fun z v' c' w' mz zB n2 hv' hc' z5 z6 ne i5 => ?_)
            · rintro s24 rfl
              refine ⟨mz.w66, Or.inl ⟨e', up1 (up1 B 0 v) 1 v', by rw [hM]; simp only [n1, n2, bd], by rw [up2_c (by decide), z4], by omega, by rw [up2_c (by decide), z5], by rw [up2_c (by decide), z6], ?_⟩⟩
              rw [up2_r, zB, up2_r, yB, aB]
            · rintro s24 rfl
              have fl : FlM M z := ⟨c', w', by rw [hM]; simp only [n1, n2, bd], hc', z5, z6⟩
              exact ⟨mz.w66, Or.inr fl.w66⟩
          · rintro s21 rfl
            have fl : FlM M y := ⟨c', w', by rw [hM]; simp only [n1, bd], hc', y5, y6⟩
            refine m_numBad fl.w66 ?_
            rintro s24 rfl
            exact ⟨my.w66.w66, Or.inr fl.w66.w66⟩
        · rw [if_neg hc, if_pos h4] at hM
          exact m_heat tx tc m1 a5 a6 a4 p0 p1 aB bi (hne hc).1 (fun z mz hz => ⟨mz, by rw [hM]; exact hz⟩)
        · rw [if_neg hc, if_neg h4, if_pos h1] at hM
          exact m_sleeper tx tc m1 a5 a6 a4 p0 p1 aB bi (h115 h1) (fun z mz hz => ⟨mz, by rw [hM]; exact hz⟩)
        · rw [if_neg hc, if_neg h4, if_neg h1] at hM
          exact m_law tx tc m1 a5 a6 a4 p0 p1 aB (fun z mz hz => ⟨mz, by rw [hM]; exact hz⟩)
      · exact ⟨fl.ne.2, fun z => absurd z fl.ne.1, fun _ => hq r ⟨mr, Or.inr fl⟩⟩
    · intro hc
      rcases ht with ⟨t5, t6, t4, tB, g98, g114, g115⟩ | ⟨eR, t5, t6, _⟩
      · exact ⟨mt, Or.inl ⟨t5, t6, t4, tB, hMe g98 (fun z => absurd hc z) (fun z => by omega) g114, fun z => absurd hc z, fun z => by omega⟩⟩
      · exact ⟨mt, Or.inr ⟨3, p, eR, by omega, t5, t6⟩⟩
    · intro hc
      refine ⟨v5R, R = .inr (1, p), ?_, fun hv5 => ?_, fun hv5 => ?_⟩
      · intro eR s29 h29 s30 h30
        subst h29 h30
        refine ⟨⟨fun d a b => by rw [up2_c a, up2_c a]; exact mt.1 d a b, fun j a b c' d => by rw [up2_n c', up2_n b]; exact mt.2 j a b c' d⟩, Or.inr ⟨1, p, eR, by omega, by rw [up2_n (by decide), up2_s], up2_s⟩⟩
      · have b0 := v50 hv5
        have go : (c = 104 ∨ c = 115 ∨ c = 114) → MidM s t ∧ ((t 65 5 = 0 ∧ t 65 6 = -1 ∧ t 65 4 = p ∧ t 66 = B ∧ R = bd M (endK x L) ∧ (c ≠ 98 → B 0 ≠ 0 ∧ (c = 104 ∨ c = 115 ∨ c = 114)) ∧ (c = 115 → B 2 < B 0)) ∨ FlM R t) := by
          intro hcc
          rcases ht with ⟨t5, t6, t4, tB, g98, g114, g115⟩ | ⟨eR, t5, t6, _⟩
          · exact ⟨mt, Or.inl ⟨t5, t6, t4, tB, hMe g98 (fun _ => ⟨b0, hcc⟩) (fun z => g115 z b0) g114, fun _ => ⟨b0, hcc⟩, fun z => g115 z b0⟩⟩
          · exact ⟨mt, Or.inr ⟨3, p, eR, by omega, t5, t6⟩⟩
        exact ⟨fun h => go (Or.inl h), fun h1 => ⟨fun h => go (Or.inr (Or.inl h)), fun h2 => ⟨fun h => go (Or.inr (Or.inr h)), fun h3 => by rw [hR, if_neg b0, if_neg hc, if_neg h1, if_neg h3, if_neg h2]⟩⟩⟩
      · rw [hR, if_pos (v51 hv5), if_neg hc]
  · rintro ⟨eR, b0, hc⟩
    exact m_faults u5 (fun t mt _ t5 t6 => ⟨mu.trans mt, Or.inr ⟨eR, t5, t6, b0, hc⟩⟩)
  · intro g98
    refine ⟨c = 114 → B 4 = 0, fun g114 => ⟨fun hc => ⟨v5R, fun hv5 => ⟨inR_s (by omega) (by omega), fun he => ?_, fun he => ?_⟩, fun hv5 => ?_⟩, fun hc => ?_⟩, fun hc => ⟨inR_s (by omega) (by omega), fun h1 => ?_, fun h1 _ => by omega⟩, fun hc z => absurd z hc⟩
    · have b0 := v50 hv5
      refine ⟨?_, b0, Or.inr (Or.inr hc)⟩
      rw [hR, if_neg b0, if_neg (by omega), if_neg (by omega), if_neg (by omega), if_pos hc]
      unfold sleeperF
      rw [if_neg (by omega)]
    · exact ⟨mu, Or.inl ⟨u5, u6, u4, uB, g98, g114, fun _ _ => by omega⟩⟩
    · exact ⟨mu, Or.inl ⟨u5, u6, u4, uB, g98, g114, fun _ z => absurd (v51 hv5) z⟩⟩
    · exact ⟨mu, Or.inl ⟨u5, u6, u4, uB, g98, g114, fun z => absurd z hc⟩⟩
    · have b0 : B 0 ≠ 0 := fun z => by have := hb40 z; omega
      refine ⟨?_, b0, Or.inr (Or.inl hc)⟩
      rw [hR, if_neg b0, if_neg (by omega), if_neg (by omega), if_pos hc]
      unfold lawF
      rw [if_neg (by omega)]
  · intro hc
    refine ⟨v5R, fun hv5 => ⟨?_, v50 hv5, Or.inl hc⟩, fun hv5 _ => v51 hv5⟩
    rw [hR, if_neg (v50 hv5), if_pos hc]
  · intro hc z
    exact absurd z hc
