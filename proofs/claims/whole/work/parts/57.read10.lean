/-! ===== the model's clauses ===== -/
def endK (x : Nat → Int) (L : Int) (r : Int × (Nat → Int)) : (Int × (Nat → Int)) ⊕ (Int × Int) := bd (endF x L r.1) fun e => .inl (e, r.2)
def placesM (x : Nat → Int) (L p : Int) (B : Nat → Int) : (Int × (Nat → Int)) ⊕ (Int × Int) :=
  bd (numF x L 2 6 (p + 1)) fun a => bd (numF x L 0 1 a.2.1) fun c => .inl (c.2.1, up1 (up1 B 0 a.1) 1 c.1)
def heatM (x : Nat → Int) (L p : Int) (B : Nat → Int) : (Int × (Nat → Int)) ⊕ (Int × Int) :=
  bd (numF x L 0 (B 0 - 1) (p + 1)) fun a => if zand (zshr (B 5) a.1) 1 = 1 then .inr (4, a.2.2) else bd (numF x L 0 9 a.2.1) fun c => .inl (c.2.1, up1 (up1 B (6 + a.1).toNat c.1) 5 (zor (B 5) (zshl 1 a.1)))
def sleeperM (x : Nat → Int) (L p : Int) (B : Nat → Int) : (Int × (Nat → Int)) ⊕ (Int × Int) :=
  bd (numF x L 1 99 (p + 1)) fun a => bd (numF x L 0 9 a.2.1) fun c => bd (numF x L 0 20 c.2.1) fun d => bd (numF x L 0 98 d.2.1) fun g => if g.1 < a.1 then .inl (g.2.1, slpB B a.1 c.1 d.1 g.1) else .inr (4, g.2.2)
def lawKM (w : Int × Nat × (Nat → Int)) : (Int × (Nat → Int)) ⊕ (Int × Int) := .inl (w.1, up1 (up1 w.2.2 3 (w.2.1 : Int)) 4 1)
def lawM (x : Nat → Int) (L p : Int) (B : Nat → Int) : (Int × (Nat → Int)) ⊕ (Int × Int) := bd (numF x L 0 3 (p + 1)) fun a => bd (wordsF x L 7 a.2.1 1 (up1 B 36 a.1)) lawKM
theorem bd_bd {α β γ : Type} (a : α ⊕ (Int × Int)) (f : α → β ⊕ (Int × Int)) (g : β → γ ⊕ (Int × Int)) : bd (bd a f) g = bd a fun v => bd (f v) g := by cases a <;> rfl
theorem bd_if {β γ : Type} {P : Prop} [Decidable P] (a b : β ⊕ (Int × Int)) (g : β → γ ⊕ (Int × Int)) : bd (if P then a else b) g = if P then bd a g else bd b g := by split <;> rfl
theorem placesM_eq (x : Nat → Int) (L p : Int) (B : Nat → Int) : placesF x L p B = bd (placesM x L p B) (endK x L) := by unfold placesF placesM; simp only [bd_bd]; rfl
theorem heatM_eq (x : Nat → Int) (L p : Int) (B : Nat → Int) : heatF x L p B = bd (heatM x L p B) (endK x L) := by unfold heatF heatM; simp only [bd_bd, bd_if]; rfl
theorem sleeperM_eq {x : Nat → Int} {L p : Int} {B : Nat → Int} (h : B 2 < B 0) : sleeperF x L p B = bd (sleeperM x L p B) (endK x L) := by unfold sleeperF sleeperM; rw [if_pos h]; simp only [bd_bd, bd_if]; rfl
theorem lawM_eq {x : Nat → Int} {L p : Int} {B : Nat → Int} (h : B 4 = 0) : lawF x L p B = bd (lawM x L p B) (endK x L) := by rw [lawF_eq h]; unfold lawM; simp only [bd_bd]; rfl
def MidM (s u : Mem) : Prop := (∀ d, d ≠ 65 → d ≠ 66 → u d = s d) ∧ (∀ j, j ≠ 4 → j ≠ 5 → j ≠ 6 → j ≠ 7 → u 65 j = s 65 j)
theorem MidM.refl (s : Mem) : MidM s s := ⟨fun _ _ _ => rfl, fun _ _ _ _ _ => rfl⟩
theorem MidM.trans {s t u : Mem} (h : MidM s t) (g : MidM t u) : MidM s u := ⟨fun d a b => (g.1 d a b).trans (h.1 d a b), fun j a b c d => (g.2 j a b c d).trans (h.2 j a b c d)⟩
theorem MidM.w66 {s t : Mem} {k : Nat} {v : Int} (h : MidM s t) : MidM s (up2 t 66 k v) := ⟨fun d a b => by rw [up2_c b]; exact h.1 d a b, by rw [up2_c (by decide)]; exact h.2⟩
theorem MidM.w4 {s t : Mem} {v : Int} (h : MidM s t) : MidM s (up2 t 65 4 v) := ⟨fun d a b => by rw [up2_c a]; exact h.1 d a b, fun j a b c d => by rw [up2_n a]; exact h.2 j a b c d⟩
theorem MidM.tx {s u : Mem} {x : Nat → Int} {L : Int} (h : MidM s u) (tc : TXm s x L) : TXm u x L := by
  unfold TXm
  rw [h.1 68 (by decide) (by decide), h.2 3 (by decide) (by decide) (by decide) (by decide)]
  exact tc
def FlM (M : (Int × (Nat → Int)) ⊕ (Int × Int)) (u : Mem) : Prop := ∃ c w : Int, M = .inr (c, w) ∧ (1 ≤ c ∧ c ≤ 4) ∧ u 65 5 = c ∧ u 65 6 = w
def GdM (L : Int) (M : (Int × (Nat → Int)) ⊕ (Int × Int)) (u : Mem) : Prop := ∃ (e : Int) (B : Nat → Int), M = .inl (e, B) ∧ u 65 4 = e ∧ (0 ≤ e ∧ e ≤ L) ∧ u 65 5 = 0 ∧ u 65 6 = -1 ∧ u 66 = B
theorem FlM.w66 {M : (Int × (Nat → Int)) ⊕ (Int × Int)} {u : Mem} {k : Nat} {v : Int} (h : FlM M u) : FlM M (up2 u 66 k v) := by unfold FlM; rw [up2_c (by decide)]; exact h
theorem m_num {s0 s : Mem} {x : Nat → Int} {L p a1 a2 : Int} {Q : Int → Mem → Prop} (tx : TX x L) (tc : TXm s0 x L) (m : MidM s0 s) (h5 : s 65 5 = 0) (h6 : s 65 6 = -1) (hp : s 65 4 = p) (p0 : 0 ≤ p) (p1 : p ≤ L) (ha1 : 0 ≤ a1 ∧ a1 ≤ 1000) (ha2 : -1 ≤ a2 ∧ a2 ≤ 998)
    (hg : ∀ (u : Mem) (v e q : Int), MidM s0 u → u 66 = s 66 → numF x L a1 a2 p = .inl (v, e, q) → u 65 6 = -1 → u 65 4 = e → u 65 5 = 0 → u 65 7 = q → p < e → e ≤ L → a1 ≤ v → v ≤ a2 → Q v u)
    (hb : ∀ (u : Mem) (v c w : Int), MidM s0 u → u 66 = s 66 → numF x L a1 a2 p = .inr (c, w) → (0 ≤ v ∧ v ≤ 9999) → (1 ≤ c ∧ c ≤ 4) → u 65 5 = c → u 65 6 = w → u 65 5 ≠ 0 → inR (u 65 5) → Q v u) : wp_X12_number a1 a2 s Q := by
  refine m_number tx (m.tx tc) h5 hp p0 p1 ha1 ha2 (fun u v fu gu hv hu hc => ?_)
  have mu : MidM s0 u := m.trans ⟨fun d a _ => fu d a, gu⟩
  rcases hc with ⟨e, q, n1, u6, u4, u5, u7, l1, l2, l3⟩ | ⟨c, w, n1, hc, u5, u6⟩
  · exact hg u v e q mu (fu 66 (by decide)) n1 (by rw [u6, h6]) u4 u5 u7 l1 (by omega) l2 l3
  · exact hb u v c w mu (fu 66 (by decide)) n1 hv (by omega) u5 u6 (by omega) (by rw [u5]; exact inR_c hc)
theorem m_faults {s : Mem} {c w : Int} {Q : Mem → Prop} (h5 : s 65 5 = 0) (hq : ∀ u : Mem, MidM s u → u 66 = s 66 → u 65 5 = c → u 65 6 = w → Q u) : wp_X12_faults c w s Q := by
  unfold wp_X12_faults
  rw [h5]
  refine ⟨inR_0, fun _ => ?_, fun z => absurd rfl z⟩
  rintro s2 rfl s3 rfl
  exact hq _ ⟨fun d a _ => by rw [up2_c a, up2_c a], fun j _ b c _ => by rw [up2_n c, up2_n b]⟩ (by rw [up2_c (by decide), up2_c (by decide)]) (by rw [up2_n (by decide), up2_s]) up2_s
theorem m_heat {s0 s : Mem} {x : Nat → Int} {L p : Int} {B : Nat → Int} {Q : Mem → Prop} (tx : TX x L) (tc : TXm s0 x L) (m : MidM s0 s) (h5 : s 65 5 = 0) (h6 : s 65 6 = -1) (hp : s 65 4 = p + 1) (p0 : 0 ≤ p) (p1 : p < L) (hB : s 66 = B) (bi : BI B) (b0 : B 0 ≠ 0) (hq : ∀ u : Mem, MidM s0 u → (GdM L (heatM x L p B) u ∨ FlM (heatM x L p B) u) → Q u) : wp_X12_readHeat s Q := by
  have hn := bi.1.n6
  unfold wp_X12_readHeat
  rw [hB]
  unfold heatM at hq
  refine m_num tx tc m h5 h6 hp (by omega) (by omega) (by omega) (by omega) (fun u v e q mu uB n1 u6 u4 u5 u7 l1 l1' l2 l3 => ?_) (fun u v c w mu uB n1 hv hc u5 u6 ne i5 => ?_)
  · have hq2 : ∀ t : Mem, MidM s0 t → (GdM L (if zand (zshr (B 5) v) 1 = 1 then .inr (4, q) else bd (numF x L 0 9 e) fun c => .inl (c.2.1, up1 (up1 B (6 + v).toNat c.1) 5 (zor (B 5) (zshl 1 v)))) t ∨ FlM (if zand (zshr (B 5) v) 1 = 1 then .inr (4, q) else bd (numF x L 0 9 e) fun c => .inl (c.2.1, up1 (up1 B (6 + v).toNat c.1) 5 (zor (B 5) (zshl 1 v)))) t) → Q t := by
      rw [n1] at hq; exact hq
    rw [u5, uB, hB, u7]
    refine ⟨inR_0, fun t => MidM s0 t ∧ t 66 = B ∧ ((zand (zshr (B 5) v) 1 = 1 ∧ t 65 5 = 4 ∧ t 65 6 = q) ∨ (¬ zand (zshr (B 5) v) 1 = 1 ∧ t 65 5 = 0 ∧ t 65 6 = -1 ∧ t 65 4 = e)), ?_, fun _ => ⟨inR_of _, fun c => ?_, fun c => ⟨mu, by rw [uB, hB], Or.inr ⟨c, u5, u6, u4⟩⟩⟩, fun z => absurd rfl z⟩
    · rintro t ⟨mt, tB, ⟨c, t5, t6⟩ | ⟨c, t5, t6, t4⟩⟩
      · rw [if_pos c] at hq2
        have ne : t 65 5 ≠ 0 := by omega
        have i5 : inR (t 65 5) := by rw [t5]; exact inR_s (by omega) (by omega)
        exact m_numberBad ne i5 ⟨i5, fun zz => absurd zz ne, fun _ => hq2 _ mt (Or.inr ⟨4, q, rfl, by omega, t5, t6⟩)⟩
      · rw [if_neg c] at hq2
        refine m_num tx tc mt t5 t6 t4 (by omega) (by omega) (by omega) (by omega) (fun u v' e' q' mu uB n2 u6 u4 u5 u7 k1 k1' k2 k3 => ?_) (fun u v c w mu uB n2 hv hc u5 u6 ne i5 => ?_)
        · rw [n2] at hq2
          rw [u5]
          refine ⟨inR_0, fun _ => ⟨by omega, ?_⟩, fun zz => absurd rfl zz⟩
          rintro s9 rfl s10 rfl
          refine hq2 _ mu.w66.w66 (Or.inl ⟨e', _, rfl, by rw [up2_c (by decide), up2_c (by decide), u4], by omega, by rw [up2_c (by decide), up2_c (by decide), u5], by rw [up2_c (by decide), up2_c (by decide), u6], ?_⟩)
          rw [up2_r, up2_n (by omega), up2_r, uB, tB]
        · rw [n2] at hq2
          exact ⟨i5, fun zz => absurd zz ne, fun _ => hq2 _ mu (Or.inr ⟨c, w, rfl, hc, u5, u6⟩)⟩
    · exact m_faults u5 (fun t mt tB t5 t6 => ⟨mu.trans mt, by rw [tB, uB, hB], Or.inl ⟨c, t5, t6⟩⟩)
  · rw [n1] at hq
    refine ⟨i5, fun t => t = u, ?_, fun z => absurd z ne, fun _ => rfl⟩
    rintro t rfl
    exact m_numberBad ne i5 ⟨i5, fun zz => absurd zz ne, fun _ => hq _ mu (Or.inr ⟨c, w, rfl, hc, u5, u6⟩)⟩
theorem FlM.ne {M : (Int × (Nat → Int)) ⊕ (Int × Int)} {u : Mem} (h : FlM M u) : u 65 5 ≠ 0 ∧ inR (u 65 5) := by
  obtain ⟨c, w, h1, hc, h5, h6⟩ := h
  rw [h5]
  exact ⟨by omega, inR_s (by omega) (by omega)⟩
theorem m_numBad {M : (Int × (Nat → Int)) ⊕ (Int × Int)} {s : Mem} {a1 a2 : Int} {Q : Int → Mem → Prop} (h : FlM M s) (hq : Q a1 s) : wp_X12_number a1 a2 s Q := m_numberBad h.ne.1 h.ne.2 hq
theorem m_sleeper {s0 s : Mem} {x : Nat → Int} {L p : Int} {B : Nat → Int} {Q : Mem → Prop} (tx : TX x L) (tc : TXm s0 x L) (m : MidM s0 s) (h5 : s 65 5 = 0) (h6 : s 65 6 = -1) (hp : s 65 4 = p + 1) (p0 : 0 ≤ p) (p1 : p < L) (hB : s 66 = B) (bi : BI B) (hl : B 2 < B 0) (hq : ∀ u : Mem, MidM s0 u → (GdM L (sleeperM x L p B) u ∨ FlM (sleeperM x L p B) u) → Q u) : wp_X12_readSleeper s Q := by
  have hn := bi.1.n6
  have hs := bi.1.s6
  unfold wp_X12_readSleeper
  rw [hB]
  rintro k rfl
  generalize hM : sleeperM x L p B = M at hq
  unfold sleeperM at hM
  refine m_num tx tc m h5 h6 hp (by omega) (by omega) (by omega) (by omega) (fun u v1 e1 q1 mu uB n1 u6 u4 u5 u7 l1 l1' l2 l3 => ?_) (fun u v1 c w mu uB n1 hv hc u5 u6 ne i5 => ?_)
  · refine ⟨by omega, ?_⟩
    rintro s5 rfl
    refine m_num tx tc mu.w66 (by rw [up2_c (by decide), u5]) (by rw [up2_c (by decide), u6]) (by rw [up2_c (by decide), u4]) (by omega) (by omega) (by omega) (by omega) (fun z v2 e2 q2 mz zB n2 z6 z4 z5 z7 k1 k1' k2 k3 => ?_) (fun z v2 c w mz zB n2 hv hc z5 z6 ne i5 => ?_)
    · refine ⟨by omega, ?_⟩
      rintro s9 rfl
      refine m_num tx tc mz.w66 (by rw [up2_c (by decide), z5]) (by rw [up2_c (by decide), z6]) (by rw [up2_c (by decide), z4]) (by omega) (by omega) (by omega) (by omega) (fun y v3 e3 q3 my yB n3 y6 y4 y5 y7 j1 j1' j2 j3 => ?_) (fun y v3 c w my yB n3 hv hc y5 y6 ne i5 => ?_)
      · refine ⟨by omega, ?_⟩
        rintro s13 rfl
        refine m_num tx tc my.w66 (by rw [up2_c (by decide), y5]) (by rw [up2_c (by decide), y6]) (by rw [up2_c (by decide), y4]) (by omega) (by omega) (by omega) (by omega) (fun w v4 e4 q4 mw wB n4 w6 w4 w5 w7 i1 i1' i2 i3 => ?_) (fun w v4 c w' mw wB n4 hv hc w5 w6 ne i5 => ?_)
        · refine ⟨by omega, ?_⟩
          rintro s17 rfl
          have eM : M = if v4 < v1 then .inl (e4, slpB B v1 v2 v3 v4) else .inr (4, q4) := by rw [← hM]; simp only [n1, n2, n3, n4, bd]
          have eS : up2 w 66 (12 + 4 * B 2 + 3).toNat v4 66 = up1 (up1 (up1 (up1 B (12 + 4 * B 2).toNat v1) (12 + 4 * B 2 + 1).toNat v2) (12 + 4 * B 2 + 2).toNat v3) (12 + 4 * B 2 + 3).toNat v4 := by rw [up2_r, wB, up2_r, yB, up2_r, zB, up2_r, uB, hB]
          have r5 : up2 w 66 (12 + 4 * B 2 + 3).toNat v4 65 5 = 0 := by rw [up2_c (by decide), w5]
          have r6 : up2 w 66 (12 + 4 * B 2 + 3).toNat v4 65 6 = -1 := by rw [up2_c (by decide), w6]
          have r4 : up2 w 66 (12 + 4 * B 2 + 3).toNat v4 65 4 = e4 := by rw [up2_c (by decide), w4]
          have r7 : up2 w 66 (12 + 4 * B 2 + 3).toNat v4 65 7 = q4 := by rw [up2_c (by decide), w7]
          have mr : MidM s0 (up2 w 66 (12 + 4 * B 2 + 3).toNat v4) := mw.w66
          generalize up2 w 66 (12 + 4 * B 2 + 3).toNat v4 = r at eS r5 r6 r4 r7 mr
          have a4 : r 66 (12 + 4 * B 2 + 3).toNat = v4 := by rw [eS, up1_s]
          have a1 : r 66 (12 + 4 * B 2).toNat = v1 := by rw [eS, up1_n (by omega), up1_n (by omega), up1_n (by omega), up1_s]
          have a2 : r 66 2 = B 2 := by rw [eS, up1_n (by omega), up1_n (by omega), up1_n (by omega), up1_n (by omega)]
          rw [r5, a4, a1, r7]
          refine ⟨inR_0, fun t => MidM s0 t ∧ ((v4 < v1 ∧ t 65 5 = 0 ∧ t 65 6 = -1 ∧ t 65 4 = e4 ∧ t 66 = r 66) ∨ (¬ v4 < v1 ∧ t 65 5 = 4 ∧ t 65 6 = q4)), ?_, fun _ => ⟨inR_s (by omega) (by omega), inR_s (by omega) (by omega), fun c => ⟨mr, Or.inl ⟨c, r5, r6, r4, rfl⟩⟩, fun c => m_faults r5 (fun t mt _ t5 t6 => ⟨mr.trans mt, Or.inr ⟨c, t5, t6⟩⟩)⟩, fun z => absurd rfl z⟩
          rintro t ⟨mt, ⟨c, t5, t6, t4, tB⟩ | ⟨c, t5, t6⟩⟩ s20 rfl
          · rw [if_pos c] at eM
            refine hq _ mt.w66 (Or.inl ⟨e4, _, eM, by rw [up2_c (by decide), t4], by omega, by rw [up2_c (by decide), t5], by rw [up2_c (by decide), t6], ?_⟩)
            rw [up2_r, tB, a2, eS]
            rfl
          · rw [if_neg c] at eM
            exact hq _ mt.w66 (Or.inr ⟨4, q4, eM, by omega, by rw [up2_c (by decide), t5], by rw [up2_c (by decide), t6]⟩)
        · have fl : FlM M w := ⟨c, w', by rw [← hM]; simp only [n1, n2, n3, n4, bd], hc, w5, w6⟩
          refine ⟨by omega, ?_⟩
          rintro s17 rfl
          refine ⟨fl.w66.ne.2, fun t => MidM s0 t ∧ FlM M t, ?_, fun z => absurd z fl.w66.ne.1, fun _ => ⟨mw.w66, fl.w66⟩⟩
          rintro t ⟨mt, ft⟩ s20 rfl
          exact hq _ mt.w66 (Or.inr ft.w66)
      · have fl : FlM M y := ⟨c, w, by rw [← hM]; simp only [n1, n2, n3, bd], hc, y5, y6⟩
        refine ⟨by omega, ?_⟩
        rintro s13 rfl
        refine m_numBad fl.w66 ⟨by omega, ?_⟩
        rintro s17 rfl
        refine ⟨fl.w66.w66.ne.2, fun t => MidM s0 t ∧ FlM M t, ?_, fun z => absurd z fl.w66.w66.ne.1, fun _ => ⟨my.w66.w66, fl.w66.w66⟩⟩
        rintro t ⟨mt, ft⟩ s20 rfl
        exact hq _ mt.w66 (Or.inr ft.w66)
    · have fl : FlM M z := ⟨c, w, by rw [← hM]; simp only [n1, n2, bd], hc, z5, z6⟩
      refine ⟨by omega, ?_⟩
      rintro s9 rfl
      refine m_numBad fl.w66 ⟨by omega, ?_⟩
      rintro s13 rfl
      refine m_numBad fl.w66.w66 ⟨by omega, ?_⟩
      rintro s17 rfl
      refine ⟨fl.w66.w66.w66.ne.2, fun t => MidM s0 t ∧ FlM M t, ?_, fun z => absurd z fl.w66.w66.w66.ne.1, fun _ => ⟨mz.w66.w66.w66, fl.w66.w66.w66⟩⟩
      rintro t ⟨mt, ft⟩ s20 rfl
      exact hq _ mt.w66 (Or.inr ft.w66)
  · have fl : FlM M u := ⟨c, w, by rw [← hM]; simp only [n1, bd], hc, u5, u6⟩
    refine ⟨by omega, ?_⟩
    rintro s5 rfl
    refine m_numBad fl.w66 ⟨by omega, ?_⟩
    rintro s9 rfl
    refine m_numBad fl.w66.w66 ⟨by omega, ?_⟩
    rintro s13 rfl
    refine m_numBad fl.w66.w66.w66 ⟨by omega, ?_⟩
    rintro s17 rfl
    refine ⟨fl.w66.w66.w66.w66.ne.2, fun t => MidM s0 t ∧ FlM M t, ?_, fun z => absurd z fl.w66.w66.w66.w66.ne.1, fun _ => ⟨mu.w66.w66.w66.w66, fl.w66.w66.w66.w66⟩⟩
    rintro t ⟨mt, ft⟩ s20 rfl
    exact hq _ mt.w66 (Or.inr ft.w66)
