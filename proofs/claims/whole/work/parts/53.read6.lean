/-- frames of a reading that has come so far -/
def MidC (L : Int) (s u : Mem) : Prop := (∀ d, d ≠ 8 → u d = s d) ∧ (∀ j, j ≠ 3 → j ≠ 4 → j ≠ 5 → j ≠ 6 → u 8 j = s 8 j) ∧ (0 ≤ u 8 4 ∧ u 8 4 ≤ L)
theorem MidC.trans {L : Int} {s t u : Mem} (h : MidC L s t) (g : MidC L t u) : MidC L s u := ⟨fun d hd => (g.1 d hd).trans (h.1 d hd), fun j a b c d => (g.2.1 j a b c d).trans (h.2.1 j a b c d), g.2.2⟩
theorem MidC.tx {L : Int} {s u : Mem} {x : Nat → Int} (h : MidC L s u) (tc : TXc s x L) : TXc u x L := tc.keep (h.1 9 (by decide)) (h.2.1 2 (by decide) (by decide) (by decide) (by decide))
theorem MidC.dr {L : Int} {s u : Mem} {B : Nat → Int} (h : MidC L s u) (dr : Dr s B) : Dr u B := dr.keep h.1 ⟨h.2.1 8 (by decide) (by decide) (by decide) (by decide), h.2.1 7 (by decide) (by decide) (by decide) (by decide)⟩
theorem MidC.bad {L : Int} {s u : Mem} {c w : Int} {R : (Int × (Nat → Int)) ⊕ (Int × Int)} (h : MidC L s u) (hR : R = .inr (c, w)) (hc : 1 ≤ c ∧ c ≤ 4) (u5 : u 8 5 = c) (u3 : u 8 3 = w) : ResC L s R u := ⟨fun d hd => h.1 d (by omega), h.1 9 (by decide), h.2.1 2 (by decide) (by decide) (by decide) (by decide), h.2.2, Or.inr ⟨c, w, hR, hc, u5, u3⟩⟩
theorem c_num {s0 s : Mem} {x : Nat → Int} {L p a1 a2 : Int} {Q : Int → Mem → Prop} (tx : TX x L) (tc : TXc s0 x L) (m : MidC L s0 s) (h5 : s 8 5 = 0) (h3 : s 8 3 = -1) (hp : s 8 4 = p) (ha1 : 0 ≤ a1 ∧ a1 ≤ 1000) (ha2 : -1 ≤ a2 ∧ a2 ≤ 998)
    (hg : ∀ (u : Mem) (v e q : Int), MidC L s0 u → numF x L a1 a2 p = .inl (v, e, q) → u 8 3 = -1 → u 8 4 = e → u 8 5 = 0 → u 8 6 = q → p < e → a1 ≤ v → v ≤ a2 → Q v u)
    (hb : ∀ (u : Mem) (v c w : Int), MidC L s0 u → numF x L a1 a2 p = .inr (c, w) → (0 ≤ v ∧ v ≤ 999) → (1 ≤ c ∧ c ≤ 4) → u 8 5 = c → u 8 3 = w → u 8 5 ≠ 0 → inR (u 8 5) → Q v u) : wp_X6_readNumber a1 a2 s Q := by
  have hm := m.2.2
  refine c_number tx (m.tx tc) h5 hp (by omega) (by omega) ha1 ha2 (fun u v fu gu hv hu hc => ?_)
  have mu : MidC L s0 u := m.trans ⟨fu, gu, hu⟩
  rcases hc with ⟨e, q, n1, u3, u4, u5, u6, l1, l2, l3⟩ | ⟨c, w, n1, hc, u5, u3⟩
  · exact hg u v e q mu n1 (by rw [u3, h3]) u4 u5 u6 l1 l2 l3
  · exact hb u v c w mu n1 hv (by omega) u5 u3 (by omega) (by rw [u5]; exact inR_c hc)
theorem c_fin {s0 s : Mem} {x : Nat → Int} {L p : Int} {Q : Mem → Prop} (tx : TX x L) (tc : TXc s0 x L) (m : MidC L s0 s) (h5 : s 8 5 = 0) (h3 : s 8 3 = -1) (hp : s 8 4 = p)
    (hg : ∀ (u : Mem) (e : Int), MidC L s0 u → endF x L p = .inl e → u 8 3 = -1 → u 8 4 = e → u 8 5 = 0 → p < e → Q u)
    (hb : ∀ (u : Mem) (w : Int), MidC L s0 u → endF x L p = .inr (1, w) → u 8 5 = 1 → u 8 3 = w → Q u) : wp_X6_readEnd s Q := by
  have hm := m.2.2
  refine c_end tx (m.tx tc) h5 hp (by omega) (by omega) (fun u fu gu hu hc => ?_)
  have mu : MidC L s0 u := m.trans ⟨fu, fun j a b c _ => gu j a b c, hu⟩
  rcases hc with ⟨e, n1, u4, u5, u3, l1⟩ | ⟨w, n1, u5, u3⟩
  · exact hg u e mu n1 (by rw [u3, h3]) u4 u5 l1
  · exact hb u w mu n1 u5 u3
theorem MidC.next {L p : Int} {s : Mem} (hp : s 8 4 = p) (p0 : 0 ≤ p) (p1 : p < L) : MidC L s (up2 s 8 4 (s 8 4 + 1)) := ⟨fun d hd => up2_c hd, fun j _ h _ _ => up2_n h, by rw [up2_s]; omega⟩
theorem c_heat {s : Mem} {x : Nat → Int} {L p : Int} {B : Nat → Int} {Q : Mem → Prop} (tx : TX x L) (tc : TXc s x L) (h5 : s 8 5 = 0) (h3 : s 8 3 = -1) (hp : s 8 4 = p) (p0 : 0 ≤ p) (p1 : p < L) (dr : Dr s B) (bi : BI B) (b0 : B 0 ≠ 0) (hq : ∀ u : Mem, ResC L s (heatF x L p B) u → Q u) : wp_X6_readHeat s Q := by
  have hB := bi.1.1
  unfold wp_X6_readHeat
  have mn := MidC.next hp p0 p1
  rintro s1 rfl
  have e5 : up2 s 8 4 (s 8 4 + 1) 8 5 = 0 := by rw [up2_n (by decide), h5]
  have e3 : up2 s 8 4 (s 8 4 + 1) 8 3 = -1 := by rw [up2_n (by decide), h3]
  have e4 : up2 s 8 4 (s 8 4 + 1) 8 4 = p + 1 := by rw [up2_s, hp]
  have e10 : up2 s 8 4 (s 8 4 + 1) 10 0 = B 0 := by rw [up2_c (by decide), dr.1.1]
  generalize up2 s 8 4 (s 8 4 + 1) = s1 at mn e5 e3 e4 e10
  rw [e10]
  unfold heatF at hq
  refine c_num tx tc mn e5 e3 e4 (by omega) (by omega) (fun u v e q mu n1 u3 u4 u5 u6 l1 l2 l3 => ?_) (fun u v c w mu n1 hv hc u5 u3 ne i5 => ?_)
  · rw [n1] at hq
    have hq2 : ∀ t : Mem, ResC L s (if zand (zshr (B 5) v) 1 = 1 then .inr (4, q) else bd (numF x L 0 9 e) fun c => bd (endF x L c.2.1) fun e => .inl (e, up1 (up1 B (6 + v).toNat c.1) 5 (zor (B 5) (zshl 1 v)))) t → Q t := hq
    rw [u5, (mu.dr dr).1.2.2.2.2.2, u6]
    refine ⟨inR_0, fun t => MidC L s t ∧ ((zand (zshr (B 5) v) 1 = 1 ∧ t 8 5 = 4 ∧ t 8 3 = q) ∨ (¬ zand (zshr (B 5) v) 1 = 1 ∧ t 8 5 = 0 ∧ t 8 3 = -1 ∧ t 8 4 = e)), ?_, fun _ => ⟨inR_of _, fun c => ?_, fun c => ⟨mu, Or.inr ⟨c, u5, u3, u4⟩⟩⟩, fun z => absurd rfl z⟩
    · rintro t ⟨mt, ⟨c, t5, t3⟩ | ⟨c, t5, t3, t4⟩⟩
      · rw [if_pos c] at hq2
        have ne : t 8 5 ≠ 0 := by omega
        have i5 : inR (t 8 5) := by rw [t5]; exact inR_s (by omega) (by omega)
        exact c_numberBad ne i5 (c_endBad ne i5 ⟨i5, fun zz => absurd zz ne, fun _ => hq2 _ (mt.bad rfl (by omega) t5 t3)⟩)
      · rw [if_neg c] at hq2
        refine c_num tx tc mt t5 t3 t4 (by omega) (by omega) (fun u v' e' q' mu n1 u3 u4 u5 u6 l1' l2' l3' => ?_) (fun u v c w mu n1 hv hc u5 u3 ne i5 => ?_)
        · rw [n1] at hq2
          refine c_fin tx tc mu u5 u3 u4 (fun z e2 mz n2 z3 z4 z5 l4 => ?_) (fun z w mz n2 z5 z3 => ?_)
          · rw [z5]
            refine ⟨inR_0, fun _ => ⟨by omega, ?_⟩, fun zz => absurd rfl zz⟩
            rintro s11 rfl s12 rfl
            have hq3 := hq2
            simp only [bd, n2] at hq3
            obtain ⟨⟨d0, d1, d2, d3, d4, d5⟩, dh, ds, dl⟩ := mz.dr dr
            refine hq3 _ ⟨fun d hd => by rw [up2_c (by omega), up2_c (by omega), mz.1 d (by omega)], by rw [up2_c (by decide), up2_c (by decide), mz.1 9 (by decide)], by rw [up2_n (by decide), up2_c (by decide), mz.2.1 2 (by decide) (by decide) (by decide) (by decide)], by rw [up2_n (by decide), up2_c (by decide)]; exact mz.2.2, Or.inl ⟨e2, _, rfl, by rw [up2_n (by decide), up2_c (by decide), z4], by rw [up2_n (by decide), up2_c (by decide), z5], by rw [up2_n (by decide), up2_c (by decide), z3], ?_, bi.heat (by omega) ⟨l2', l3'⟩⟩⟩
            have eb : ∀ j : Nat, j ≠ 5 → (j < 6 ∨ 12 ≤ j) → up1 (up1 B (6 + v).toNat v') 5 (zor (B 5) (zshl 1 v)) j = B j := fun j h0 hj => by rw [up1_n h0, up1_n (by omega)]
            unfold Dr
            rw [eb 0 (by decide) (by omega), eb 1 (by decide) (by omega), eb 2 (by decide) (by omega), eb 3 (by decide) (by omega), eb 4 (by decide) (by omega)]
            refine ⟨⟨by rw [up2_c (by decide), up2_c (by decide), d0], by rw [up2_c (by decide), up2_c (by decide), d1], by rw [up2_c (by decide), up2_c (by decide), d2], by rw [up2_c (by decide), up2_c (by decide), d3], by rw [up2_n (by decide), up2_c (by decide), d4], by rw [up2_s, up2_c (by decide), d5, up1_s]⟩, fun k hk => ?_, fun i hi => ?_, fun i hi => ?_⟩
            · rw [up2_c (by decide), up2_e, up1_n (by omega), up1_e]
              by_cases ck : k = v.toNat
              · rw [if_pos ck, if_pos (by omega)]
              · rw [if_neg ck, if_neg (by omega), dh k hk]
            · rw [up2_c (by decide), up2_c (by decide), up2_c (by decide), up2_c (by decide), up2_c (by decide), up2_c (by decide), up2_c (by decide), up2_c (by decide), eb _ (by omega) (by omega), eb _ (by omega) (by omega), eb _ (by omega) (by omega), eb _ (by omega) (by omega)]
              exact ds i hi
            · rw [up2_c (by decide), up2_c (by decide), eb _ (by omega) (by omega)]
              exact dl i hi
          · rw [z5]
            refine ⟨inR_s (by omega) (by omega), fun zz => absurd zz (by decide), fun _ => ?_⟩
            have hq3 := hq2
            simp only [bd, n2] at hq3
            exact hq3 _ (mz.bad rfl (by omega) z5 z3)
        · rw [n1] at hq2
          exact c_endBad ne i5 ⟨i5, fun zz => absurd zz ne, fun _ => hq2 _ (mu.bad rfl hc u5 u3)⟩
    · exact c_blame u5 (fun t ft gt t5 t3 => ⟨mu.trans ⟨ft, fun j a _ c _ => gt j a c, by rw [gt 4 (by decide) (by decide)]; exact mu.2.2⟩, Or.inl ⟨c, t5, t3⟩⟩)
  · rw [n1] at hq
    refine ⟨i5, fun t => t = u, ?_, fun z => absurd z ne, fun _ => rfl⟩
    rintro t rfl
    exact c_numberBad ne i5 (c_endBad ne i5 ⟨i5, fun zz => absurd zz ne, fun _ => hq _ (mu.bad rfl hc u5 u3)⟩)
