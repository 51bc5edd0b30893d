theorem up1_s {r : Nat → Int} {k : Nat} {v : Int} : up1 r k v k = v := by unfold up1; rw [if_pos rfl]
theorem up1_n {r : Nat → Int} {k j : Nat} {v : Int} (h : j ≠ k) : up1 r k v j = r j := by unfold up1; rw [if_neg h]
theorem up1_e {r : Nat → Int} {k j : Nat} {v : Int} : up1 r k v j = if j = k then v else r j := rfl
theorem BI.places {B : Nat → Int} (h : BI B) (h0 : B 0 = 0) {v w : Int} (hv : 2 ≤ v ∧ v ≤ 6) (hw : 0 ≤ w ∧ w ≤ 1) : BI (up1 (up1 B 0 v) 1 w) := by
  obtain ⟨⟨a1, a2, a3, a4, a5, a6, a7⟩, b1, b2⟩ := h
  have e : ∀ j : Nat, 2 ≤ j → up1 (up1 B 0 v) 1 w j = B j := fun j hj => by rw [up1_n (by omega), up1_n (by omega)]
  have e0 : up1 (up1 B 0 v) 1 w 0 = v := by rw [up1_n (by decide), up1_s]
  have e1 : up1 (up1 B 0 v) 1 w 1 = w := up1_s
  refine ⟨⟨Or.inr (by rw [e0]; exact hv), by rw [e1]; omega, by rw [e 2 (by decide), e0]; omega, by rw [e 3 (by decide)]; exact a4, fun p p0 p1 => ?_, fun s s0 s1 => ?_, fun i i0 i1 => ?_⟩, by rw [e 4 (by decide)]; exact b1, fun z => by rw [e0] at z; omega⟩
  · unfold heatOf; rw [e _ (by omega)]; exact a5 p p0 p1
  · rw [e 2 (by decide)] at s1; omega
  · rw [e 3 (by decide)] at i1
    unfold lawOf; rw [e _ (by omega)]; exact a7 i i0 i1
theorem BI.heat {B : Nat → Int} (h : BI B) {p v m : Int} (hp : 0 ≤ p ∧ p < 6) (hv : 0 ≤ v ∧ v ≤ 9) : BI (up1 (up1 B (6 + p).toNat v) 5 m) := by
  obtain ⟨⟨a1, a2, a3, a4, a5, a6, a7⟩, b1, b2⟩ := h
  have e : ∀ j : Nat, j ≠ 5 → (j < 6 ∨ 12 ≤ j) → up1 (up1 B (6 + p).toNat v) 5 m j = B j := fun j h0 hj => by rw [up1_n h0, up1_n (by omega)]
  unfold BI BedOk
  rw [e 0 (by decide) (by omega), e 1 (by decide) (by omega), e 2 (by decide) (by omega), e 3 (by decide) (by omega), e 4 (by decide) (by omega)]
  refine ⟨⟨a1, a2, a3, a4, fun q p0 p1 => ?_, fun s s0 s1 => ?_, fun i i0 i1 => ?_⟩, b1, b2⟩
  · unfold heatOf
    rw [up1_n (by omega), up1_e]
    split
    · exact hv
    · exact a5 q p0 p1
  · unfold warm0 givesOf losesOf wakesOf
    rw [e _ (by omega) (by omega), e _ (by omega) (by omega), e _ (by omega) (by omega), e _ (by omega) (by omega)]
    exact a6 s s0 s1
  · unfold lawOf; rw [e _ (by omega) (by omega)]; exact a7 i i0 i1
def slpB (B : Nat → Int) (v1 v2 v3 v4 : Int) : Nat → Int := up1 (up1 (up1 (up1 (up1 B (12 + 4 * B 2).toNat v1) (12 + 4 * B 2 + 1).toNat v2) (12 + 4 * B 2 + 2).toNat v3) (12 + 4 * B 2 + 3).toNat v4) 2 (B 2 + 1)
theorem slpB_at {B : Nat → Int} (h0 : 0 ≤ B 2) {v1 v2 v3 v4 : Int} : slpB B v1 v2 v3 v4 2 = B 2 + 1 ∧ slpB B v1 v2 v3 v4 (12 + 4 * B 2).toNat = v1 ∧ slpB B v1 v2 v3 v4 (12 + 4 * B 2 + 1).toNat = v2 ∧ slpB B v1 v2 v3 v4 (12 + 4 * B 2 + 2).toNat = v3 ∧ slpB B v1 v2 v3 v4 (12 + 4 * B 2 + 3).toNat = v4 ∧ ∀ j : Nat, j ≠ 2 → ((j : Int) < 12 + 4 * B 2 ∨ 12 + 4 * B 2 + 4 ≤ (j : Int)) → slpB B v1 v2 v3 v4 j = B j := by
  unfold slpB
  refine ⟨up1_s, ?_, ?_, ?_, ?_, fun j h1 h2 => ?_⟩
  · rw [up1_n (by omega), up1_n (by omega), up1_n (by omega), up1_n (by omega), up1_s]
  · rw [up1_n (by omega), up1_n (by omega), up1_n (by omega), up1_s]
  · rw [up1_n (by omega), up1_n (by omega), up1_s]
  · rw [up1_n (by omega), up1_s]
  · rw [up1_n h1, up1_n (by omega), up1_n (by omega), up1_n (by omega), up1_n (by omega)]
theorem BI.sleeper {B : Nat → Int} (h : BI B) (hl : B 2 < B 0) {v1 v2 v3 v4 : Int} (h1 : 1 ≤ v1 ∧ v1 ≤ 99) (h2 : 0 ≤ v2 ∧ v2 ≤ 9) (h3 : 0 ≤ v3 ∧ v3 ≤ 20) (h4 : 0 ≤ v4 ∧ v4 ≤ 98) : BI (slpB B v1 v2 v3 v4) := by
  obtain ⟨⟨a1, a2, a3, a4, a5, a6, a7⟩, b1, b2⟩ := h
  obtain ⟨e2, w1, w2, w3, w4, e⟩ := slpB_at (B := B) (v1 := v1) (v2 := v2) (v3 := v3) (v4 := v4) a3.1
  have h6 : B 0 ≤ 6 := by rcases a1 with z | z <;> omega
  unfold BI BedOk
  rw [e 0 (by decide) (by omega), e 1 (by decide) (by omega), e2, e 3 (by decide) (by omega), e 4 (by decide) (by omega)]
  refine ⟨⟨a1, a2, by omega, a4, fun q p0 p1 => ?_, fun s s0 s1 => ?_, fun i i0 i1 => ?_⟩, b1, b2⟩
  · unfold heatOf; rw [e _ (by omega) (by omega)]; exact a5 q p0 p1
  · unfold warm0 givesOf losesOf wakesOf
    by_cases c : s = B 2
    · rw [c, w1, w2, w3, w4]; exact ⟨h1, h2, h3, h4⟩
    · rw [e _ (by omega) (by omega), e _ (by omega) (by omega), e _ (by omega) (by omega), e _ (by omega) (by omega)]
      exact a6 s s0 (by omega)
  · unfold lawOf; rw [e _ (by omega) (by omega)]; exact a7 i i0 i1
theorem Dr.keep {s u : Mem} {B : Nat → Int} (h : Dr s B) (f : ∀ d, d ≠ 8 → u d = s d) (g : u 8 8 = s 8 8 ∧ u 8 7 = s 8 7) : Dr u B := by
  unfold Dr
  rw [f 10 (by decide), f 11 (by decide), f 12 (by decide), f 13 (by decide), f 14 (by decide), f 15 (by decide), f 16 (by decide), g.1, g.2]
  exact h
theorem inR_c {c : Int} (h : c = 1 ∨ c = 2) : inR c := inR_s (by omega) (by omega)
/-- a letter has been read: places -/
theorem c_places {s : Mem} {x : Nat → Int} {L p : Int} {B : Nat → Int} {Q : Mem → Prop} (tx : TX x L) (tc : TXc s x L) (h5 : s 8 5 = 0) (h3 : s 8 3 = -1) (hp : s 8 4 = p) (p0 : 0 ≤ p) (p1 : p < L) (dr : Dr s B) (bi : BI B) (b0 : B 0 = 0) (hq : ∀ u : Mem, ResC L s (placesF x L p B) u → Q u) : wp_X6_readPlaces s Q := by
  unfold wp_X6_readPlaces
  rintro s1 rfl
  rw [hp]
  have f1 : ∀ d, d ≠ 8 → up2 s 8 4 (p + 1) d = s d := fun d hd => up2_c hd
  have g1 : ∀ j, j ≠ 4 → up2 s 8 4 (p + 1) 8 j = s 8 j := fun j hj => up2_n hj
  have k1 : up2 s 8 4 (p + 1) 8 4 = p + 1 := up2_s
  generalize up2 s 8 4 (p + 1) = s1 at f1 g1 k1
  unfold placesF at hq
  refine c_number tx (tc.keep (f1 9 (by decide)) (g1 2 (by decide))) (by rw [g1 5 (by decide), h5]) k1 (by omega) (by omega) (by omega) (by omega) (fun u v fu gu hv hu hc => ?_)
  rcases hc with ⟨e, q, n1, u3, u4, u5, u6, l1, l2, l3⟩ | ⟨c, w, n1, hc, u5, u3⟩
  · rw [n1] at hq
    refine c_number tx (tc.keep (by rw [fu 9 (by decide), f1 9 (by decide)]) (by rw [gu 2 (by decide) (by decide) (by decide) (by decide), g1 2 (by decide)])) u5 u4 (by omega) (by omega) (by omega) (by omega) (fun u' v' fu' gu' hv' hu' hc' => ?_)
    rcases hc' with ⟨e', q', n1', u3', u4', u5', u6', l1', l2', l3'⟩ | ⟨c, w, n1', hc, u5', u3'⟩
    · have hq2 := hq
      simp only [bd, n1'] at hq2
      refine c_end tx (tc.keep (by rw [fu' 9 (by decide), fu 9 (by decide), f1 9 (by decide)]) (by rw [gu' 2 (by decide) (by decide) (by decide) (by decide), gu 2 (by decide) (by decide) (by decide) (by decide), g1 2 (by decide)])) u5' u4' (by omega) (by omega) (fun z fz gz hz hz2 => ?_)
      have fz' : ∀ d, d ≠ 8 → z d = s d := fun d hd => by rw [fz d hd, fu' d hd, fu d hd, f1 d hd]
      have z2 : z 8 2 = s 8 2 := by rw [gz 2 (by decide) (by decide) (by decide), gu' 2 (by decide) (by decide) (by decide) (by decide), gu 2 (by decide) (by decide) (by decide) (by decide), g1 2 (by decide)]
      have z7 : z 8 7 = s 8 7 := by rw [gz 7 (by decide) (by decide) (by decide), gu' 7 (by decide) (by decide) (by decide) (by decide), gu 7 (by decide) (by decide) (by decide) (by decide), g1 7 (by decide)]
      have z8 : z 8 8 = s 8 8 := by rw [gz 8 (by decide) (by decide) (by decide), gu' 8 (by decide) (by decide) (by decide) (by decide), gu 8 (by decide) (by decide) (by decide) (by decide), g1 8 (by decide)]
      have drz := dr.keep fz' ⟨z8, z7⟩
      rcases hz2 with ⟨e2, n2, k4, k5, k3, l4⟩ | ⟨w, n2, k5, k3⟩
      · rw [k5]
        refine ⟨inR_0, fun _ => ?_, fun zz => absurd rfl zz⟩
        rintro s8 rfl
        refine ⟨inR_s (by omega) (by omega), ?_⟩
        rintro v10 rfl
        have ev : (if v' = 1 then 1 else 0) = v' := by split <;> omega
        rw [ev]
        refine ⟨by omega, ?_⟩
        rintro s12 rfl
        simp only [n2] at hq2
        refine hq2 _ ⟨fun d hd => by rw [up2_c (by omega), up2_c (by omega), fz' d (by omega)], by rw [up2_c (by decide), up2_c (by decide), fz' 9 (by decide)], by rw [up2_c (by decide), up2_c (by decide), z2], by rw [up2_c (by decide), up2_c (by decide)]; exact hz, Or.inl ⟨e2, _, rfl, by rw [up2_c (by decide), up2_c (by decide), k4], by rw [up2_c (by decide), up2_c (by decide), k5], by rw [up2_c (by decide), up2_c (by decide), k3, u3', u3, g1 3 (by decide), h3], ?_, bi.places b0 ⟨l2, l3⟩ ⟨l2', l3'⟩⟩⟩
        obtain ⟨⟨d0, d1, d2, d3, d4, d5⟩, dh, ds, dl⟩ := drz
        have a3 := bi.1.2.2.1
        refine ⟨⟨by rw [up2_n (by decide), up2_s, up1_n (by decide), up1_s], by rw [up2_s, up1_s], by rw [up2_n (by decide), up2_n (by decide), d2, up1_n (by decide), up1_n (by decide)], by rw [up2_n (by decide), up2_n (by decide), d3, up1_n (by decide), up1_n (by decide)], by rw [up2_c (by decide), up2_c (by decide), d4, up1_n (by decide), up1_n (by decide)], by rw [up2_c (by decide), up2_c (by decide), d5, up1_n (by decide), up1_n (by decide)]⟩, fun q hq => by rw [up2_c (by decide), up2_c (by decide), dh q hq, up1_n (by omega), up1_n (by omega)], fun i hi => ?_, fun i hi => ?_⟩
        · rw [up1_n (by decide), up1_n (by decide)] at hi; omega
        · rw [up1_n (by decide), up1_n (by decide)] at hi
          rw [up2_c (by decide), up2_c (by decide), dl i hi, up1_n (by omega), up1_n (by omega)]
      · rw [k5]
        refine ⟨inR_s (by omega) (by omega), fun zz => absurd zz (by decide), fun _ => ?_⟩
        simp only [n2] at hq2
        exact hq2 _ ⟨fun d hd => fz' d (by omega), fz' 9 (by decide), z2, hz, Or.inr ⟨1, w, rfl, by omega, k5, k3⟩⟩
    · have i5 : inR (u' 8 5) := by rw [u5']; exact inR_c hc
      have ne : u' 8 5 ≠ 0 := by omega
      refine c_endBad ne i5 ⟨i5, fun zz => absurd zz ne, fun _ => hq _ ?_⟩
      simp only [bd, n1']
      exact ⟨fun d hd => by rw [fu' d (by omega), fu d (by omega), f1 d (by omega)], by rw [fu' 9 (by decide), fu 9 (by decide), f1 9 (by decide)], by rw [gu' 2 (by decide) (by decide) (by decide) (by decide), gu 2 (by decide) (by decide) (by decide) (by decide), g1 2 (by decide)], hu', Or.inr ⟨c, w, rfl, by omega, u5', u3'⟩⟩
  · have i5 : inR (u 8 5) := by rw [u5]; exact inR_c hc
    have ne : u 8 5 ≠ 0 := by omega
    refine c_numberBad ne i5 (c_endBad ne i5 ⟨i5, fun zz => absurd zz ne, fun _ => hq _ ?_⟩)
    rw [n1]
    exact ⟨fun d hd => by rw [fu d (by omega), f1 d (by omega)], by rw [fu 9 (by decide), f1 9 (by decide)], by rw [gu 2 (by decide) (by decide) (by decide) (by decide), g1 2 (by decide)], hu, Or.inr ⟨c, w, rfl, by omega, u5, u3⟩⟩
