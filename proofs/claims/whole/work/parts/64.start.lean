/-! ===== the first relation ===== -/
theorem rel_start {σ : Mem} (h : Init11 σ) (h3 : σ 65 3 = 0) (h6 : σ 65 6 = -1) (h9 : σ 65 9 = 0) : wp_X12_plain σ (fun u => wp_X12_starts u (fun v => Rel v)) := by
  obtain ⟨i0, ⟨i10, i11, i12, i13⟩, i2, i7, ⟨i82, i83⟩, i17, i18, i19, ⟨i232, i233⟩, i27, i28, i60, i63⟩ := h
  refine m_plain (fun u fu uB => ?_)
  have pb := plB_plain (σ 66)
  have bi := pb.bi
  refine m_starts (by rw [uB]; exact bi.1) (fun q fq gq q65 q67 q690 q69 q80 => ?_)
  rw [uB] at q67 q69
  generalize plB (σ 66) = B at pb bi q67 q69
  obtain ⟨⟨b0, b1, b2, b3, b4, b5⟩, bh, bl⟩ := pb
  rw [b2] at q69
  have ok' : BedOk (q 67) := bi.1.congr q67
  have qd : ∀ d, d ≠ 65 → d ≠ 66 → d ≠ 67 → d ≠ 69 → d ≠ 80 → q d = σ d := fun d a b c e f => by rw [fq d a c e f, fu d b]
  have q5 : ∀ j, j ≠ 11 → j ≠ 18 → j ≠ 21 → q 65 j = σ 65 j := fun j a b c => by rw [gq j a b c, fu 65 (by decide)]
  have who : ∀ p : Int, 0 ≤ p → p < 6 → whoOf (q 69) p = -1 := fun p p0 p1 => by
    unfold whoOf
    have := (q69 p.toNat (by omega)).1
    rw [show (1 + p).toNat = 1 + p.toNat by omega, this, if_neg (by omega)]
  have warm : ∀ p : Int, 0 ≤ p → p < 6 → warmOf (q 69) p = 0 := fun p p0 p1 => by
    unfold warmOf
    have := (q69 p.toNat (by omega)).2
    rw [show (7 + p).toNat = 7 + p.toNat by omega, this, if_neg (by omega)]
  have nk : NightOk (q 67) (q 69) := by
    refine ⟨fun p p0 p1 => ?_, fun p r p0 p1 r0 r1 he hne => ?_⟩
    · rw [who p p0 p1, warm p p0 p1, q67 2 (by decide), b2]; omega
    · rw [who p p0 p1] at hne; exact absurd rfl hne
  have q23 : q 23 = σ 23 := qd 23 (by decide) (by decide) (by decide) (by decide) (by decide)
  refine ⟨ok', ?_, ⟨(0, fun _ _ => 0, q 69), ⟨⟨by rw [q23, i232], by show (0 : Int) ≤ 0 ∧ (0 : Int) ≤ 30; omega, by rw [q23, i233]; omega, fun i j0 j1 => absurd j1 (by show ¬ i < 0; omega)⟩, ⟨?_, fun p p0 p1 => ?_⟩, nk, ?_⟩, ⟨⟨q65.1, fun i j0 j1 => absurd j1 (by show ¬ i < 0; omega)⟩, by show (0 : Int) ≤ 0 ∧ (0 : Int) ≤ 30; omega, rfl⟩⟩, ⟨?_, fun i hi => ?_, ?_, ?_, ?_⟩⟩
  · unfold BedC
    rw [q67 0 (by decide), q67 1 (by decide), q67 2 (by decide), q67 3 (by decide), b0, b1, b2, b3, qd 1 (by decide) (by decide) (by decide) (by decide) (by decide), qd 2 (by decide) (by decide) (by decide) (by decide) (by decide), qd 7 (by decide) (by decide) (by decide) (by decide) (by decide)]
    refine ⟨i10, i11, i12, i13, fun p p0 p1 => ?_, fun p p0 p1 => by omega, fun i j0 j1 => ?_⟩
    · unfold heatOf
      rw [q67 _ (by omega), show (6 + p).toNat = 6 + p.toNat by omega, bh _ (by omega), i2 _ (by omega)]
    · unfold lawOf
      rw [q67 _ (by omega), show (36 + i).toNat = 36 by omega, bl, show i.toNat = 0 by omega, i7]
  · rw [qd 17 (by decide) (by decide) (by decide) (by decide) (by decide), i17]; exact q690.symm
  · show q 18 p.toNat = whoOf (q 69) p ∧ q 19 p.toNat = warmOf (q 69) p
    rw [who p p0 p1, warm p p0 p1, qd 18 (by decide) (by decide) (by decide) (by decide) (by decide), qd 19 (by decide) (by decide) (by decide) (by decide) (by decide), i18 _ (by omega), i19 _ (by omega)]
    exact ⟨rfl, rfl⟩
  · show 0 ≤ q 69 0 ∧ q 69 0 ≤ 100000
    omega
  · unfold TextR
    rw [qd 8 (by decide) (by decide) (by decide) (by decide) (by decide), q5 3 (by decide) (by decide) (by decide), q5 6 (by decide) (by decide) (by decide), i82, i83, h3, h6]
    exact ⟨rfl, by omega, fun i j0 j1 => by omega, rfl⟩
  · have : i = 0 ∨ i = 1 := by omega
    rcases this with rfl | rfl
    · rw [show q 80 (15 * 0) = 0 from q80.1]
      exact ⟨by rw [qd (27 + 0) (by decide) (by decide) (by decide) (by decide) (by decide)]; exact i27, Or.inl rfl, fun z => absurd z (by decide)⟩
    · rw [show q 80 (15 * 1) = 0 from q80.2]
      exact ⟨by rw [qd (27 + 1) (by decide) (by decide) (by decide) (by decide) (by decide)]; exact i28, Or.inl rfl, fun z => absurd z (by decide)⟩
  · unfold SeedR
    rw [qd 0 (by decide) (by decide) (by decide) (by decide) (by decide), q5 9 (by decide) (by decide) (by decide), i0, h9]
    omega
  · unfold SeenR
    rw [qd 60 (by decide) (by decide) (by decide) (by decide) (by decide), i60, q65.2.1]
    exact ⟨rfl, by omega, fun k k0 k1 => by omega⟩
  · unfold BookR
    rw [qd 63 (by decide) (by decide) (by decide) (by decide) (by decide), i63, q65.2.2]
    exact ⟨rfl, by omega, fun k k0 k1 => by omega⟩
/-! ===== from a grown world to the laid one ===== -/
theorem wFs_congr {ad ad' : Nat → Nat} {r : Nat → Int} {n : Nat} (h : ∀ c, c < n → ad' c = ad c) : ∀ (ks : List Nat) (i : Nat), ks.all (fun k => decide (k < n + 2)) = true → wFs ad' ks i r = wFs ad ks i r
  | [], i, _ => rfl
  | k :: ks, i, hk => by
    rw [List.all_cons, Bool.and_eq_true] at hk
    have h1 := of_decide_eq_true hk.1
    rw [wFs, wFs, wFs_congr h ks (i + 1) hk.2]
    congr 1
    match k, h1 with
    | 0, _ => rfl
    | 1, _ => rfl
    | j + 2, h1 => show Value.ref (ad' j) = Value.ref (ad j); rw [h j (by omega)]
def shOk (sh : wSh) : Bool := match sh with
  | .inl (0, _) => true
  | .inl (1, _) => true
  | .inl _ => false
  | .inr (_, ks) => ks.all (fun k => decide (k < 67))
theorem wE_congr {cA : Nat → ClassId} {ad ad' : Nat → Nat} {r : Nat → Int} (h : ∀ c, c < 65 → ad' c = ad c) : ∀ sh : wSh, shOk sh = true → wE cA ad' sh r = wE cA ad sh r
  | .inl (0, _), _ => rfl
  | .inl (1, _), _ => rfl
  | .inl (_ + 2, _), hs => by cases hs
  | .inr (ci, ks), hs => by
    show Sum.inr (ci, wFs ad' ks 0 r) = Sum.inr (ci, wFs ad ks 0 r)
    rw [wFs_congr (n := 65) h ks 0 hs]
theorem shOk_class : ∀ c, c < 65 → c ≠ 26 → c ≠ 30 → shOk (wsh c) = true := by decide +kernel
theorem cell_q {D : va_G} {cl : List vw_C} {a n : Nat} {cB : ClassId} {f g : Nat → Option Nat} {H : Heap} (h : ∀ j, j < n → f j = g j) (hv : va_at D cl (a, .inl (cB, n, .inr (.inr (.inr (.inr f))))) H) : va_at D cl (a, .inl (cB, n, .inr (.inr (.inr (.inr g))))) H := by
  have e : vp_cell cB (n, .inr (.inr (.inr (.inr f)))) = vp_cell cB (n, .inr (.inr (.inr (.inr g)))) := by
    rw [vp_cell_q, vp_cell_q]
    unfold arrV
    congr 1
    apply Array.ext
    · simp
    · intro i h1 h2
      simp only [Array.getElem_ofFn]
      rw [h i (by simpa using h1)]
  show H[a]? = some (vp_cell cB (n, .inr (.inr (.inr (.inr g)))))
  rw [← e]
  exact hv
def posW (k : Nat) : Nat := if k < 65 then k + 1 else if k = 65 then 0 else k
theorem posW_inj {i j : Nat} (h : posW i = posW j) : i = j := by unfold posW at h; split at h <;> split at h <;> (try split at h) <;> (try split at h) <;> omega
/-- the laid world out of one in which each of its cells lies somewhere, alike -/
theorem laid_of {D : va_G} {cA : Nat → ClassId} {ad : Nat → Nat} {σ : Mem} {A : Nat → Prop} {H0 H : Heap} {locs : List Loc} {ws : va_W} (w : kW D A H0 H locs ws)
    (hF : ∀ k, k < 81 → ∃ e : va_E, ws[posW k]? = some (ad k, e) ∧ (va_at D wcl (ad k, e) H → va_at D wcl (ad k, wE cA ad (wsh k) (σ k)) H)) : kW D A H0 H locs (wl cA ad σ) ∧ wI ad := by
  obtain ⟨hP, hD, hS, hA⟩ := w
  have hI : wI ad := fun i j hi hj e => by
    obtain ⟨e1, h1, _⟩ := hF i hi
    obtain ⟨e2, h2, _⟩ := hF j hj
    exact posW_inj (hD.1 _ _ _ _ h1 h2 e)
  refine ⟨⟨fun k q hk => ?_, ⟨(wl_D hI).1, fun k q hk => ?_⟩, hS, hA⟩, hI⟩
  · obtain ⟨h81, rfl⟩ := wl_inv hk
    obtain ⟨e1, h1, h2⟩ := hF k h81
    exact h2 (hP _ _ h1)
  · obtain ⟨h81, rfl⟩ := wl_inv hk
    obtain ⟨e1, h1, _⟩ := hF k h81
    exact hD.2 _ (ad k, e1) h1
theorem kW.wA {D : va_G} {cA : Nat → ClassId} {ad : Nat → Nat} {σ : Mem} {A : Nat → Prop} {H0 H : Heap} {locs : List Loc} (w : kW D A H0 H locs (wl cA ad σ)) : ∀ q, wA ad q → A q := by
  rintro q ⟨c, hc, rfl⟩
  exact w.2.1.2 c _ (wl_at hc)
section KX
variable {p : Program} {l : Launch} {e : Env} {R : Room} {s : State} {m : MethodId} {args : Array Value} {below : List Frame} {meth : Method} {c : Code} {H : Heap} {locs : List Loc} {cells slots : Nat} {Q : State → Prop}
variable {cc : ByteArray} {pc : Nat} {ls : Array Slot} {rest : List Value} {D : va_G} {cA : Nat → ClassId} {nL : Nat} {own : String} {H0 : Heap} {A : Nat → Prop} {ad : Nat → Nat} {σ : Mem}
theorem kC.wC (C0 : kC p s m args c cc nL own D cA) (hI : wI ad) : wC p s m args c cc nL own D cA ad := ⟨C0.1, C0.2.1, C0.2.2.1, C0.2.2.2.1, C0.2.2.2.2.1, C0.2.2.2.2.2.1, hI, C0.2.2.2.2.2.2.1⟩
/-- a call over the laid world, from a frame whose own cells hold it -/
theorem kk_wv {j idx maxL n cl ci N : Nat} {T : u_T} {ks : List Nat} {y : MethodName} {bytes : ByteArray} {As st : List Value} {P : Mem → Prop} (C0 : kC p s m args c cc nL own D cA) (hI : wI ad) (hcl : wCv own idx y bytes maxL none n) (hM : wMv l D cA ad y bytes maxL none j (.ref (ad cl) :: As) σ P) (w : kW D A H0 H locs (wl cA ad σ)) (hc : cl < 81) (hsh : wsh cl = .inr (ci, ks)) (hcc : wcl[ci]? = some (y.cls, T, N)) (hn : As.length = n) (hst : st = As.reverse ++ .ref (ad cl) :: rest) (hW : (rest.map fun v => v.category).sum ≤ 8) (hR : j + 1 ≤ R.frames ∧ 8 + (maxL + 11) + 64 * j ≤ R.locals) (hsz : ls.size = nL) (hdg : decode cc pc = .ok (.invokevirtual idx, 3)) (hcs : cells ≤ R.cells ∧ slots ≤ R.slots)
    (kk : ∀ (u : Mem) (H1 : Heap) (locs1 : List Loc), P u → kW D A H0 H1 locs1 (wl cA ad u) → W p l e R s m args below meth c H1 locs1 cells slots Q (F0 m (pc + 3) ls rest)) : W p l e R s m args below meth c H locs cells slots Q (F0 m pc ls st) := by
  have hwA := w.wA
  refine va_callv (wk_callV (C0.wC hI) hcl hM w.1 hc hsh hcc hn hst hW hR hsz hdg hcs) w.2.2.1 (fun q _ h => hwA q h) hwA (fun u t H1 locs1 ht hvm hw hB hz1 hk1 hS1 => kk u H1 locs1 hw ⟨by rw [← ht]; exact hB.1, ⟨(wl_D hI).1, fun k q hk => hwA _ ((wl_D (σ := u) (cA := cA) hI).2 k q hk)⟩, hS1, w.2.2.2⟩)
end KX
