/-! ===== clauses ===== -/
def bd {α β : Type} (a : α ⊕ (Int × Int)) (f : α → β ⊕ (Int × Int)) : β ⊕ (Int × Int) := match a with
  | .inl v => f v
  | .inr w => .inr w
def endF (x : Nat → Int) (L p : Int) : Int ⊕ (Int × Int) := if sk x L p < L ∧ x (sk x L p).toNat = 59 then .inl (sk x L p + 1) else .inr (1, sk x L p)
def placesF (x : Nat → Int) (L p : Int) (B : Nat → Int) : (Int × (Nat → Int)) ⊕ (Int × Int) :=
  bd (numF x L 2 6 (p + 1)) fun a => bd (numF x L 0 1 a.2.1) fun c => bd (endF x L c.2.1) fun e => .inl (e, up1 (up1 B 0 a.1) 1 c.1)
def heatF (x : Nat → Int) (L p : Int) (B : Nat → Int) : (Int × (Nat → Int)) ⊕ (Int × Int) :=
  bd (numF x L 0 (B 0 - 1) (p + 1)) fun a => if zand (zshr (B 5) a.1) 1 = 1 then .inr (4, a.2.2) else bd (numF x L 0 9 a.2.1) fun c => bd (endF x L c.2.1) fun e => .inl (e, up1 (up1 B (6 + a.1).toNat c.1) 5 (zor (B 5) (zshl 1 a.1)))
def sleeperF (x : Nat → Int) (L p : Int) (B : Nat → Int) : (Int × (Nat → Int)) ⊕ (Int × Int) :=
  if B 2 < B 0 then bd (numF x L 1 99 (p + 1)) fun a => bd (numF x L 0 9 a.2.1) fun c => bd (numF x L 0 20 c.2.1) fun d => bd (numF x L 0 98 d.2.1) fun g => if g.1 < a.1 then bd (endF x L g.2.1) fun e => .inl (e, up1 (up1 (up1 (up1 (up1 B (12 + 4 * B 2).toNat a.1) (12 + 4 * B 2 + 1).toNat c.1) (12 + 4 * B 2 + 2).toNat d.1) (12 + 4 * B 2 + 3).toNat g.1) 2 (B 2 + 1)) else .inr (4, g.2.2)
  else .inr (3, p)
/-- the words behind the first one: fuel, place, how many, the bed -/
def wordsF (x : Nat → Int) (L : Int) : Nat → Int → Nat → (Nat → Int) → (Int × Nat × (Nat → Int)) ⊕ (Int × Int)
  | 0, p, n, B => .inl (p, n, B)
  | f + 1, p, n, B => if sk x L p < L ∧ x (sk x L p).toNat = 44 then bd (numF x L 0 3 (sk x L p + 1)) fun a => wordsF x L f a.2.1 (n + 1) (up1 B (36 + n) a.1) else .inl (sk x L p, n, B)
def lawF (x : Nat → Int) (L p : Int) (B : Nat → Int) : (Int × (Nat → Int)) ⊕ (Int × Int) :=
  if B 4 = 0 then bd (numF x L 0 3 (p + 1)) fun a => bd (wordsF x L 7 a.2.1 1 (up1 B 36 a.1)) fun w => bd (endF x L w.1) fun e => .inl (e, up1 (up1 w.2.2 3 (w.2.1 : Int)) 4 1)
  else .inr (3, p)
def clF (x : Nat → Int) (L p : Int) (B : Nat → Int) : (Int × (Nat → Int)) ⊕ (Int × Int) :=
  if B 0 = 0 then (if x p.toNat = 98 then placesF x L p B else .inr (1, p))
  else if x p.toNat = 98 then .inr (3, p) else if x p.toNat = 104 then heatF x L p B else if x p.toNat = 114 then lawF x L p B else if x p.toNat = 115 then sleeperF x L p B else .inr (1, p)
def BI (B : Nat → Int) : Prop := BedOk B ∧ (B 4 = 0 ∨ B 4 = 1) ∧ (B 0 = 0 → B 4 = 0)
/-! the class -/
def Dr (u : Mem) (B : Nat → Int) : Prop := (u 10 0 = B 0 ∧ u 10 1 = B 1 ∧ u 10 2 = B 2 ∧ u 10 3 = B 3 ∧ u 8 8 = B 4 ∧ u 8 7 = B 5) ∧ (∀ q : Nat, q < 6 → u 11 q = B (6 + q)) ∧ (∀ i : Nat, (i : Int) < B 2 → u 12 i = B (12 + 4 * i) ∧ u 13 i = B (12 + 4 * i + 1) ∧ u 14 i = B (12 + 4 * i + 2) ∧ u 15 i = B (12 + 4 * i + 3)) ∧ (∀ i : Nat, (i : Int) < B 3 → u 16 i = B (36 + i))
def ResC (L : Int) (s0 : Mem) (R : (Int × (Nat → Int)) ⊕ (Int × Int)) (u : Mem) : Prop := (∀ d, ¬ (8 ≤ d ∧ d ≤ 16) → u d = s0 d) ∧ u 9 = s0 9 ∧ u 8 2 = s0 8 2 ∧ (0 ≤ u 8 4 ∧ u 8 4 ≤ L) ∧ ((∃ (p : Int) (B : Nat → Int), R = .inl (p, B) ∧ u 8 4 = p ∧ u 8 5 = 0 ∧ u 8 3 = -1 ∧ Dr u B ∧ BI B) ∨ (∃ c w : Int, R = .inr (c, w) ∧ (1 ≤ c ∧ c ≤ 4) ∧ u 8 5 = c ∧ u 8 3 = w))
theorem TXc.keep {s u : Mem} {x : Nat → Int} {L : Int} (h : TXc s x L) (h9 : u 9 = s 9) (h2 : u 8 2 = s 8 2) : TXc u x L := by unfold TXc; rw [h9, h2]; exact h
theorem c_blame {s : Mem} {c w : Int} {Q : Mem → Prop} (h5 : s 8 5 = 0) (hq : ∀ u : Mem, (∀ d, d ≠ 8 → u d = s d) → (∀ j, j ≠ 3 → j ≠ 5 → u 8 j = s 8 j) → u 8 5 = c → u 8 3 = w → Q u) : wp_X6_blame c w s Q := by
  unfold wp_X6_blame
  rw [h5]
  refine ⟨inR_0, fun _ => ?_, fun z => absurd rfl z⟩
  rintro s2 rfl s3 rfl
  exact hq _ (fun d hd => by rw [up2_c hd, up2_c hd]) (fun j h0 h1 => by rw [up2_n h0, up2_n h1]) (by rw [up2_n (by decide), up2_s]) up2_s
theorem c_blameBad {s : Mem} {c w : Int} {Q : Mem → Prop} (h5 : s 8 5 ≠ 0) (h5' : inR (s 8 5)) (hq : Q s) : wp_X6_blame c w s Q := by
  unfold wp_X6_blame
  exact ⟨h5', fun z => absurd z h5, fun _ => hq⟩
theorem c_endBad {s : Mem} {Q : Mem → Prop} (h5 : s 8 5 ≠ 0) (h5' : inR (s 8 5)) (hq : Q s) : wp_X6_readEnd s Q := by
  unfold wp_X6_readEnd wp_X6_nextIs
  exact ⟨h5', fun z => absurd z h5, fun _ => ⟨inR_0, fun _ => c_blameBad h5 h5' hq, fun z => absurd rfl z⟩⟩
theorem c_end {s : Mem} {x : Nat → Int} {L p : Int} {Q : Mem → Prop} (tx : TX x L) (tc : TXc s x L) (h5 : s 8 5 = 0) (hp : s 8 4 = p) (p0 : 0 ≤ p) (p1 : p ≤ L)
    (hq : ∀ u : Mem, (∀ d, d ≠ 8 → u d = s d) → (∀ j, j ≠ 3 → j ≠ 4 → j ≠ 5 → u 8 j = s 8 j) → (0 ≤ u 8 4 ∧ u 8 4 ≤ L) → ((∃ e : Int, endF x L p = .inl e ∧ u 8 4 = e ∧ u 8 5 = 0 ∧ u 8 3 = s 8 3 ∧ p < e) ∨ (∃ w : Int, endF x L p = .inr (1, w) ∧ u 8 5 = 1 ∧ u 8 3 = w)) → Q u) : wp_X6_readEnd s Q := by
  have hL := tx.1
  have hs := sk_in x L p
  have hqL := hs.1.2 p1
  unfold wp_X6_readEnd wp_X6_nextIs
  rw [h5]
  refine ⟨inR_0, fun _ => ?_, fun z => absurd rfl z⟩
  refine c_skip tx tc hp p0 (by omega) (fun t ft gt t4 => ?_)
  have eF : endF x L p = if sk x L p < L ∧ x (sk x L p).toNat = 59 then .inl (sk x L p + 1) else .inr (1, sk x L p) := rfl
  generalize sk x L p = q at *
  have bad : ¬ (q < L ∧ x q.toNat = 59) → wp_X6_blame 1 (t 8 4) t (fun s4 => Q s4) := by
    intro hc
    rw [if_neg hc] at eF
    rw [t4]
    exact c_blame (by rw [gt 5 (by decide), h5]) (fun u fu gu u5 u3 => hq u (fun d hd => by rw [fu d hd, ft d hd]) (fun j h0 h1 h2 => by rw [gu j h0 h2, gt j h1]) (by rw [gu 4 (by decide) (by decide), t4]; omega) (Or.inr ⟨q, eF, u5, u3⟩))
  rw [gt 2 (by decide), tc.1, ft 9 (by decide)]
  rw [t4]
  refine ⟨inR_s (by omega) (by omega), inR_s (by omega) (by omega), fun h => ⟨inR_0, fun _ => bad (by omega), fun z => absurd rfl z⟩, fun h => ⟨by omega, ?_⟩⟩
  have hx := tx.2 q (by omega) (by omega)
  rw [tc.2 q (by omega) (by omega)]
  refine ⟨inR_s (by omega) (by omega), inR_s (by omega) (by omega), fun c => ⟨inR_s (by omega) (by omega), fun z => absurd z (by decide), fun _ => ?_⟩, fun c => ⟨inR_0, fun _ => bad (fun z => c z.2), fun z => absurd rfl z⟩⟩
  rintro s5 rfl
  rw [if_pos ⟨by omega, c⟩] at eF
  exact hq _ (fun d hd => by rw [up2_c hd, ft d hd]) (fun j h0 h1 h2 => by rw [up2_n h1, gt j h1]) (by rw [up2_s]; omega) (Or.inl ⟨q + 1, eF, by rw [up2_s, t4], by rw [up2_n (by decide), gt 5 (by decide), h5], by rw [up2_n (by decide), gt 3 (by decide)], by omega⟩)
