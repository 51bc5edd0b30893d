theorem sh_0 : wsh 0 = .inr (11, [10, 3, 19, 22, 25, 28, 31, 53, 54, 60, 62, 65, 0]) := rfl
theorem sh_1 : wsh 1 = .inr (0, [0, 0, 0, 0, 4, 5, 6, 7, 8, 9]) := rfl
theorem sh_2 : wsh 2 = .inl (0, 6) := rfl
theorem sh_3 : wsh 3 = .inl (0, 6) := rfl
theorem sh_4 : wsh 4 = .inl (0, 6) := rfl
theorem sh_5 : wsh 5 = .inl (0, 6) := rfl
theorem sh_6 : wsh 6 = .inl (0, 6) := rfl
theorem sh_7 : wsh 7 = .inl (0, 8) := rfl
theorem sh_8 : wsh 8 = .inr (6, [11, 12, 0, 0, 0, 0, 0, 0, 0]) := rfl
theorem sh_9 : wsh 9 = .inl (0, 200) := rfl
theorem sh_10 : wsh 10 = .inr (0, [0, 0, 0, 0, 13, 14, 15, 16, 17, 18]) := rfl
theorem sh_11 : wsh 11 = .inl (0, 6) := rfl
theorem sh_12 : wsh 12 = .inl (0, 6) := rfl
theorem sh_13 : wsh 13 = .inl (0, 6) := rfl
theorem sh_14 : wsh 14 = .inl (0, 6) := rfl
theorem sh_15 : wsh 15 = .inl (0, 6) := rfl
theorem sh_16 : wsh 16 = .inl (0, 8) := rfl
theorem sh_17 : wsh 17 = .inr (4, [3, 20, 21, 0]) := rfl
theorem sh_18 : wsh 18 = .inl (0, 6) := rfl
theorem sh_19 : wsh 19 = .inl (0, 6) := rfl
theorem sh_20 : wsh 20 = .inr (4, [3, 23, 24, 0]) := rfl
theorem sh_21 : wsh 21 = .inl (0, 6) := rfl
theorem sh_22 : wsh 22 = .inl (0, 6) := rfl
theorem sh_23 : wsh 23 = .inr (5, [26, 27, 0, 0]) := rfl
theorem sh_24 : wsh 24 = .inl (1, 30) := rfl
theorem sh_25 : wsh 25 = .inl (0, 30) := rfl
theorem sh_26 : wsh 26 = .inl (2, 2) := rfl
theorem sh_27 : wsh 27 = .inr (2, [0, 1, 0, 0]) := rfl
theorem sh_28 : wsh 28 = .inr (2, [0, 1, 0, 0]) := rfl
theorem sh_29 : wsh 29 = .inr (10, [32, 33, 34, 0, 0]) := rfl
theorem sh_30 : wsh 30 = .inl (3, 6) := rfl
theorem sh_31 : wsh 31 = .inl (0, 5) := rfl
theorem sh_32 : wsh 32 = .inl (0, 5) := rfl
theorem sh_33 : wsh 33 = .inr (4, [3, 36, 37, 0]) := rfl
theorem sh_34 : wsh 34 = .inl (0, 6) := rfl
theorem sh_35 : wsh 35 = .inl (0, 6) := rfl
theorem sh_36 : wsh 36 = .inr (4, [3, 39, 40, 0]) := rfl
theorem sh_37 : wsh 37 = .inl (0, 6) := rfl
theorem sh_38 : wsh 38 = .inl (0, 6) := rfl
theorem sh_39 : wsh 39 = .inr (4, [3, 42, 43, 0]) := rfl
theorem sh_40 : wsh 40 = .inl (0, 6) := rfl
theorem sh_41 : wsh 41 = .inl (0, 6) := rfl
theorem sh_42 : wsh 42 = .inr (4, [3, 45, 46, 0]) := rfl
theorem sh_43 : wsh 43 = .inl (0, 6) := rfl
theorem sh_44 : wsh 44 = .inl (0, 6) := rfl
theorem sh_45 : wsh 45 = .inr (4, [3, 48, 49, 0]) := rfl
theorem sh_46 : wsh 46 = .inl (0, 6) := rfl
theorem sh_47 : wsh 47 = .inl (0, 6) := rfl
theorem sh_48 : wsh 48 = .inr (4, [3, 51, 52, 0]) := rfl
theorem sh_49 : wsh 49 = .inl (0, 6) := rfl
theorem sh_50 : wsh 50 = .inl (0, 6) := rfl
theorem sh_51 : wsh 51 = .inr (7, [22, 0, 0]) := rfl
theorem sh_52 : wsh 52 = .inr (3, [22, 55, 56, 57, 0, 0, 58, 59, 0]) := rfl
theorem sh_53 : wsh 53 = .inl (0, 6) := rfl
theorem sh_54 : wsh 54 = .inl (0, 6) := rfl
theorem sh_55 : wsh 55 = .inl (0, 6) := rfl
theorem sh_56 : wsh 56 = .inl (0, 6) := rfl
theorem sh_57 : wsh 57 = .inl (0, 36) := rfl
theorem sh_58 : wsh 58 = .inr (8, [22, 61, 0, 0]) := rfl
theorem sh_59 : wsh 59 = .inl (1, 201) := rfl
theorem sh_60 : wsh 60 = .inr (9, [63, 64, 0, 0, 0, 0]) := rfl
theorem sh_61 : wsh 61 = .inl (0, 6) := rfl
theorem sh_62 : wsh 62 = .inl (0, 6) := rfl
theorem sh_63 : wsh 63 = .inr (1, [66, 0]) := rfl
theorem sh_64 : wsh 64 = .inl (0, 20) := rfl
theorem sh_65 : wsh 65 = .inr (12, [68, 69, 70, 0, 0, 0, 0, 0, 71, 0, 72, 0, 73, 74, 75, 76, 77, 78, 0, 79, 80, 0, 81, 0, 0, 0, 82]) := rfl
theorem sh_66 : wsh 66 = .inl (0, 44) := rfl
theorem sh_67 : wsh 67 = .inl (0, 44) := rfl
theorem sh_68 : wsh 68 = .inl (0, 200) := rfl
theorem sh_69 : wsh 69 = .inl (0, 13) := rfl
theorem sh_70 : wsh 70 = .inl (0, 6) := rfl
theorem sh_71 : wsh 71 = .inl (0, 390) := rfl
theorem sh_72 : wsh 72 = .inl (0, 13) := rfl
theorem sh_73 : wsh 73 = .inl (0, 6) := rfl
theorem sh_74 : wsh 74 = .inl (0, 6) := rfl
theorem sh_75 : wsh 75 = .inl (0, 6) := rfl
theorem sh_76 : wsh 76 = .inl (0, 2412) := rfl
theorem sh_77 : wsh 77 = .inl (0, 6) := rfl
theorem sh_78 : wsh 78 = .inl (0, 6) := rfl
theorem sh_79 : wsh 79 = .inl (0, 20) := rfl
theorem sh_80 : wsh 80 = .inl (0, 30) := rfl
theorem isN_lt {c : Nat} (h : isN c) : c < 81 := by have := (isN_sh h).1; omega
theorem isN_lt1 {c : Nat} (h : isN c) : c + 1 < 81 := by have := (isN_sh h).1; omega
theorem isN_lt2 {c : Nat} (h : isN c) : c + 2 < 81 := (isN_sh h).1
section WM
variable {p : Program} {l : Launch} {e : Env} {R : Room} {s : State} {m : MethodId} {args : Array Value} {below : List Frame} {meth : Method} {c : Code} {H : Heap} {locs : List Loc} {cells slots : Nat} {Q : State → Prop}
variable {cc : ByteArray} {pc : Nat} {ls : Array Slot} {rest : List Value} {D : va_G} {cA : Nat → ClassId} {ad : Nat → Nat} {nL k : Nat} {own : String}
theorem wk_max {idx : Nat} {x y : Int} (C0 : wC p s m args c cc nL own D cA ad) (hsz : ls.size = nL) (hcl : wCs own idx yJ9_max_7cf53 cJ9_max_7cf53 2 (some .int) 2) (h1 : inR x) (h2 : inR y) (hframes : 1 ≤ (rmL k).frames) (hlocals : (rest.map fun v => v.category).sum + 13 ≤ (rmL k).locals) (hdg : decode cc pc = .ok (.invokestatic idx, 3))
    (kk : W p l e (rmL k) s m args below meth c H locs 0 0 Q (F0 m (pc + 3) ls (.int (iI (max x y)) :: rest))) : W p l e (rmL k) s m args below meth c H locs 0 0 Q (F0 m pc ls (.int (iI y) :: .int (iI x) :: rest)) := by
  obtain ⟨hx, hb, hml, hown, htb, hK, hI, hN⟩ := C0
  obtain ⟨⟨q1, q2, q3, q4⟩, q5⟩ := hcl
  refine va_mmax hx hb (by rw [hml, hsz]) hown (htb _ q1) (htb _ q5) (htb _ q3) (htb _ q2) hframes hlocals (Nat.le_refl _) (Nat.le_refl _) hdg ?_
  have e : (if iI x < iI y then iI y else iI x) = iI (max x y) := by
    by_cases h : x < y
    · rw [if_pos ((iI_lt h1 h2).mpr h), show max x y = y by omega]
    · rw [if_neg (fun q => h ((iI_lt h1 h2).mp q)), show max x y = x by omega]
  rw [e]
  exact kk
theorem wk_min {idx : Nat} {x y : Int} (C0 : wC p s m args c cc nL own D cA ad) (hsz : ls.size = nL) (hcl : wCs own idx yJ9_min_7cf53 cJ9_min_7cf53 2 (some .int) 2) (h1 : inR x) (h2 : inR y) (hframes : 1 ≤ (rmL k).frames) (hlocals : (rest.map fun v => v.category).sum + 13 ≤ (rmL k).locals) (hdg : decode cc pc = .ok (.invokestatic idx, 3))
    (kk : W p l e (rmL k) s m args below meth c H locs 0 0 Q (F0 m (pc + 3) ls (.int (iI (min x y)) :: rest))) : W p l e (rmL k) s m args below meth c H locs 0 0 Q (F0 m pc ls (.int (iI y) :: .int (iI x) :: rest)) := by
  obtain ⟨hx, hb, hml, hown, htb, hK, hI, hN⟩ := C0
  obtain ⟨⟨q1, q2, q3, q4⟩, q5⟩ := hcl
  refine va_mmin hx hb (by rw [hml, hsz]) hown (htb _ q1) (htb _ q5) (htb _ q3) (htb _ q2) hframes hlocals (Nat.le_refl _) (Nat.le_refl _) hdg ?_
  have e : (if iI y < iI x then iI y else iI x) = iI (min x y) := by
    by_cases h : y < x
    · rw [if_pos ((iI_lt h2 h1).mpr h), show min x y = y by omega]
    · rw [if_neg (fun q => h ((iI_lt h2 h1).mp q)), show min x y = x by omega]
  rw [e]
  exact kk
theorem wk_abs {idx : Nat} {x : Int} (C0 : wC p s m args c cc nL own D cA ad) (hsz : ls.size = nL) (hcl : wCs own idx yJ9_abs_0f7a4 cJ9_abs_0f7a4 1 (some .int) 1) (h1 : inR x) (hframes : 1 ≤ (rmL k).frames) (hlocals : (rest.map fun v => v.category).sum + 13 ≤ (rmL k).locals) (hdg : decode cc pc = .ok (.invokestatic idx, 3))
    (kk : W p l e (rmL k) s m args below meth c H locs 0 0 Q (F0 m (pc + 3) ls (.int (iI (if 0 ≤ x then x else -x)) :: rest))) : W p l e (rmL k) s m args below meth c H locs 0 0 Q (F0 m pc ls (.int (iI x) :: rest)) := by
  obtain ⟨hx, hb, hml, hown, htb, hK, hI, hN⟩ := C0
  obtain ⟨⟨q1, q2, q3, q4⟩, q5⟩ := hcl
  refine va_mabs hx hb (by rw [hml, hsz]) hown (htb _ q1) (htb _ q5) (htb _ q3) (htb _ q2) hframes hlocals (Nat.le_refl _) (Nat.le_refl _) hdg ?_
  have e : (if 0 ≤ iI x then iI x else 0 - iI x) = iI (if 0 ≤ x then x else -x) := by
    by_cases h : 0 ≤ x
    · rw [if_pos h, if_pos (by rw [iI_0]; exact (iI_le inR_0 h1).mpr h)]
    · rw [if_neg h, if_neg (fun q => h (by rw [iI_0] at q; exact (iI_le inR_0 h1).mp q)), iI_0, iI_sub, Int.zero_sub]
  rw [e]
  exact kk
end WM
def wp_X0_empty (sg : Mem) (Q : Mem → Prop) : Prop :=
  ∀ s1 : Mem, s1 = up2 sg 10 0 0 → ∀ s2 : Mem, s2 = up2 s1 10 1 0 → ∀ s3 : Mem, s3 = up2 s2 10 2 0 → ∀ s4 : Mem, s4 = up2 s3 10 3 1 → ∀ s5 : Mem, s5 = up2 s4 16 0 0 → ∃ I29 : Nat → Int → Mem → Prop, (∀ (k29 : Nat) (y1_6 : Int) (s7 : Mem), I29 k29 y1_6 s7 → (inR y1_6) ∧ (6 ≤ y1_6 → Q s7) ∧ (¬ (6 ≤ y1_6) → ((0 ≤ y1_6 ∧ y1_6 < 6)) ∧ ∀ s10 : Mem, s10 = up2 s7 11 y1_6.toNat 0 → ∀ x1_11 : Int, x1_11 = y1_6 + 1 → ∃ k12, k12 < k29 ∧ I29 k12 x1_11 s10)) ∧ ∃ k13, I29 k13 0 s5

def wp_X0_become (sg : Mem) (Q : Mem → Prop) : Prop :=
  ∀ s1 : Mem, s1 = up2 sg 1 0 (sg 10 0) → ((s1 10 1 = 0 ∨ s1 10 1 = 1)) ∧ ∀ s3 : Mem, s3 = up2 s1 1 1 (s1 10 1) → ∀ s4 : Mem, s4 = up2 s3 1 2 (s3 10 2) → ∀ s5 : Mem, s5 = up2 s4 1 3 (s4 10 3) → ∀ s6 : Mem, s6 = upr s5 2 (fun j => if j < 6 then s5 11 j else s5 2 j) → ∀ s7 : Mem, s7 = upr s6 3 (fun j => if j < 6 then s6 12 j else s6 3 j) → ∀ s8 : Mem, s8 = upr s7 4 (fun j => if j < 6 then s7 13 j else s7 4 j) → ∀ s9 : Mem, s9 = upr s8 5 (fun j => if j < 6 then s8 14 j else s8 5 j) → ∀ s10 : Mem, s10 = upr s9 6 (fun j => if j < 6 then s9 15 j else s9 6 j) → ∀ s11 : Mem, s11 = upr s10 7 (fun j => if j < 8 then s10 16 j else s10 7 j) → Q s11

def wp_X0_hasPlace (a1 : Int) (sg : Mem) (Q : Int → Prop) : Prop :=
  (inR a1) ∧ (a1 < 0 → Q 0) ∧ (¬ (a1 < 0) → (inR (sg 1 0)) ∧ (sg 1 0 ≤ a1 → Q 0) ∧ (¬ (sg 1 0 ≤ a1) → Q 1))

def wp_X0_hasSleeper (a1 : Int) (sg : Mem) (Q : Int → Prop) : Prop :=
  (inR a1) ∧ (a1 < 0 → Q 0) ∧ (¬ (a1 < 0) → (inR (sg 1 2)) ∧ (sg 1 2 ≤ a1 → Q 0) ∧ (¬ (sg 1 2 ≤ a1) → Q 1))

def wp_X0_lawAt (a1 : Int) (sg : Mem) (Q : Int → Prop) : Prop :=
  (inR (sg 1 3)) ∧ (sg 1 3 < 1 → Q 0) ∧ (¬ (sg 1 3 < 1) → (inR a1) ∧ (0 ≤ a1 → (sg 1 3 ≠ 0) ∧ ((0 ≤ Int.tmod a1 (sg 1 3) ∧ Int.tmod a1 (sg 1 3) < 8)) ∧ Q (sg 7 (Int.tmod a1 (sg 1 3)).toNat)) ∧ (¬ (0 ≤ a1) → Q 0))

def wp_X0_warmestPlace (sg : Mem) (Q : Int → Prop) : Prop :=
  ∃ I4 : Nat → Int → Int → Prop, (∀ (k4 : Nat) (y1_1 : Int) (y2_2 : Int), I4 k4 y1_1 y2_2 → (inR y2_2) ∧ (inR (sg 1 0)) ∧ (sg 1 0 ≤ y2_2 → Q y1_1) ∧ (¬ (sg 1 0 ≤ y2_2) → ((0 ≤ y2_2 ∧ y2_2 < 6)) ∧ ((0 ≤ y1_1 ∧ y1_1 < 6)) ∧ (inR (sg 2 y2_2.toNat)) ∧ (inR (sg 2 y1_1.toNat)) ∧ ∀ y1_9 : Int, y1_9 = (if sg 2 y2_2.toNat ≤ sg 2 y1_1.toNat then y1_1 else y2_2) → ∀ x2_10 : Int, x2_10 = y2_2 + 1 → ∃ k11, k11 < k4 ∧ I4 k11 y1_9 x2_10)) ∧ ∃ k13, I4 k13 0 1

def wp_X0_turned (a1 : Int) (a2 : Int) (sg : Mem) (Q : Int → Prop) : Prop :=
  ∀ x3_1 : Int, x3_1 = (sg 1 0) - 1 → (inR a2) ∧ (a2 = 1 → (inR a1) ∧ (inR x3_1) ∧ (a1 = x3_1 → Q 0) ∧ (¬ (a1 = x3_1) → Q (a1 + 1))) ∧ (a2 = 2 → (inR a1) ∧ (a1 = 0 → Q x3_1) ∧ (¬ (a1 = 0) → Q (a1 - 1))) ∧ (a2 = 3 → (inR a1) ∧ (a1 = 0 → Q x3_1) ∧ (¬ (a1 = 0) → (inR x3_1) ∧ (a1 = x3_1 → Q 0) ∧ (¬ (a1 = x3_1) → Q a1))) ∧ ((a2 < 1 ∨ 3 < a2) → Q a1)

def wp_X0_unlike (a1 : Int) (sg : Mem) (Q : Int → Prop) : Prop :=
  ∃ I4 : Nat → Int → Int → Prop, (∀ (k4 : Nat) (y2_1 : Int) (y3_2 : Int), I4 k4 y2_1 y3_2 → (inR y3_2) ∧ (inR (sg 1 2)) ∧ (sg 1 2 ≤ y3_2 → (inR y2_1) ∧ Q (if 0 ≤ y2_1 then y2_1 else -y2_1)) ∧ (¬ (sg 1 2 ≤ y3_2) → (inR (zand (zshr a1 y3_2) 1)) ∧ (((zand (zshr a1 y3_2) 1 = 1 → (((0 ≤ y3_2 ∧ y3_2 < 6)))) ∧ (¬ (zand (zshr a1 y3_2) 1 = 1) → (((0 ≤ y3_2 ∧ y3_2 < 6)))))) ∧ ∀ v9 : Int, v9 = (if zand (zshr a1 y3_2) 1 = 1 then sg 4 y3_2.toNat else -(sg 4 y3_2.toNat)) → ∀ x2_10 : Int, x2_10 = y2_1 + v9 → ∀ x3_11 : Int, x3_11 = y3_2 + 1 → ∃ k12, k12 < k4 ∧ I4 k12 x2_10 x3_11)) ∧ ∃ k14, I4 k14 0 0

def wp_X1_empty (sg : Mem) (Q : Mem → Prop) : Prop :=
  ∀ s1 : Mem, s1 = up2 sg 63 1 0 → Q s1

def wp_X1_add (a1 : Int) (sg : Mem) (Q : Int → Mem → Prop) : Prop :=
  (inR (sg 63 1)) ∧ (sg 63 1 < 20 → ((0 ≤ sg 63 1 ∧ sg 63 1 < 20)) ∧ ∀ s3 : Mem, s3 = up2 sg 64 (sg 63 1).toNat a1 → ∀ s4 : Mem, s4 = up2 s3 63 1 ((s3 63 1) + 1) → Q 1 s4) ∧ (¬ (sg 63 1 < 20) → Q 0 sg)

def wp_X4_turn (c0 : Nat) (a1 : Int) (sg : Mem) (Q : Mem → Prop) : Prop :=
  ∀ x2_1 : Int, x2_1 = (sg 1 0) - 1 → (inR x2_1) ∧ (1 ≤ x2_1 → ∀ x3_3 : Int, x3_3 = sg (c0 + 1) 0 → ((0 ≤ x2_1 ∧ x2_1 < 6)) ∧ ∀ x4_5 : Int, x4_5 = sg (c0 + 1) x2_1.toNat → (inR a1) ∧ (a1 = 1 → ∃ I39 : Nat → Int → Mem → Prop, (∀ (k39 : Nat) (y5_7 : Int) (s8 : Mem), I39 k39 y5_7 s8 → (inR y5_7) ∧ (y5_7 ≤ 0 → ∀ s10 : Mem, s10 = up2 s8 (c0 + 1) 0 x4_5 → Q s10) ∧ (¬ (y5_7 ≤ 0) → ((0 ≤ y5_7 - 1 ∧ y5_7 - 1 < 6)) ∧ ((0 ≤ y5_7 ∧ y5_7 < 6)) ∧ ∀ s13 : Mem, s13 = up2 s8 (c0 + 1) y5_7.toNat (s8 (c0 + 1) (y5_7 - 1).toNat) → ∀ x5_14 : Int, x5_14 = y5_7 + (-1) → ∃ k15, k15 < k39 ∧ I39 k15 x5_14 s13)) ∧ ∃ k16, I39 k16 x2_1 sg) ∧ (¬ (a1 = 1) → (a1 = 2 → ∃ I85 : Nat → Int → Mem → Prop, (∀ (k85 : Nat) (y5_17 : Int) (s18 : Mem), I85 k85 y5_17 s18 → (inR y5_17) ∧ (x2_1 ≤ y5_17 → ∀ s20 : Mem, s20 = up2 s18 (c0 + 1) x2_1.toNat x3_3 → Q s20) ∧ (¬ (x2_1 ≤ y5_17) → ((0 ≤ y5_17 + 1 ∧ y5_17 + 1 < 6)) ∧ ((0 ≤ y5_17 ∧ y5_17 < 6)) ∧ ∀ s23 : Mem, s23 = up2 s18 (c0 + 1) y5_17.toNat (s18 (c0 + 1) (y5_17 + 1).toNat) → ∀ x5_24 : Int, x5_24 = y5_17 + 1 → ∃ k25, k25 < k85 ∧ I85 k25 x5_24 s23)) ∧ ∃ k26, I85 k26 0 sg) ∧ (¬ (a1 = 2) → (a1 = 3 → ∀ s27 : Mem, s27 = up2 sg (c0 + 1) 0 x4_5 → ∀ s28 : Mem, s28 = up2 s27 (c0 + 1) x2_1.toNat x3_3 → Q s28) ∧ (¬ (a1 = 3) → Q sg)))) ∧ (¬ (1 ≤ x2_1) → Q sg)

def wp_X4_givenFrom (c0 : Nat) (a1 : Int) (sg : Mem) (Q : Int → Prop) : Prop :=
  (inR a1) ∧ (a1 = (-1) → Q 0) ∧ (¬ (a1 = (-1)) → ((0 ≤ a1 ∧ a1 < 6)) ∧ (inR (sg (c0 + 1) a1.toNat)) ∧ (sg (c0 + 1) a1.toNat = (-1) → Q 0) ∧ (¬ (sg (c0 + 1) a1.toNat = (-1)) → ((0 ≤ sg (c0 + 1) a1.toNat ∧ sg (c0 + 1) a1.toNat < 6)) ∧ Q (sg 4 (sg (c0 + 1) a1.toNat).toNat)))

def wp_X4_givenTo (c0 : Nat) (a1 : Int) (sg : Mem) (Q : Int → Prop) : Prop :=
  ∀ x2_1 : Int, x2_1 = (sg 1 0) - 1 → (inR (sg 1 1)) ∧ (((sg 1 1 = 0 → True) ∧ (¬ (sg 1 1 = 0) → ((inR x2_1))))) ∧ ∀ v4 : Int, v4 = (if sg 1 1 = 0 then 0 else if x2_1 ≤ 1 then 0 else 1) → (inR a1) ∧ (((a1 ≤ 0 → ((inR v4))) ∧ (¬ (a1 ≤ 0) → True))) ∧ ∀ v7 : Int, v7 = (if a1 ≤ 0 then if v4 = 0 then (-1) else x2_1 else a1 - 1) → (inR x2_1) ∧ (((x2_1 ≤ a1 → ((inR v4))) ∧ (¬ (x2_1 ≤ a1) → True))) ∧ ∀ v10 : Int, v10 = (if x2_1 ≤ a1 then if v4 = 0 then (-1) else 0 else a1 + 1) → wp_X4_givenFrom c0 v7 sg (fun r11 => wp_X4_givenFrom c0 v10 sg (fun r12 => Q (r11 + r12)))

def wp_X4_stay (c0 : Nat) (a1 : Int) (sg : Mem) (Q : Mem → Prop) : Prop :=
  ∃ I4 : Nat → Int → Int → Mem → Prop, (∀ (k4 : Nat) (y2_1 : Int) (y3_2 : Int) (s3 : Mem), I4 k4 y2_1 y3_2 s3 → (inR y3_2) ∧ (inR (s3 1 0)) ∧ (s3 1 0 ≤ y3_2 → ∃ I100 : Nat → Int → Mem → Prop, (∀ (k100 : Nat) (y3_6 : Int) (s7 : Mem), I100 k100 y3_6 s7 → (inR y3_6) ∧ (inR (s7 1 2)) ∧ (s7 1 2 ≤ y3_6 → Q s7) ∧ (¬ (s7 1 2 ≤ y3_6) → (inR (zand (zshr y2_1 y3_6) 1)) ∧ ∃ X149 : Mem → Prop, (∀ (s11 : Mem), X149 s11 → ∀ x3_12 : Int, x3_12 = y3_6 + 1 → ∃ k13, k13 < k100 ∧ I100 k13 x3_12 s11) ∧ (zand (zshr y2_1 y3_6) 1 = 0 → ((0 ≤ y3_6 ∧ y3_6 < 6)) ∧ (inR ((s7 (c0 + 2) y3_6.toNat) - ((a1 * 2) * (s7 5 y3_6.toNat)))) ∧ ∀ s16 : Mem, s16 = up2 s7 (c0 + 2) y3_6.toNat (max 0 ((s7 (c0 + 2) y3_6.toNat) - ((a1 * 2) * (s7 5 y3_6.toNat)))) → X149 s16) ∧ (¬ (zand (zshr y2_1 y3_6) 1 = 0) → X149 s7))) ∧ ∃ k17, I100 k17 0 s3) ∧ (¬ (s3 1 0 ≤ y3_2) → ((0 ≤ y3_2 ∧ y3_2 < 6)) ∧ ∀ x4_19 : Int, x4_19 = s3 (c0 + 1) y3_2.toNat → (inR x4_19) ∧ ∃ X92 : Int → Mem → Prop, (∀ (y2_21 : Int) (s22 : Mem), X92 y2_21 s22 → ∀ x3_23 : Int, x3_23 = y3_2 + 1 → ∃ k24, k24 < k4 ∧ I4 k24 y2_21 x3_23 s22) ∧ (x4_19 = (-1) → X92 y2_1 s3) ∧ (¬ (x4_19 = (-1)) → ∀ x2_25 : Int, x2_25 = zor y2_1 (zshl 1 x4_19) → wp_X4_givenTo c0 y3_2 s3 (fun r26 => ((0 ≤ x4_19 ∧ x4_19 < 6)) ∧ ∀ x5_28 : Int, x5_28 = ((s3 2 y3_2.toNat) + r26) - (s3 5 x4_19.toNat) → (inR ((s3 (c0 + 2) x4_19.toNat) + (a1 * x5_28))) ∧ (inR (min 99 ((s3 (c0 + 2) x4_19.toNat) + (a1 * x5_28)))) ∧ ∀ s31 : Mem, s31 = up2 s3 (c0 + 2) x4_19.toNat (max 0 (min 99 ((s3 (c0 + 2) x4_19.toNat) + (a1 * x5_28)))) → X92 x2_25 s31)))) ∧ ∃ k32, I4 k32 0 0 sg

def wp_X4_passHour (c0 : Nat) (a1 : Int) (sg : Mem) (Q : Mem → Prop) : Prop :=
  wp_X4_turn c0 a1 sg (fun s1 => wp_X4_stay c0 1 s1 (fun s2 => ∀ s3 : Mem, s3 = up2 s2 c0 3 ((s2 c0 3) + 1) → Q s3))

def wp_X4_awake (c0 : Nat) (sg : Mem) (Q : Int → Prop) : Prop :=
  ∃ I4 : Nat → Int → Int → Prop, (∀ (k4 : Nat) (y1_1 : Int) (y2_2 : Int), I4 k4 y1_1 y2_2 → (inR y2_2) ∧ (inR (sg 1 0)) ∧ (sg 1 0 ≤ y2_2 → Q y1_1) ∧ (¬ (sg 1 0 ≤ y2_2) → ((0 ≤ y2_2 ∧ y2_2 < 6)) ∧ ∀ x3_6 : Int, x3_6 = sg (c0 + 1) y2_2.toNat → (inR x3_6) ∧ (((x3_6 = (-1) → True) ∧ (¬ (x3_6 = (-1)) → (((0 ≤ x3_6 ∧ x3_6 < 6)) ∧ (inR (sg (c0 + 2) x3_6.toNat)) ∧ (inR (sg 6 x3_6.toNat)))))) ∧ ∀ y1_11 : Int, y1_11 = (if x3_6 = (-1) then y1_1 else if sg 6 x3_6.toNat < sg (c0 + 2) x3_6.toNat then y1_1 else zor y1_1 (zshl 1 x3_6)) → ∀ x2_12 : Int, x2_12 = y2_2 + 1 → ∃ k13, k13 < k4 ∧ I4 k13 y1_11 x2_12)) ∧ ∃ k16, I4 k16 0 0

def wp_X1_sayTo (c1 : Nat) (sg : Mem) (Q : Int → Mem → Prop) : Prop :=
  ∃ I4 : Nat → Int → Int → Mem → Prop, (∀ (k4 : Nat) (y2_1 : Int) (y3_2 : Int) (s3 : Mem), I4 k4 y2_1 y3_2 s3 → (inR y3_2) ∧ (inR (s3 63 1)) ∧ (s3 63 1 ≤ y3_2 → Q y2_1 s3) ∧ (¬ (s3 63 1 ≤ y3_2) → ((0 ≤ y3_2 ∧ y3_2 < 20)) ∧ wp_X4_passHour c1 (s3 64 y3_2.toNat) s3 (fun s7 => (inR y2_1) ∧ ∃ X36 : Int → Prop, (∀ (y2_9 : Int), X36 y2_9 → ∀ x3_10 : Int, x3_10 = y3_2 + 1 → ∃ k11, k11 < k4 ∧ I4 k11 y2_9 x3_10 s7) ∧ (y2_1 = (-1) → wp_X4_awake c1 s7 (fun r12 => (inR r12) ∧ (r12 = 0 → X36 y2_1) ∧ (¬ (r12 = 0) → X36 y3_2))) ∧ (¬ (y2_1 = (-1)) → X36 y2_1)))) ∧ ∃ k14, I4 k14 (-1) 0 sg

def wp_X4_code (c0 : Nat) (sg : Mem) (Q : Int → Prop) : Prop :=
  ∃ I4 : Nat → Int → Int → Prop, (∀ (k4 : Nat) (y1_1 : Int) (y3_2 : Int), I4 k4 y1_1 y3_2 → (inR y3_2) ∧ (6 ≤ y3_2 → Q y1_1) ∧ (¬ (6 ≤ y3_2) → ((0 ≤ y3_2 ∧ y3_2 < 6)) ∧ (inR (zor (zshl (sg (c0 + 2) y3_2.toNat) 3) ((sg (c0 + 1) y3_2.toNat) + 1))) ∧ ∀ x1_6 : Int, x1_6 = yor (yshl y1_1 10) (zor (zshl (sg (c0 + 2) y3_2.toNat) 3) ((sg (c0 + 1) y3_2.toNat) + 1)) → ∀ x3_7 : Int, x3_7 = y3_2 + 1 → ∃ k8, k8 < k4 ∧ I4 k8 x1_6 x3_7)) ∧ ∃ k9, I4 k9 0 0

def wp_X2_take (c0 : Nat) (c1 : Nat) (a2 : Int) (sg : Mem) (Q : Mem → Prop) : Prop :=
  ∀ s1 : Mem, s1 = up2 sg c0 0 1 → wp_X4_code c1 s1 (fun r2 => ∀ s3 : Mem, s3 = up2 s1 c0 1 r2 → ∀ s4 : Mem, s4 = up2 s3 c0 2 (s3 c1 3) → ∀ s5 : Mem, s5 = up2 s4 c0 3 a2 → Q s5)

def wp_X4_inBed (c0 : Nat) (sg : Mem) (Q : Int → Prop) : Prop :=
  ∃ I4 : Nat → Int → Int → Prop, (∀ (k4 : Nat) (y1_1 : Int) (y2_2 : Int), I4 k4 y1_1 y2_2 → (inR y2_2) ∧ (inR (sg 1 0)) ∧ (sg 1 0 ≤ y2_2 → Q y1_1) ∧ (¬ (sg 1 0 ≤ y2_2) → ((0 ≤ y2_2 ∧ y2_2 < 6)) ∧ (inR (sg (c0 + 1) y2_2.toNat)) ∧ ∀ y1_7 : Int, y1_7 = (if sg (c0 + 1) y2_2.toNat = (-1) then y1_1 else zor y1_1 (zshl 1 (sg (c0 + 1) y2_2.toNat))) → ∀ x2_8 : Int, x2_8 = y2_2 + 1 → ∃ k9, k9 < k4 ∧ I4 k9 y1_7 x2_8)) ∧ ∃ k11, I4 k11 0 0

def wp_X4_become (c0 : Nat) (c1 : Nat) (sg : Mem) (Q : Mem → Prop) : Prop :=
  ∀ s1 : Mem, s1 = upr sg (c0 + 1) (fun j => if j < 6 then sg (c1 + 1) j else sg (c0 + 1) j) → ∀ s2 : Mem, s2 = upr s1 (c0 + 2) (fun j => if j < 6 then s1 (c1 + 2) j else s1 (c0 + 2) j) → ∀ s3 : Mem, s3 = up2 s2 c0 3 (s2 c1 3) → Q s3

def wp_X4_coldest (c0 : Nat) (sg : Mem) (Q : Int → Prop) : Prop :=
  ∃ I4 : Nat → Int → Int → Prop, (∀ (k4 : Nat) (y1_1 : Int) (y2_2 : Int), I4 k4 y1_1 y2_2 → (inR y2_2) ∧ (inR (sg 1 0)) ∧ (sg 1 0 ≤ y2_2 → Q y1_1) ∧ (¬ (sg 1 0 ≤ y2_2) → ((0 ≤ y2_2 ∧ y2_2 < 6)) ∧ ∀ x3_6 : Int, x3_6 = sg (c0 + 1) y2_2.toNat → (inR x3_6) ∧ (((x3_6 = (-1) → True) ∧ (¬ (x3_6 = (-1)) → (((0 ≤ x3_6 ∧ x3_6 < 6)) ∧ (inR y1_1) ∧ ((y1_1 = (-1) → True) ∧ (¬ (y1_1 = (-1)) → ((inR ((100 + (sg (c0 + 2) x3_6.toNat)) - (sg 6 x3_6.toNat)))))))))) ∧ ∀ y1_11 : Int, y1_11 = (if x3_6 = (-1) then y1_1 else if y1_1 = (-1) then (100 + (sg (c0 + 2) x3_6.toNat)) - (sg 6 x3_6.toNat) else if y1_1 ≤ (100 + (sg (c0 + 2) x3_6.toNat)) - (sg 6 x3_6.toNat) then y1_1 else (100 + (sg (c0 + 2) x3_6.toNat)) - (sg 6 x3_6.toNat)) → ∀ x2_12 : Int, x2_12 = y2_2 + 1 → ∃ k13, k13 < k4 ∧ I4 k13 y1_11 x2_12)) ∧ ∃ k17, I4 k17 (-1) 0

def wp_X3_compare (c1 : Nat) (a2 : Int) (sg : Mem) (Q : Mem → Prop) : Prop :=
  wp_X4_become 20 c1 sg (fun s1 => ∃ I10 : Nat → Int → Mem → Prop, (∀ (k10 : Nat) (y3_2 : Int) (s3 : Mem), I10 k10 y3_2 s3 → (inR y3_2) ∧ (inR (s3 52 4)) ∧ (s3 52 4 ≤ y3_2 → wp_X4_stay 20 a2 s3 (fun s6 => wp_X4_coldest 20 s6 (fun r7 => (inR r7) ∧ (inR (s6 52 5)) ∧ (r7 ≤ s6 52 5 → Q s6) ∧ (¬ (r7 ≤ s6 52 5) → ∀ s10 : Mem, s10 = up2 s6 52 5 r7 → ∀ s11 : Mem, s11 = upr s10 55 (fun j => if j < 6 then s10 54 j else s10 55 j) → Q s11)))) ∧ (¬ (s3 52 4 ≤ y3_2) → ((0 ≤ y3_2 ∧ y3_2 < 6)) ∧ ((0 ≤ s3 53 y3_2.toNat ∧ s3 53 y3_2.toNat < 6)) ∧ ∀ s14 : Mem, s14 = up2 s3 21 (s3 53 y3_2.toNat).toNat (s3 54 y3_2.toNat) → ∀ x3_15 : Int, x3_15 = y3_2 + 1 → ∃ k16, k16 < k10 ∧ I10 k16 x3_15 s14)) ∧ ∃ k17, I10 k17 0 s1)

def wp_X3_tryOrders : Nat → Nat → Int → Int → Int → Mem → (Mem → Prop) → Prop
  | 0, _, _, _, _, _, _ => False
  | d + 1, c2, a3, a4, a5, sg, Q =>
    (inR a3) ∧ (inR (sg 52 4)) ∧ ∃ X14 : Prop, (X14 → wp_X3_compare c2 a5 sg (fun s3 => Q s3)) ∧ (sg 52 4 ≤ a3 → X14) ∧ (¬ (sg 52 4 ≤ a3) → (a3 < 6 → ∃ I25 : Nat → Int → Mem → Prop, (∀ (k25 : Nat) (y5_4 : Int) (s5 : Mem), I25 k25 y5_4 s5 → (inR y5_4) ∧ (6 ≤ y5_4 → Q s5) ∧ (¬ (6 ≤ y5_4) → (inR (zand (zshr a4 y5_4) 1)) ∧ ∃ X68 : Mem → Prop, (∀ (s8 : Mem), X68 s8 → ∀ x5_9 : Int, x5_9 = y5_4 + 1 → ∃ k10, k10 < k25 ∧ I25 k10 x5_9 s8) ∧ (zand (zshr a4 y5_4) 1 = 1 → ((0 ≤ a3 ∧ a3 < 6)) ∧ ∀ s12 : Mem, s12 = up2 s5 54 a3.toNat y5_4 → wp_X3_tryOrders d c2 (a3 + 1) (zand a4 (zxor (zshl 1 y5_4) (-1))) a5 s12 (fun s13 => X68 s13)) ∧ (¬ (zand (zshr a4 y5_4) 1 = 1) → X68 s5))) ∧ ∃ k14, I25 k14 0 sg) ∧ (¬ (a3 < 6) → X14))

def wp_X3_seek (c1 : Nat) (a2 : Int) (sg : Mem) (Q : Mem → Prop) : Prop :=
  ∀ s1 : Mem, s1 = up2 sg 52 5 (-1) → ∀ s2 : Mem, s2 = up2 s1 52 4 0 → ∃ I12 : Nat → Int → Mem → Prop, (∀ (k12 : Nat) (y3_3 : Int) (s4 : Mem), I12 k12 y3_3 s4 → (inR y3_3) ∧ (inR (s4 1 0)) ∧ (s4 1 0 ≤ y3_3 → (inR (s4 52 4)) ∧ (s4 52 4 ≤ 0 → Q s4) ∧ (¬ (s4 52 4 ≤ 0) → wp_X4_inBed c1 s4 (fun r8 => ∃ d9, d9 ≤ 8 ∧ wp_X3_tryOrders d9 c1 0 r8 a2 s4 (fun s10 => Q s10)))) ∧ (¬ (s4 1 0 ≤ y3_3) → ((0 ≤ y3_3 ∧ y3_3 < 6)) ∧ (inR (s4 (c1 + 1) y3_3.toNat)) ∧ ∃ X53 : Mem → Prop, (∀ (s13 : Mem), X53 s13 → ∀ x3_14 : Int, x3_14 = y3_3 + 1 → ∃ k15, k15 < k12 ∧ I12 k15 x3_14 s13) ∧ (s4 (c1 + 1) y3_3.toNat = (-1) → X53 s4) ∧ (¬ (s4 (c1 + 1) y3_3.toNat = (-1)) → ((0 ≤ s4 52 4 ∧ s4 52 4 < 6)) ∧ ∀ s17 : Mem, s17 = up2 s4 53 (s4 52 4).toNat y3_3 → ∀ s18 : Mem, s18 = up2 s17 52 4 ((s17 52 4) + 1) → X53 s18))) ∧ ∃ k19, I12 k19 0 s2

def wp_X4_placeOf (c0 : Nat) (a1 : Int) (sg : Mem) (Q : Int → Prop) : Prop :=
  ∃ I2 : Nat → Int → Prop, (∀ (k2 : Nat) (y2_1 : Int), I2 k2 y2_1 → (inR y2_1) ∧ (inR (sg 1 0)) ∧ (sg 1 0 ≤ y2_1 → Q (-1)) ∧ (¬ (sg 1 0 ≤ y2_1) → ((0 ≤ y2_1 ∧ y2_1 < 6)) ∧ (inR (sg (c0 + 1) y2_1.toNat)) ∧ (inR a1) ∧ (sg (c0 + 1) y2_1.toNat = a1 → Q y2_1) ∧ (¬ (sg (c0 + 1) y2_1.toNat = a1) → ∀ x2_7 : Int, x2_7 = y2_1 + 1 → ∃ k8, k8 < k2 ∧ I2 k8 x2_7))) ∧ ∃ k9, I2 k9 0

def wp_X3_bothWarmer (c1 : Nat) (a2 : Int) (a3 : Int) (sg : Mem) (Q : Int → Mem → Prop) : Prop :=
  wp_X4_placeOf c1 a2 sg (fun r1 => wp_X4_placeOf c1 a3 sg (fun r2 => (inR r1) ∧ (r1 = (-1) → Q 0 sg) ∧ (¬ (r1 = (-1)) → (inR r2) ∧ (r2 = (-1) → Q 0 sg) ∧ (¬ (r2 = (-1)) → wp_X4_become 20 c1 sg (fun s5 => ((0 ≤ r1 ∧ r1 < 6)) ∧ ∀ s7 : Mem, s7 = up2 s5 21 r1.toNat a3 → ((0 ≤ r2 ∧ r2 < 6)) ∧ ∀ s9 : Mem, s9 = up2 s7 21 r2.toNat a2 → wp_X4_stay 20 1 s9 (fun s10 => ((0 ≤ a2 ∧ a2 < 6)) ∧ (inR (s10 22 a2.toNat)) ∧ (inR (s10 56 a2.toNat)) ∧ (s10 22 a2.toNat ≤ s10 56 a2.toNat → Q 0 s10) ∧ (¬ (s10 22 a2.toNat ≤ s10 56 a2.toNat) → ((0 ≤ a3 ∧ a3 < 6)) ∧ (inR (s10 22 a3.toNat)) ∧ (inR (s10 56 a3.toNat)) ∧ (s10 22 a3.toNat ≤ s10 56 a3.toNat → Q 0 s10) ∧ (¬ (s10 22 a3.toNat ≤ s10 56 a3.toNat) → Q 1 s10))))))))

def wp_X3_seekPairs (c1 : Nat) (sg : Mem) (Q : Mem → Prop) : Prop :=
  wp_X4_become 20 c1 sg (fun s1 => wp_X4_stay 20 1 s1 (fun s2 => ∀ s3 : Mem, s3 = upr s2 56 (fun j => if j < 6 then s2 22 j else s2 56 j) → ∀ s4 : Mem, s4 = up2 s3 52 8 0 → ∃ I41 : Nat → Int → Mem → Prop, (∀ (k41 : Nat) (y2_5 : Int) (s6 : Mem), I41 k41 y2_5 s6 → (inR y2_5) ∧ (inR (s6 1 2)) ∧ (s6 1 2 ≤ y2_5 → Q s6) ∧ (¬ (s6 1 2 ≤ y2_5) → ∀ x3_9 : Int, x3_9 = y2_5 + 1 → ∃ I56 : Nat → Int → Mem → Prop, (∀ (k56 : Nat) (y3_10 : Int) (s11 : Mem), I56 k56 y3_10 s11 → (inR y3_10) ∧ (inR (s11 1 2)) ∧ (s11 1 2 ≤ y3_10 → ∀ x2_14 : Int, x2_14 = y2_5 + 1 → ∃ k15, k15 < k41 ∧ I41 k15 x2_14 s11) ∧ (¬ (s11 1 2 ≤ y3_10) → wp_X3_bothWarmer c1 y2_5 y3_10 s11 (fun r16 s17 => (inR r16) ∧ ∃ X102 : Mem → Prop, (∀ (s19 : Mem), X102 s19 → ∀ x3_20 : Int, x3_20 = y3_10 + 1 → ∃ k21, k21 < k56 ∧ I56 k21 x3_20 s19) ∧ (r16 = 0 → X102 s17) ∧ (¬ (r16 = 0) → ((0 ≤ s17 52 8 ∧ s17 52 8 < 36)) ∧ ∀ s23 : Mem, s23 = up2 s17 57 (s17 52 8).toNat ((10 * y2_5) + y3_10) → ∀ s24 : Mem, s24 = up2 s23 52 8 ((s23 52 8) + 1) → X102 s24)))) ∧ ∃ k25, I56 k25 x3_9 s6)) ∧ ∃ k26, I41 k26 0 s4))

def wp_X4_layAll (c0 : Nat) (sg : Mem) (Q : Mem → Prop) : Prop :=
  ∃ I2 : Nat → Int → Mem → Prop, (∀ (k2 : Nat) (y1_1 : Int) (s2 : Mem), I2 k2 y1_1 s2 → (inR y1_1) ∧ (6 ≤ y1_1 → ∀ s4 : Mem, s4 = up2 s2 c0 3 0 → Q s4) ∧ (¬ (6 ≤ y1_1) → (inR (s2 1 2)) ∧ ∀ v6 : Int, v6 = (if s2 1 2 ≤ y1_1 then 0 else 1) → (inR v6) ∧ ∀ v8 : Int, v8 = (if v6 = 0 then (-1) else y1_1) → ((0 ≤ y1_1 ∧ y1_1 < 6)) ∧ ∀ s10 : Mem, s10 = up2 s2 (c0 + 1) y1_1.toNat v8 → ∀ v11 : Int, v11 = (if v6 = 0 then 0 else s10 3 y1_1.toNat) → ∀ s12 : Mem, s12 = up2 s10 (c0 + 2) y1_1.toNat v11 → ∀ x1_13 : Int, x1_13 = y1_1 + 1 → ∃ k14, k14 < k2 ∧ I2 k14 x1_13 s12)) ∧ ∃ k18, I2 k18 0 sg

def wp_X4_setCode (c0 : Nat) (a1 : Int) (a2 : Int) (sg : Mem) (Q : Mem → Prop) : Prop :=
  ∃ I6 : Nat → Int → Int → Mem → Prop, (∀ (k6 : Nat) (y4_1 : Int) (y6_2 : Int) (s3 : Mem), I6 k6 y4_1 y6_2 s3 → (inR y6_2) ∧ (y6_2 < 0 → ∀ s5 : Mem, s5 = up2 s3 c0 3 a2 → Q s5) ∧ (¬ (y6_2 < 0) → ((0 ≤ y6_2 ∧ y6_2 < 6)) ∧ ∀ s7 : Mem, s7 = up2 s3 (c0 + 1) y6_2.toNat ((yand y4_1 7) - 1) → ∀ s8 : Mem, s8 = up2 s7 (c0 + 2) y6_2.toNat (yand (yshr y4_1 3) 127) → ∀ x4_9 : Int, x4_9 = yshr y4_1 10 → ∀ x6_10 : Int, x6_10 = y6_2 + (-1) → ∃ k11, k11 < k6 ∧ I6 k11 x4_9 x6_10 s8)) ∧ ∃ k12, I6 k12 a1 5 sg

def wp_X4_up (c0 : Nat) (sg : Mem) (Q : Int → Prop) : Prop :=
  wp_X4_inBed c0 sg (fun r1 => Q (zand ((zshl 1 (sg 1 2)) - 1) (zxor r1 (-1))))

def wp_X4_lastEmpty (c0 : Nat) (sg : Mem) (Q : Int → Prop) : Prop :=
  ∀ x1_1 : Int, x1_1 = (sg 1 0) - 1 → ∃ I10 : Nat → Int → Prop, (∀ (k10 : Nat) (y1_2 : Int), I10 k10 y1_2 → (inR y1_2) ∧ (y1_2 < 0 → Q (-1)) ∧ (¬ (y1_2 < 0) → ((0 ≤ y1_2 ∧ y1_2 < 6)) ∧ (inR (sg (c0 + 1) y1_2.toNat)) ∧ (sg (c0 + 1) y1_2.toNat = (-1) → Q y1_2) ∧ (¬ (sg (c0 + 1) y1_2.toNat = (-1)) → ∀ x1_6 : Int, x1_6 = y1_2 + (-1) → ∃ k7, k7 < k10 ∧ I10 k7 x1_6))) ∧ ∃ k8, I10 k8 x1_1

def wp_X4_leave (c0 : Nat) (a1 : Int) (sg : Mem) (Q : Mem → Prop) : Prop :=
  wp_X0_hasPlace a1 sg (fun r1 => (inR r1) ∧ (r1 = 0 → Q sg) ∧ (¬ (r1 = 0) → ∀ x2_3 : Int, x2_3 = (sg 1 0) - 1 → ∃ I24 : Nat → Int → Mem → Prop, (∀ (k24 : Nat) (y3_4 : Int) (s5 : Mem), I24 k24 y3_4 s5 → (inR y3_4) ∧ (inR x2_3) ∧ (x2_3 ≤ y3_4 → ((0 ≤ x2_3 ∧ x2_3 < 6)) ∧ ∀ s9 : Mem, s9 = up2 s5 (c0 + 1) x2_3.toNat (-1) → Q s9) ∧ (¬ (x2_3 ≤ y3_4) → ((0 ≤ y3_4 + 1 ∧ y3_4 + 1 < 6)) ∧ ((0 ≤ y3_4 ∧ y3_4 < 6)) ∧ ∀ s12 : Mem, s12 = up2 s5 (c0 + 1) y3_4.toNat (s5 (c0 + 1) (y3_4 + 1).toNat) → ∀ x3_13 : Int, x3_13 = y3_4 + 1 → ∃ k14, k14 < k24 ∧ I24 k14 x3_13 s12)) ∧ ∃ k15, I24 k15 a1 sg))

def wp_X4_passByLaw (c0 : Nat) (sg : Mem) (Q : Mem → Prop) : Prop :=
  wp_X0_lawAt (sg c0 3) sg (fun r1 => wp_X4_passHour c0 r1 sg (fun s2 => Q s2))

def wp_X5_forget (sg : Mem) (Q : Mem → Prop) : Prop :=
  ∀ s1 : Mem, s1 = up2 sg 23 2 0 → Q s1

def wp_X5_remember (c1 : Nat) (sg : Mem) (Q : Mem → Prop) : Prop :=
  wp_X4_code c1 sg (fun r1 => ((0 ≤ sg 23 3 ∧ sg 23 3 < 30)) ∧ ∀ s3 : Mem, s3 = up2 sg 24 (sg 23 3).toNat r1 → ((0 ≤ s3 23 3 ∧ s3 23 3 < 30)) ∧ ∀ s5 : Mem, s5 = up2 s3 25 (s3 23 3).toNat (s3 c1 3) → (inR ((s5 23 3) + 1)) ∧ ∀ v7 : Int, v7 = (if 30 ≤ (s5 23 3) + 1 then 0 else (s5 23 3) + 1) → ∀ s8 : Mem, s8 = up2 s5 23 3 v7 → (inR ((s8 23 2) + 1)) ∧ ∀ s10 : Mem, s10 = up2 s8 23 2 (min ((s8 23 2) + 1) 30) → Q s10)

def wp_X5_bringBack (c2 : Nat) (a1 : Int) (sg : Mem) (Q : Mem → Prop) : Prop :=
  (inR a1) ∧ (a1 < 1 → Q sg) ∧ (¬ (a1 < 1) → (inR (sg 23 2)) ∧ (a1 ≤ sg 23 2 → (inR (sg 23 3)) ∧ ∀ v4 : Int, v4 = (if sg 23 3 < a1 then ((sg 23 3) - a1) + 30 else (sg 23 3) - a1) → ∀ s5 : Mem, s5 = up2 sg 23 3 v4 → ∀ s6 : Mem, s6 = up2 s5 23 2 ((s5 23 2) - a1) → ((0 ≤ s6 23 3 ∧ s6 23 3 < 30)) ∧ wp_X4_setCode c2 (s6 24 (s6 23 3).toNat) (s6 25 (s6 23 3).toNat) s6 (fun s8 => Q s8)) ∧ (¬ (a1 ≤ sg 23 2) → Q sg))

def wp_X6_add (a1 : Int) (sg : Mem) (Q : Int → Mem → Prop) : Prop :=
  (inR (sg 8 2)) ∧ (sg 8 2 < 200 → ((0 ≤ sg 8 2 ∧ sg 8 2 < 200)) ∧ ∀ s3 : Mem, s3 = up2 sg 9 (sg 8 2).toNat a1 → ∀ s4 : Mem, s4 = up2 s3 8 2 ((s3 8 2) + 1) → Q 1 s4) ∧ (¬ (sg 8 2 < 200) → Q 0 sg)

def wp_X6_skipBlanks (sg : Mem) (Q : Mem → Prop) : Prop :=
  ∃ I0 : Nat → Mem → Prop, (∀ (k0 : Nat) (s1 : Mem), I0 k0 s1 → (inR (s1 8 4)) ∧ (inR (s1 8 2)) ∧ (s1 8 2 ≤ s1 8 4 → Q s1) ∧ (¬ (s1 8 2 ≤ s1 8 4) → ((0 ≤ s1 8 4 ∧ s1 8 4 < 200)) ∧ (inR (s1 9 (s1 8 4).toNat)) ∧ (s1 9 (s1 8 4).toNat = 32 → ∀ s6 : Mem, s6 = up2 s1 8 4 ((s1 8 4) + 1) → ∃ k7, k7 < k0 ∧ I0 k7 s6) ∧ (¬ (s1 9 (s1 8 4).toNat = 32) → Q s1))) ∧ ∃ k8, I0 k8 sg

def wp_X6_blame (a1 : Int) (a2 : Int) (sg : Mem) (Q : Mem → Prop) : Prop :=
  (inR (sg 8 5)) ∧ (sg 8 5 = 0 → ∀ s2 : Mem, s2 = up2 sg 8 5 a1 → ∀ s3 : Mem, s3 = up2 s2 8 3 a2 → Q s3) ∧ (¬ (sg 8 5 = 0) → Q sg)

def wp_X6_readNumber (a1 : Int) (a2 : Int) (sg : Mem) (Q : Int → Mem → Prop) : Prop :=
  (inR (sg 8 5)) ∧ (sg 8 5 = 0 → wp_X6_skipBlanks sg (fun s2 => ∀ s3 : Mem, s3 = up2 s2 8 6 (s2 8 4) → ∃ I23 : Nat → Int → Mem → Prop, (∀ (k23 : Nat) (y3_4 : Int) (s5 : Mem), I23 k23 y3_4 s5 → (inR (s5 8 4)) ∧ (inR (s5 8 2)) ∧ ∃ X106 : Prop, (X106 → (inR (s5 8 6)) ∧ (s5 8 4 = s5 8 6 → wp_X6_blame 1 (s5 8 4) s5 (fun s9 => Q y3_4 s9)) ∧ (¬ (s5 8 4 = s5 8 6) → (inR ((s5 8 4) - (s5 8 6))) ∧ ∃ X152 : Prop, (X152 → wp_X6_blame 2 (s5 8 6) s5 (fun s11 => Q y3_4 s11)) ∧ (3 < (s5 8 4) - (s5 8 6) → X152) ∧ (¬ (3 < (s5 8 4) - (s5 8 6)) → (inR y3_4) ∧ (inR a1) ∧ (y3_4 < a1 → X152) ∧ (¬ (y3_4 < a1) → (inR a2) ∧ (y3_4 ≤ a2 → Q y3_4 s5) ∧ (¬ (y3_4 ≤ a2) → X152))))) ∧ (s5 8 2 ≤ s5 8 4 → X106) ∧ (¬ (s5 8 2 ≤ s5 8 4) → ((0 ≤ s5 8 4 ∧ s5 8 4 < 200)) ∧ (inR (s5 9 (s5 8 4).toNat)) ∧ (s5 9 (s5 8 4).toNat < 48 → X106) ∧ (¬ (s5 9 (s5 8 4).toNat < 48) → (57 < s5 9 (s5 8 4).toNat → X106) ∧ (¬ (57 < s5 9 (s5 8 4).toNat) → (inR ((s5 8 4) - (s5 8 6))) ∧ ∀ y3_18 : Int, y3_18 = (if 3 ≤ (s5 8 4) - (s5 8 6) then y3_4 else ((y3_4 * 10) + (s5 9 (s5 8 4).toNat)) - 48) → ∀ s19 : Mem, s19 = up2 s5 8 4 ((s5 8 4) + 1) → ∃ k20, k20 < k23 ∧ I23 k20 y3_18 s19)))) ∧ ∃ k22, I23 k22 0 s3)) ∧ (¬ (sg 8 5 = 0) → Q 0 sg)

def wp_X6_nextIs (a1 : Int) (sg : Mem) (Q : Int → Mem → Prop) : Prop :=
  (inR (sg 8 5)) ∧ (sg 8 5 = 0 → wp_X6_skipBlanks sg (fun s2 => (inR (s2 8 4)) ∧ (inR (s2 8 2)) ∧ (s2 8 2 ≤ s2 8 4 → Q 0 s2) ∧ (¬ (s2 8 2 ≤ s2 8 4) → ((0 ≤ s2 8 4 ∧ s2 8 4 < 200)) ∧ (inR (s2 9 (s2 8 4).toNat)) ∧ (inR a1) ∧ (s2 9 (s2 8 4).toNat = a1 → Q 1 s2) ∧ (¬ (s2 9 (s2 8 4).toNat = a1) → Q 0 s2)))) ∧ (¬ (sg 8 5 = 0) → Q 0 sg)

def wp_X6_readEnd (sg : Mem) (Q : Mem → Prop) : Prop :=
  wp_X6_nextIs 59 sg (fun r1 s2 => (inR r1) ∧ (r1 = 0 → wp_X6_blame 1 (s2 8 4) s2 (fun s4 => Q s4)) ∧ (¬ (r1 = 0) → ∀ s5 : Mem, s5 = up2 s2 8 4 ((s2 8 4) + 1) → Q s5))

def wp_X6_readPlaces (sg : Mem) (Q : Mem → Prop) : Prop :=
  ∀ s1 : Mem, s1 = up2 sg 8 4 ((sg 8 4) + 1) → wp_X6_readNumber 2 6 s1 (fun r2 s3 => wp_X6_readNumber 0 1 s3 (fun r4 s5 => wp_X6_readEnd s5 (fun s6 => (inR (s6 8 5)) ∧ (s6 8 5 = 0 → ∀ s8 : Mem, s8 = up2 s6 10 0 r2 → (inR r4) ∧ ∀ v10 : Int, v10 = (if r4 = 1 then 1 else 0) → ((v10 = 0 ∨ v10 = 1)) ∧ ∀ s12 : Mem, s12 = up2 s8 10 1 v10 → Q s12) ∧ (¬ (s6 8 5 = 0) → Q s6))))

def wp_X6_readHeat (sg : Mem) (Q : Mem → Prop) : Prop :=
  ∀ s1 : Mem, s1 = up2 sg 8 4 ((sg 8 4) + 1) → wp_X6_readNumber 0 ((s1 10 0) - 1) s1 (fun r2 s3 => (inR (s3 8 5)) ∧ ∃ X53 : Mem → Prop, (∀ (s5 : Mem), X53 s5 → wp_X6_readNumber 0 9 s5 (fun r6 s7 => wp_X6_readEnd s7 (fun s8 => (inR (s8 8 5)) ∧ (s8 8 5 = 0 → ((0 ≤ r2 ∧ r2 < 6)) ∧ ∀ s11 : Mem, s11 = up2 s8 11 r2.toNat r6 → ∀ s12 : Mem, s12 = up2 s11 8 7 (zor (s11 8 7) (zshl 1 r2)) → Q s12) ∧ (¬ (s8 8 5 = 0) → Q s8)))) ∧ (s3 8 5 = 0 → (inR (zand (zshr (s3 8 7) r2) 1)) ∧ (zand (zshr (s3 8 7) r2) 1 = 1 → wp_X6_blame 4 (s3 8 6) s3 (fun s14 => X53 s14)) ∧ (¬ (zand (zshr (s3 8 7) r2) 1 = 1) → X53 s3)) ∧ (¬ (s3 8 5 = 0) → X53 s3))

def wp_X6_readSleeper (sg : Mem) (Q : Mem → Prop) : Prop :=
  (inR (sg 10 2)) ∧ (inR (sg 10 0)) ∧ (sg 10 2 < sg 10 0 → ∀ s3 : Mem, s3 = up2 sg 8 4 ((sg 8 4) + 1) → wp_X6_readNumber 1 99 s3 (fun r4 s5 => wp_X6_readNumber 0 9 s5 (fun r6 s7 => wp_X6_readNumber 0 20 s7 (fun r8 s9 => wp_X6_readNumber 0 98 s9 (fun r10 s11 => (inR (s11 8 5)) ∧ ∃ X92 : Mem → Prop, (∀ (s13 : Mem), X92 s13 → wp_X6_readEnd s13 (fun s14 => (inR (s14 8 5)) ∧ (s14 8 5 = 0 → ∀ x5_16 : Int, x5_16 = s14 10 2 → ((0 ≤ x5_16 ∧ x5_16 < 6)) ∧ ∀ s18 : Mem, s18 = up2 s14 12 x5_16.toNat r4 → ∀ s19 : Mem, s19 = up2 s18 13 x5_16.toNat r6 → ∀ s20 : Mem, s20 = up2 s19 14 x5_16.toNat r8 → ∀ s21 : Mem, s21 = up2 s20 15 x5_16.toNat r10 → ∀ s22 : Mem, s22 = up2 s21 10 2 (x5_16 + 1) → Q s22) ∧ (¬ (s14 8 5 = 0) → Q s14))) ∧ (s11 8 5 = 0 → (inR r10) ∧ (inR r4) ∧ (r10 < r4 → X92 s11) ∧ (¬ (r10 < r4) → wp_X6_blame 4 (s11 8 6) s11 (fun s25 => X92 s25))) ∧ (¬ (s11 8 5 = 0) → X92 s11)))))) ∧ (¬ (sg 10 2 < sg 10 0) → wp_X6_blame 3 (sg 8 4) sg (fun s26 => Q s26))

def wp_X6_readLaw (sg : Mem) (Q : Mem → Prop) : Prop :=
  (inR (sg 8 8)) ∧ (sg 8 8 = 0 → ∀ s2 : Mem, s2 = up2 sg 8 4 ((sg 8 4) + 1) → ∀ s3 : Mem, s3 = up2 s2 8 8 1 → wp_X6_readNumber 0 3 s3 (fun r4 s5 => ∀ s6 : Mem, s6 = up2 s5 16 0 r4 → ∃ I51 : Nat → Int → Int → Mem → Prop, (∀ (k51 : Nat) (y1_7 : Int) (y2_8 : Int) (s9 : Mem), I51 k51 y1_7 y2_8 s9 → (inR y2_8) ∧ ∃ X100 : Mem → Prop, (∀ (s11 : Mem), X100 s11 → ∀ s12 : Mem, s12 = up2 s11 10 3 y1_7 → wp_X6_readEnd s12 (fun s13 => Q s13)) ∧ (8 ≤ y2_8 → X100 s9) ∧ (¬ (8 ≤ y2_8) → wp_X6_nextIs 44 s9 (fun r14 s15 => (inR r14) ∧ (r14 = 0 → X100 s15) ∧ (¬ (r14 = 0) → ∀ s17 : Mem, s17 = up2 s15 8 4 ((s15 8 4) + 1) → wp_X6_readNumber 0 3 s17 (fun r18 s19 => ((0 ≤ y2_8 ∧ y2_8 < 8)) ∧ ∀ s21 : Mem, s21 = up2 s19 16 y2_8.toNat r18 → ∀ x1_22 : Int, x1_22 = y1_7 + 1 → ∀ x2_23 : Int, x2_23 = y2_8 + 1 → ∃ k24, k24 < k51 ∧ I51 k24 x1_22 x2_23 s21))))) ∧ ∃ k25, I51 k25 1 1 s6)) ∧ (¬ (sg 8 8 = 0) → wp_X6_blame 3 (sg 8 4) sg (fun s26 => Q s26))

def wp_X6_readClause (sg : Mem) (Q : Mem → Prop) : Prop :=
  ((0 ≤ sg 8 4 ∧ sg 8 4 < 200)) ∧ ∀ x1_2 : Int, x1_2 = sg 9 (sg 8 4).toNat → (inR (sg 10 0)) ∧ (sg 10 0 = 0 → (inR x1_2) ∧ (x1_2 = 98 → wp_X6_readPlaces sg (fun s5 => Q s5)) ∧ (¬ (x1_2 = 98) → wp_X6_blame 1 (sg 8 4) sg (fun s6 => Q s6))) ∧ (¬ (sg 10 0 = 0) → (inR x1_2) ∧ (x1_2 = 98 → wp_X6_blame 3 (sg 8 4) sg (fun s8 => Q s8)) ∧ (x1_2 = 104 → wp_X6_readHeat sg (fun s9 => Q s9)) ∧ (x1_2 = 114 → wp_X6_readLaw sg (fun s10 => Q s10)) ∧ (x1_2 = 115 → wp_X6_readSleeper sg (fun s11 => Q s11)) ∧ ((x1_2 ≠ 98 ∧ x1_2 ≠ 104 ∧ x1_2 ≠ 114 ∧ x1_2 ≠ 115) → wp_X6_blame 1 (sg 8 4) sg (fun s12 => Q s12)))

def wp_X6_readAll (sg : Mem) (Q : Int → Mem → Prop) : Prop :=
  wp_X0_empty sg (fun s1 => ∀ s2 : Mem, s2 = up2 s1 8 4 0 → ∀ s3 : Mem, s3 = up2 s2 8 5 0 → ∀ s4 : Mem, s4 = up2 s3 8 3 (-1) → ∀ s5 : Mem, s5 = up2 s4 8 7 0 → ∀ s6 : Mem, s6 = up2 s5 8 8 0 → wp_X6_skipBlanks s6 (fun s7 => ∃ I38 : Nat → Int → Mem → Prop, (∀ (k38 : Nat) (y1_8 : Int) (s9 : Mem), I38 k38 y1_8 s9 → (inR y1_8) ∧ ∃ X77 : Prop, (X77 → ∀ s11 : Mem, s11 = up2 s9 8 2 0 → Q (s11 8 5) s11) ∧ (200 ≤ y1_8 → X77) ∧ (¬ (200 ≤ y1_8) → (inR (s9 8 5)) ∧ (s9 8 5 = 0 → (inR (s9 8 4)) ∧ (inR (s9 8 2)) ∧ (s9 8 2 ≤ s9 8 4 → X77) ∧ (¬ (s9 8 2 ≤ s9 8 4) → wp_X6_readClause s9 (fun s15 => wp_X6_skipBlanks s15 (fun s16 => ∀ x1_17 : Int, x1_17 = y1_8 + 1 → ∃ k18, k18 < k38 ∧ I38 k18 x1_17 s16)))) ∧ (¬ (s9 8 5 = 0) → X77))) ∧ ∃ k19, I38 k19 0 s7))

def wp_X11_wordOf (a1 : Int) (a2 : Int) (a3 : Int) (sg : Mem) (Q : Int → Prop) : Prop :=
  Q (zand (zshr a1 (2 * ((a2 - 1) - a3))) 3)

def wp_X7_nobodyWakes (c1 : Nat) (a2 : Int) (a3 : Int) (a4 : Int) (sg : Mem) (Q : Int → Mem → Prop) : Prop :=
  wp_X4_become 20 c1 sg (fun s1 => ∃ I14 : Nat → Int → Int → Mem → Prop, (∀ (k14 : Nat) (y5_2 : Int) (y6_3 : Int) (s4 : Mem), I14 k14 y5_2 y6_3 s4 → (inR y6_3) ∧ (inR a2) ∧ (a2 ≤ y6_3 → Q 1 s4) ∧ (¬ (a2 ≤ y6_3) → wp_X11_wordOf a3 a4 y5_2 s4 (fun r7 => wp_X4_passHour 20 r7 s4 (fun s8 => wp_X4_awake 20 s8 (fun r9 => (inR r9) ∧ (r9 = 0 → (inR (y5_2 + 1)) ∧ (inR a4) ∧ ∀ v13 : Int, v13 = (if a4 ≤ y5_2 + 1 then 0 else y5_2 + 1) → ∀ x6_14 : Int, x6_14 = y6_3 + 1 → ∃ k15, k15 < k14 ∧ I14 k15 v13 x6_14 s8) ∧ (¬ (r9 = 0) → Q 0 s8)))))) ∧ ∃ k17, I14 k17 0 0 s1)

def wp_X7_seek (c1 : Nat) (a2 : Int) (sg : Mem) (Q : Mem → Prop) : Prop :=
  ∃ I2 : Nat → Int → Mem → Prop, (∀ (k2 : Nat) (y3_1 : Int) (s2 : Mem), I2 k2 y3_1 s2 → (inR y3_1) ∧ (4 < y3_1 → ∀ s4 : Mem, s4 = up2 s2 51 1 (-1) → ∀ s5 : Mem, s5 = up2 s4 51 2 0 → Q s5) ∧ (¬ (4 < y3_1) → ∃ I10 : Nat → Int → Mem → Prop, (∀ (k10 : Nat) (y4_6 : Int) (s7 : Mem), I10 k10 y4_6 s7 → (inR y4_6) ∧ (inR (zshl 1 (2 * y3_1))) ∧ (zshl 1 (2 * y3_1) ≤ y4_6 → ∀ x3_10 : Int, x3_10 = y3_1 + 1 → ∃ k11, k11 < k2 ∧ I2 k11 x3_10 s7) ∧ (¬ (zshl 1 (2 * y3_1) ≤ y4_6) → wp_X7_nobodyWakes c1 a2 y4_6 y3_1 s7 (fun r12 s13 => (inR r12) ∧ (r12 = 0 → ∀ x4_15 : Int, x4_15 = y4_6 + 1 → ∃ k16, k16 < k10 ∧ I10 k16 x4_15 s13) ∧ (¬ (r12 = 0) → ∀ s17 : Mem, s17 = up2 s13 51 1 y3_1 → ∀ s18 : Mem, s18 = up2 s17 51 2 y4_6 → Q s18)))) ∧ ∃ k19, I10 k19 0 s2)) ∧ ∃ k20, I2 k20 1 sg

def wp_X8_likeBefore (a1 : Int) (sg : Mem) (Q : Int → Prop) : Prop :=
  ∃ I2 : Nat → Int → Prop, (∀ (k2 : Nat) (y2_1 : Int), I2 k2 y2_1 → (inR y2_1) ∧ (inR a1) ∧ (a1 ≤ y2_1 → Q (-1)) ∧ (¬ (a1 ≤ y2_1) → ((0 ≤ y2_1 ∧ y2_1 < 201)) ∧ ((0 ≤ a1 ∧ a1 < 201)) ∧ (inL (sg 59 y2_1.toNat)) ∧ (inL (sg 59 a1.toNat)) ∧ (sg 59 y2_1.toNat = sg 59 a1.toNat → Q y2_1) ∧ (¬ (sg 59 y2_1.toNat = sg 59 a1.toNat) → ∀ x2_8 : Int, x2_8 = y2_1 + 1 → ∃ k9, k9 < k2 ∧ I2 k9 x2_8))) ∧ ∃ k10, I2 k10 0

def wp_X8_seek (c1 : Nat) (sg : Mem) (Q : Mem → Prop) : Prop :=
  ∀ s1 : Mem, s1 = up2 sg 58 2 (-1) → ∀ s2 : Mem, s2 = up2 s1 58 3 0 → wp_X4_become 20 c1 s2 (fun s3 => wp_X4_code 20 s3 (fun r4 => ∀ s5 : Mem, s5 = up2 s3 59 0 r4 → ∃ I33 : Nat → Int → Mem → Prop, (∀ (k33 : Nat) (y2_6 : Int) (s7 : Mem), I33 k33 y2_6 s7 → (inR y2_6) ∧ (200 < y2_6 → Q s7) ∧ (¬ (200 < y2_6) → ∃ I42 : Nat → Int → Mem → Prop, (∀ (k42 : Nat) (y3_9 : Int) (s10 : Mem), I42 k42 y3_9 s10 → (inR y3_9) ∧ (inR (s10 1 3)) ∧ (s10 1 3 ≤ y3_9 → wp_X4_code 20 s10 (fun r13 => ((0 ≤ y2_6 ∧ y2_6 < 201)) ∧ ∀ s15 : Mem, s15 = up2 s10 59 y2_6.toNat r13 → wp_X8_likeBefore y2_6 s15 (fun r16 => (inR r16) ∧ (r16 = (-1) → ∀ x2_18 : Int, x2_18 = y2_6 + 1 → ∃ k19, k19 < k33 ∧ I33 k19 x2_18 s15) ∧ (¬ (r16 = (-1)) → ∀ s20 : Mem, s20 = up2 s15 58 3 r16 → ∀ s21 : Mem, s21 = up2 s20 58 2 (y2_6 - r16) → Q s21)))) ∧ (¬ (s10 1 3 ≤ y3_9) → wp_X4_passByLaw 20 s10 (fun s22 => ∀ x3_23 : Int, x3_23 = y3_9 + 1 → ∃ k24, k24 < k42 ∧ I42 k24 x3_23 s22))) ∧ ∃ k25, I42 k25 0 s7)) ∧ ∃ k26, I33 k26 1 s5))

def wp_X8_hoursInWarmest (c1 : Nat) (a2 : Int) (sg : Mem) (Q : Int → Mem → Prop) : Prop :=
  wp_X0_warmestPlace sg (fun r1 => ∀ x4_2 : Int, x4_2 = sg 1 3 → wp_X4_become 20 c1 sg (fun s3 => ∃ I28 : Nat → Int → Mem → Prop, (∀ (k28 : Nat) (y5_4 : Int) (s5 : Mem), I28 k28 y5_4 s5 → (inR y5_4) ∧ (inR ((s5 58 3) * x4_2)) ∧ ((s5 58 3) * x4_2 ≤ y5_4 → ∃ I59 : Nat → Int → Int → Mem → Prop, (∀ (k59 : Nat) (y5_8 : Int) (y6_9 : Int) (s10 : Mem), I59 k59 y5_8 y6_9 s10 → (inR y6_9) ∧ (inR ((s10 58 2) * x4_2)) ∧ ((s10 58 2) * x4_2 ≤ y6_9 → Q y5_8 s10) ∧ (¬ ((s10 58 2) * x4_2 ≤ y6_9) → wp_X4_passByLaw 20 s10 (fun s13 => ((0 ≤ r1 ∧ r1 < 6)) ∧ (inR (s13 21 r1.toNat)) ∧ (inR a2) ∧ ∃ X94 : Int → Prop, (∀ (y5_17 : Int), X94 y5_17 → ∀ x6_18 : Int, x6_18 = y6_9 + 1 → ∃ k19, k19 < k59 ∧ I59 k19 y5_17 x6_18 s13) ∧ (s13 21 r1.toNat = a2 → ∀ x5_20 : Int, x5_20 = y5_8 + 1 → X94 x5_20) ∧ (¬ (s13 21 r1.toNat = a2) → X94 y5_8)))) ∧ ∃ k21, I59 k21 0 0 s5) ∧ (¬ ((s5 58 3) * x4_2 ≤ y5_4) → wp_X4_passByLaw 20 s5 (fun s22 => ∀ x5_23 : Int, x5_23 = y5_4 + 1 → ∃ k24, k24 < k28 ∧ I28 k24 x5_23 s22))) ∧ ∃ k25, I28 k25 0 s3))

def wp_X9_empty (sg : Mem) (Q : Mem → Prop) : Prop :=
  ∀ s1 : Mem, s1 = up2 sg 60 2 0 → Q s1

def wp_X9_add (a1 : Int) (a2 : Int) (sg : Mem) (Q : Int → Mem → Prop) : Prop :=
  (inR (sg 60 2)) ∧ (sg 60 2 < 6 → ((0 ≤ sg 60 2 ∧ sg 60 2 < 6)) ∧ ∀ s3 : Mem, s3 = up2 sg 61 (sg 60 2).toNat a1 → ((0 ≤ s3 60 2 ∧ s3 60 2 < 6)) ∧ ∀ s5 : Mem, s5 = up2 s3 62 (s3 60 2).toNat a2 → ∀ s6 : Mem, s6 = up2 s5 60 2 ((s5 60 2) + 1) → Q 1 s6) ∧ (¬ (sg 60 2 < 6) → Q 0 sg)

def wp_X9_fits (c1 : Nat) (a2 : Int) (a3 : Int) (sg : Mem) (Q : Int → Prop) : Prop :=
  ∃ I3 : Nat → Int → Prop, (∀ (k3 : Nat) (y4_1 : Int), I3 k3 y4_1 → (inR y4_1) ∧ (inR (sg 60 2)) ∧ (sg 60 2 ≤ y4_1 → Q 1) ∧ (¬ (sg 60 2 ≤ y4_1) → ((0 ≤ y4_1 ∧ y4_1 < 6)) ∧ wp_X4_placeOf c1 (sg 61 y4_1.toNat) sg (fun r5 => (inR r5) ∧ (r5 = (-1) → Q 0) ∧ (¬ (r5 = (-1)) → ∃ I36 : Nat → Int → Int → Prop, (∀ (k36 : Nat) (y5_7 : Int) (y6_8 : Int), I36 k36 y5_7 y6_8 → (inR y6_8) ∧ (inR a3) ∧ (a3 ≤ y6_8 → (inR y5_7) ∧ (inR (sg 62 y4_1.toNat)) ∧ (y5_7 = sg 62 y4_1.toNat → ∀ x4_13 : Int, x4_13 = y4_1 + 1 → ∃ k14, k14 < k3 ∧ I3 k14 x4_13) ∧ (¬ (y5_7 = sg 62 y4_1.toNat) → Q 0)) ∧ (¬ (a3 ≤ y6_8) → wp_X11_wordOf a2 a3 y6_8 sg (fun r15 => wp_X0_turned y5_7 r15 sg (fun r16 => ∀ x6_17 : Int, x6_17 = y6_8 + 1 → ∃ k18, k18 < k36 ∧ I36 k18 r16 x6_17)))) ∧ ∃ k19, I36 k19 r5 0)))) ∧ ∃ k20, I3 k20 0

def wp_X9_wordsIn (a1 : Int) (a2 : Int) (sg : Mem) (Q : Int → Prop) : Prop :=
  ∃ I4 : Nat → Int → Int → Prop, (∀ (k4 : Nat) (y2_1 : Int) (y3_2 : Int), I4 k4 y2_1 y3_2 → (inR y3_2) ∧ (inR a2) ∧ (a2 ≤ y3_2 → Q y2_1) ∧ (¬ (a2 ≤ y3_2) → wp_X11_wordOf a1 a2 y3_2 sg (fun r5 => ∀ x2_6 : Int, x2_6 = zor y2_1 (zshl 1 r5) → ∀ x3_7 : Int, x3_7 = y3_2 + 1 → ∃ k8, k8 < k4 ∧ I4 k8 x2_6 x3_7))) ∧ ∃ k9, I4 k9 0 0

def wp_X9_seek (c1 : Nat) (a2 : Int) (sg : Mem) (Q : Mem → Prop) : Prop :=
  ∀ s1 : Mem, s1 = up2 sg 60 3 0 → ∀ s2 : Mem, s2 = up2 s1 60 4 0 → ∀ s3 : Mem, s3 = up2 s2 60 5 0 → ∃ I17 : Nat → Int → Mem → Prop, (∀ (k17 : Nat) (y3_4 : Int) (s5 : Mem), I17 k17 y3_4 s5 → (inR y3_4) ∧ (inR (zshl 1 (2 * a2))) ∧ (zshl 1 (2 * a2) ≤ y3_4 → Q s5) ∧ (¬ (zshl 1 (2 * a2) ≤ y3_4) → wp_X9_fits c1 y3_4 a2 s5 (fun r8 => (inR r8) ∧ ∃ X95 : Mem → Prop, (∀ (s10 : Mem), X95 s10 → ∀ x3_11 : Int, x3_11 = y3_4 + 1 → ∃ k12, k12 < k17 ∧ I17 k12 x3_11 s10) ∧ (r8 = 0 → X95 s5) ∧ (¬ (r8 = 0) → wp_X9_wordsIn y3_4 a2 s5 (fun r13 => (inR (s5 60 3)) ∧ ∀ v15 : Int, v15 = (if s5 60 3 = 0 then y3_4 else s5 60 4) → ∀ s16 : Mem, s16 = up2 s5 60 4 v15 → (inR (s16 60 3)) ∧ ∀ v18 : Int, v18 = (if s16 60 3 = 0 then r13 else zand (s16 60 5) r13) → ∀ s19 : Mem, s19 = up2 s16 60 5 v18 → ∀ s20 : Mem, s20 = up2 s19 60 3 ((s19 60 3) + 1) → X95 s20))))) ∧ ∃ k23, I17 k23 0 s3

def wp_X10_compare (a1 : Int) (a2 : Int) (sg : Mem) (Q : Mem → Prop) : Prop :=
  ((0 ≤ a1 ∧ a1 < 6)) ∧ wp_X4_coldest (33 + 3 * a1.toNat) sg (fun r2 => (inR r2) ∧ (inR (sg 29 3)) ∧ ∃ X34 : Prop, (X34 → ∀ s5 : Mem, s5 = up2 sg 29 3 r2 → ∀ s6 : Mem, s6 = up2 s5 29 4 a2 → ∀ s7 : Mem, s7 = upr s6 32 (fun j => if j < 5 then s6 31 j else s6 32 j) → Q s7) ∧ (sg 29 3 < r2 → X34) ∧ (¬ (sg 29 3 < r2) → (r2 = sg 29 3 → (inR a2) ∧ (inR (sg 29 4)) ∧ (sg 29 4 ≤ a2 → Q sg) ∧ (¬ (sg 29 4 ≤ a2) → X34)) ∧ (¬ (r2 = sg 29 3) → Q sg)))

def wp_X10_tryWords : Nat → Int → Int → Int → Mem → (Mem → Prop) → Prop
  | 0, _, _, _, _, _ => False
  | d + 1, a2, a3, a4, sg, Q =>
    (inR a2) ∧ (inR a3) ∧ ∃ X10 : Prop, (X10 → wp_X10_compare a2 a4 sg (fun s3 => Q s3)) ∧ (a3 ≤ a2 → X10) ∧ (¬ (a3 ≤ a2) → (a2 < 5 → ((0 ≤ a2 + 1 ∧ a2 + 1 < 6)) ∧ ∃ I30 : Nat → Int → Mem → Prop, (∀ (k30 : Nat) (y5_5 : Int) (s6 : Mem), I30 k30 y5_5 s6 → (inR y5_5) ∧ (4 ≤ y5_5 → Q s6) ∧ (¬ (4 ≤ y5_5) → ((0 ≤ a2 ∧ a2 < 6)) ∧ wp_X4_become (33 + 3 * (a2 + 1).toNat) (33 + 3 * a2.toNat) s6 (fun s9 => wp_X4_passHour (33 + 3 * (a2 + 1).toNat) y5_5 s9 (fun s10 => wp_X4_awake (33 + 3 * (a2 + 1).toNat) s10 (fun r11 => (inR r11) ∧ ∃ X90 : Mem → Prop, (∀ (s13 : Mem), X90 s13 → ∀ x5_14 : Int, x5_14 = y5_5 + 1 → ∃ k15, k15 < k30 ∧ I30 k15 x5_14 s13) ∧ (r11 = 0 → ((0 ≤ a2 ∧ a2 < 5)) ∧ ∀ s17 : Mem, s17 = up2 s10 31 a2.toNat y5_5 → ∀ v18 : Int, v18 = (if y5_5 = 0 then a4 else a4 + 1) → wp_X10_tryWords d (a2 + 1) a3 v18 s17 (fun s19 => X90 s19)) ∧ (¬ (r11 = 0) → X90 s10)))))) ∧ ∃ k21, I30 k21 0 sg) ∧ (¬ (a2 < 5) → X10))

def wp_X10_seek (c1 : Nat) (a2 : Int) (sg : Mem) (Q : Mem → Prop) : Prop :=
  ∀ s1 : Mem, s1 = up2 sg 29 3 (-1) → ∀ s2 : Mem, s2 = up2 s1 29 4 0 → wp_X4_become (33 + 3 * 0) c1 s2 (fun s3 => ∃ d4, d4 ≤ 8 ∧ wp_X10_tryWords d4 0 a2 0 s3 (fun s5 => Q s5))

def wp_X11_feed (a1 : Int) (sg : Mem) (Q : Int → Mem → Prop) : Prop :=
  (inR a1) ∧ (a1 < 0 → Q (-1000000002) sg) ∧ (¬ (a1 < 0) → (a1 ≤ 255 → wp_X6_add a1 sg (fun r2 s3 => (inR r2) ∧ (r2 = 0 → Q (-1000000004) s3) ∧ (¬ (r2 = 0) → Q (s3 8 2) s3))) ∧ (¬ (a1 ≤ 255) → Q (-1000000002) sg))

def wp_X11_bed (sg : Mem) (Q : Int → Mem → Prop) : Prop :=
  wp_X6_readAll sg (fun r1 s2 => (inR r1) ∧ (r1 = 0 → wp_X0_become s2 (fun s4 => wp_X4_layAll 17 s4 (fun s5 => wp_X9_empty s5 (fun s6 => wp_X1_empty s6 (fun s7 => wp_X5_forget s7 (fun s8 => ∃ I61 : Nat → Int → Mem → Prop, (∀ (k61 : Nat) (y2_9 : Int) (s10 : Mem), I61 k61 y2_9 s10 → (inR y2_9) ∧ (2 ≤ y2_9 → Q (s10 1 2) s10) ∧ (¬ (2 ≤ y2_9) → ((0 ≤ y2_9 ∧ y2_9 < 2)) ∧ ∀ s13 : Mem, s13 = up2 s10 (27 + y2_9.toNat) 0 0 → ∀ x2_14 : Int, x2_14 = y2_9 + 1 → ∃ k15, k15 < k61 ∧ I61 k15 x2_14 s13)) ∧ ∃ k16, I61 k16 0 s8)))))) ∧ (¬ (r1 = 0) → Q ((-10) - r1) s2))

def wp_X11_fault (sg : Mem) (Q : Int → Prop) : Prop :=
  Q (sg 8 3)

def wp_X11_told (a1 : Int) (sg : Mem) (Q : Int → Prop) : Prop :=
  (inR a1) ∧ (a1 = 0 → Q (sg 1 0)) ∧ (a1 = 1 → (inR (sg 1 1)) ∧ (sg 1 1 = 0 → Q 0) ∧ (¬ (sg 1 1 = 0) → Q 1)) ∧ (a1 = 2 → Q (sg 1 2)) ∧ (a1 = 3 → Q (sg 1 3)) ∧ (a1 = 4 → Q (sg 8 2)) ∧ (a1 = 5 → Q (sg 17 3)) ∧ (a1 = 6 → wp_X4_up 17 sg (fun r3 => Q r3)) ∧ (a1 = 7 → wp_X4_awake 17 sg (fun r4 => Q r4)) ∧ (a1 = 8 → wp_X4_coldest 17 sg (fun r5 => Q r5)) ∧ (a1 = 9 → Q (sg 60 2)) ∧ (a1 = 10 → Q (sg 63 1)) ∧ (a1 = 11 → Q (sg 23 2)) ∧ ((a1 < 0 ∨ 11 < a1) → Q (-1000000002))

def wp_X11_place (a1 : Int) (a2 : Int) (sg : Mem) (Q : Int → Prop) : Prop :=
  wp_X0_hasPlace a1 sg (fun r1 => (inR r1) ∧ (r1 = 0 → Q (-1000000001)) ∧ (¬ (r1 = 0) → (inR a2) ∧ (a2 = 0 → ((0 ≤ a1 ∧ a1 < 6)) ∧ Q (sg 2 a1.toNat)) ∧ (a2 = 1 → ((0 ≤ a1 ∧ a1 < 6)) ∧ Q (sg 18 a1.toNat)) ∧ ((a2 ≠ 0 ∧ a2 ≠ 1) → Q (-1000000002))))

def wp_X11_sleeper (a1 : Int) (a2 : Int) (sg : Mem) (Q : Int → Prop) : Prop :=
  wp_X0_hasSleeper a1 sg (fun r1 => (inR r1) ∧ (r1 = 0 → Q (-1000000001)) ∧ (¬ (r1 = 0) → (inR a2) ∧ (a2 = 0 → ((0 ≤ a1 ∧ a1 < 6)) ∧ Q (sg 19 a1.toNat)) ∧ (a2 = 1 → ((0 ≤ a1 ∧ a1 < 6)) ∧ Q (sg 4 a1.toNat)) ∧ (a2 = 2 → ((0 ≤ a1 ∧ a1 < 6)) ∧ Q (sg 5 a1.toNat)) ∧ (a2 = 3 → ((0 ≤ a1 ∧ a1 < 6)) ∧ Q (sg 6 a1.toNat)) ∧ (a2 = 4 → wp_X4_placeOf 17 a1 sg (fun r8 => Q r8)) ∧ ((a2 < 0 ∨ 4 < a2) → Q (-1000000002))))

def wp_X11_rule (a1 : Int) (sg : Mem) (Q : Int → Prop) : Prop :=
  (inR a1) ∧ (a1 < 0 → Q (-1)) ∧ (¬ (a1 < 0) → (inR (sg 1 3)) ∧ (a1 < sg 1 3 → ((0 ≤ a1 ∧ a1 < 8)) ∧ Q (sg 7 a1.toNat)) ∧ (¬ (a1 < sg 1 3) → Q (-1)))

def wp_X11_isWord (a1 : Int) (sg : Mem) (Q : Int → Prop) : Prop :=
  (inR a1) ∧ (a1 < 0 → Q 0) ∧ (¬ (a1 < 0) → (4 ≤ a1 → Q 0) ∧ (¬ (4 ≤ a1) → Q 1))

def wp_X11_hoursRefused (sg : Mem) (Q : Int → Prop) : Prop :=
  (inR (sg 1 0)) ∧ (sg 1 0 = 0 → Q (-1000000003)) ∧ (¬ (sg 1 0 = 0) → (inR (sg 17 3)) ∧ (sg 17 3 ≤ 90000 → Q 0) ∧ (¬ (sg 17 3 ≤ 90000) → Q (-1000000004)))

def wp_X11_goOn (a1 : Int) (sg : Mem) (Q : Mem → Prop) : Prop :=
  wp_X5_remember 17 sg (fun s1 => wp_X4_passHour 17 a1 s1 (fun s2 => Q s2))

def wp_X11_hour (a1 : Int) (sg : Mem) (Q : Int → Mem → Prop) : Prop :=
  wp_X11_isWord a1 sg (fun r1 => (inR r1) ∧ (r1 = 0 → Q (-1000000001) sg) ∧ (¬ (r1 = 0) → wp_X11_hoursRefused sg (fun r3 => (inR r3) ∧ (r3 = 0 → wp_X11_goOn a1 sg (fun s5 => wp_X4_coldest 17 s5 (fun r6 => Q r6 s5))) ∧ (¬ (r3 = 0) → Q r3 sg))))

def wp_X11_night (a1 : Int) (sg : Mem) (Q : Int → Mem → Prop) : Prop :=
  (inR a1) ∧ (a1 < 1 → Q (-1000000002) sg) ∧ (¬ (a1 < 1) → (a1 ≤ 99 → wp_X11_hoursRefused sg (fun r2 => (inR r2) ∧ (r2 = 0 → ∃ I27 : Nat → Int → Mem → Prop, (∀ (k27 : Nat) (y3_4 : Int) (s5 : Mem), I27 k27 y3_4 s5 → (inR y3_4) ∧ (a1 ≤ y3_4 → wp_X4_coldest 17 s5 (fun r7 => Q r7 s5)) ∧ (¬ (a1 ≤ y3_4) → wp_X0_lawAt (s5 17 3) s5 (fun r8 => wp_X11_goOn r8 s5 (fun s9 => ∀ x3_10 : Int, x3_10 = y3_4 + 1 → ∃ k11, k11 < k27 ∧ I27 k11 x3_10 s9)))) ∧ ∃ k12, I27 k12 0 sg) ∧ (¬ (r2 = 0) → Q r2 sg))) ∧ (¬ (a1 ≤ 99) → Q (-1000000002) sg))

def wp_X11_getUp (a1 : Int) (sg : Mem) (Q : Int → Mem → Prop) : Prop :=
  wp_X0_hasSleeper a1 sg (fun r1 => (inR r1) ∧ (r1 = 0 → Q (-1000000001) sg) ∧ (¬ (r1 = 0) → wp_X4_placeOf 17 a1 sg (fun r3 => (inR r3) ∧ (r3 = (-1) → Q (-1000000003) sg) ∧ (¬ (r3 = (-1)) → wp_X5_remember 17 sg (fun s5 => wp_X4_leave 17 r3 s5 (fun s6 => Q r3 s6))))))

def wp_X11_comeIn (a1 : Int) (sg : Mem) (Q : Int → Mem → Prop) : Prop :=
  wp_X0_hasSleeper a1 sg (fun r1 => (inR r1) ∧ (r1 = 0 → Q (-1000000001) sg) ∧ (¬ (r1 = 0) → wp_X4_lastEmpty 17 sg (fun r3 => wp_X4_placeOf 17 a1 sg (fun r4 => (inR r4) ∧ (r4 = (-1) → (inR r3) ∧ (r3 = (-1) → Q (-1000000003) sg) ∧ (¬ (r3 = (-1)) → wp_X5_remember 17 sg (fun s7 => ((0 ≤ r3 ∧ r3 < 6)) ∧ ∀ s9 : Mem, s9 = up2 s7 18 r3.toNat a1 → Q r3 s9))) ∧ (¬ (r4 = (-1)) → Q (-1000000003) sg)))))

def wp_X11_drawOfSix (sg : Mem) (Q : Int → Mem → Prop) : Prop :=
  (inR (sg 0 12)) ∧ ∀ s2 : Mem, s2 = up2 sg 0 12 (yand (((sg 0 12) * 1103515245) + 12345) 2147483647) → (inR (s2 0 12)) ∧ (inR (Int.tdiv (s2 0 12) 65536)) ∧ Q (Int.tmod (Int.tdiv (s2 0 12) 65536) 6) s2

def wp_X11_drift (a1 : Int) (sg : Mem) (Q : Int → Mem → Prop) : Prop :=
  (inR a1) ∧ (a1 < 1 → Q (-1000000002) sg) ∧ (¬ (a1 < 1) → (a1 ≤ 99 → wp_X11_hoursRefused sg (fun r2 => (inR r2) ∧ (r2 = 0 → ∃ I27 : Nat → Int → Mem → Prop, (∀ (k27 : Nat) (y3_4 : Int) (s5 : Mem), I27 k27 y3_4 s5 → (inR y3_4) ∧ (a1 ≤ y3_4 → wp_X4_coldest 17 s5 (fun r7 => Q r7 s5)) ∧ (¬ (a1 ≤ y3_4) → wp_X11_drawOfSix s5 (fun r8 s9 => wp_X11_isWord r8 s9 (fun r10 => (inR r10) ∧ ∃ X66 : Int → Prop, (∀ (v12 : Int), X66 v12 → wp_X11_goOn v12 s9 (fun s13 => ∀ x3_14 : Int, x3_14 = y3_4 + 1 → ∃ k15, k15 < k27 ∧ I27 k15 x3_14 s13)) ∧ (r10 = 0 → wp_X0_lawAt (s9 17 3) s9 (fun r16 => X66 r16)) ∧ (¬ (r10 = 0) → X66 r8))))) ∧ ∃ k17, I27 k17 0 sg) ∧ (¬ (r2 = 0) → Q r2 sg))) ∧ (¬ (a1 ≤ 99) → Q (-1000000002) sg))

def wp_X11_undo (a1 : Int) (sg : Mem) (Q : Int → Mem → Prop) : Prop :=
  (inR a1) ∧ (a1 < 1 → Q (-1000000002) sg) ∧ (¬ (a1 < 1) → (a1 ≤ 30 → (inR (sg 23 2)) ∧ (a1 ≤ sg 23 2 → wp_X5_bringBack 17 a1 sg (fun s3 => Q (s3 17 3) s3)) ∧ (¬ (a1 ≤ sg 23 2) → Q (-1000000003) sg)) ∧ (¬ (a1 ≤ 30) → Q (-1000000002) sg))

def wp_J6_numberOfTrailingZeros_0f7a4 (a1 : Int) (sg : Mem) (Q : Int → Prop) : Prop :=
  ∀ x0_1 : Int, x0_1 = zand (zxor a1 (-1)) (a1 - 1) → (inR x0_1) ∧ (0 < x0_1 → ∃ X34 : Int → Int → Prop, (∀ (y0_3 : Int) (y1_4 : Int), X34 y0_3 y1_4 → (inR y0_3) ∧ ∃ X49 : Int → Int → Prop, (∀ (y0_6 : Int) (y1_7 : Int), X49 y0_6 y1_7 → (inR y0_6) ∧ ∃ X62 : Int → Int → Prop, (∀ (y0_9 : Int) (y1_10 : Int), X62 y0_9 y1_10 → (inR y0_9) ∧ ∃ X74 : Int → Int → Prop, (∀ (y0_12 : Int) (y1_13 : Int), X74 y0_12 y1_13 → Q (y1_13 + (zushr y0_12 1))) ∧ (y0_9 ≤ 4 → X74 y0_9 y1_10) ∧ (¬ (y0_9 ≤ 4) → ∀ x1_14 : Int, x1_14 = y1_10 + 2 → ∀ x0_15 : Int, x0_15 = zushr y0_9 2 → X74 x0_15 x1_14)) ∧ (y0_6 ≤ 16 → X62 y0_6 y1_7) ∧ (¬ (y0_6 ≤ 16) → ∀ x1_16 : Int, x1_16 = y1_7 + 4 → ∀ x0_17 : Int, x0_17 = zushr y0_6 4 → X62 x0_17 x1_16)) ∧ (y0_3 ≤ 256 → X49 y0_3 y1_4) ∧ (¬ (y0_3 ≤ 256) → ∀ x1_18 : Int, x1_18 = y1_4 + 8 → ∀ x0_19 : Int, x0_19 = zushr y0_3 8 → X49 x0_19 x1_18)) ∧ (x0_1 ≤ 65536 → X34 x0_1 1) ∧ (¬ (x0_1 ≤ 65536) → ∀ x1_20 : Int, x1_20 = 1 + 16 → ∀ x0_21 : Int, x0_21 = zushr x0_1 16 → X34 x0_21 x1_20)) ∧ (¬ (0 < x0_1) → Q (zand x0_1 32))

def wp_X11_firstAwake (a1 : Int) (sg : Mem) (Q : Int → Mem → Prop) : Prop :=
  (inR a1) ∧ ∃ X12 : Prop, (X12 → wp_X4_become 20 17 sg (fun s2 => ∃ I25 : Nat → Int → Mem → Prop, (∀ (k25 : Nat) (y2_3 : Int) (s4 : Mem), I25 k25 y2_3 s4 → (inR y2_3) ∧ (99 < y2_3 → Q (-1) s4) ∧ (¬ (99 < y2_3) → wp_X4_awake 20 s4 (fun r6 => (inR r6) ∧ (r6 = 0 → wp_X4_passByLaw 20 s4 (fun s8 => ∀ x2_9 : Int, x2_9 = y2_3 + 1 → ∃ k10, k10 < k25 ∧ I25 k10 x2_9 s8)) ∧ (¬ (r6 = 0) → (a1 = 0 → Q y2_3 s4) ∧ (¬ (a1 = 0) → wp_J6_numberOfTrailingZeros_0f7a4 r6 s4 (fun r11 => Q r11 s4)))))) ∧ ∃ k12, I25 k12 0 s2)) ∧ (a1 = 0 → X12) ∧ (¬ (a1 = 0) → (a1 = 1 → X12) ∧ (¬ (a1 = 1) → Q (-1000000002) sg))

def wp_X11_turnsFor (a1 : Int) (a2 : Int) (sg : Mem) (Q : Int → Mem → Prop) : Prop :=
  (inR a1) ∧ (a1 < 1 → Q (-1000000002) sg) ∧ (¬ (a1 < 1) → (a1 ≤ 5 → wp_X4_inBed 17 sg (fun r2 => (inR r2) ∧ (r2 = 0 → Q (-1000000003) sg) ∧ (¬ (r2 = 0) → wp_X10_seek 17 a1 sg (fun s4 => (inR a2) ∧ (a2 = (-1) → Q (s4 29 3) s4) ∧ (¬ (a2 = (-1)) → (inR (s4 29 3)) ∧ (s4 29 3 = (-1) → Q (s4 29 3) s4) ∧ (¬ (s4 29 3 = (-1)) → (a2 < 0 → Q (-1) s4) ∧ (¬ (a2 < 0) → (a2 < a1 → ((0 ≤ a2 ∧ a2 < 5)) ∧ Q (s4 32 a2.toNat) s4) ∧ (¬ (a2 < a1) → Q (-1) s4)))))))) ∧ (¬ (a1 ≤ 5) → Q (-1000000002) sg))

def wp_X11_rhyme (a1 : Int) (a2 : Int) (sg : Mem) (Q : Int → Mem → Prop) : Prop :=
  (inR a1) ∧ (a1 < 1 → Q (-1000000002) sg) ∧ (¬ (a1 < 1) → (a1 ≤ 30 → wp_X4_inBed 17 sg (fun r2 => (inR r2) ∧ (r2 = 0 → Q (-1000000003) sg) ∧ (¬ (r2 = 0) → wp_X7_seek 17 a1 sg (fun s4 => (inR a2) ∧ (a2 = (-1) → Q (s4 51 1) s4) ∧ (¬ (a2 = (-1)) → (inR (s4 51 1)) ∧ (s4 51 1 = (-1) → Q (s4 51 1) s4) ∧ (¬ (s4 51 1 = (-1)) → (a2 < 0 → Q (-1) s4) ∧ (¬ (a2 < 0) → (a2 < s4 51 1 → wp_X11_wordOf (s4 51 2) (s4 51 1) a2 s4 (fun r7 => Q r7 s4)) ∧ (¬ (a2 < s4 51 1) → Q (-1) s4)))))))) ∧ (¬ (a1 ≤ 30) → Q (-1000000002) sg))

def wp_X11_laid (a1 : Int) (a2 : Int) (sg : Mem) (Q : Int → Mem → Prop) : Prop :=
  (inR a1) ∧ (a1 < 1 → Q (-1000000002) sg) ∧ (¬ (a1 < 1) → (a1 ≤ 9 → wp_X3_seek 17 a1 sg (fun s2 => (inR a2) ∧ (a2 = (-1) → Q (s2 52 5) s2) ∧ (¬ (a2 = (-1)) → (a2 < 0 → Q (-1) s2) ∧ (¬ (a2 < 0) → (inR (s2 52 4)) ∧ (a2 < s2 52 4 → ((0 ≤ a2 ∧ a2 < 6)) ∧ Q (s2 55 a2.toNat) s2) ∧ (¬ (a2 < s2 52 4) → Q (-1) s2))))) ∧ (¬ (a1 ≤ 9) → Q (-1000000002) sg))

def wp_X11_change (a1 : Int) (sg : Mem) (Q : Int → Mem → Prop) : Prop :=
  wp_X3_seekPairs 17 sg (fun s1 => (inR a1) ∧ (a1 = (-1) → Q (s1 52 8) s1) ∧ (¬ (a1 = (-1)) → (a1 < 0 → Q (-1) s1) ∧ (¬ (a1 < 0) → (inR (s1 52 8)) ∧ (a1 < s1 52 8 → ((0 ≤ a1 ∧ a1 < 36)) ∧ Q (s1 57 a1.toNat) s1) ∧ (¬ (a1 < s1 52 8) → Q (-1) s1))))

def wp_X11_steady (a1 : Int) (sg : Mem) (Q : Int → Mem → Prop) : Prop :=
  (inR a1) ∧ ∃ X19 : Prop, (X19 → (inR (sg 1 0)) ∧ (sg 1 0 = 0 → Q (-1000000003) sg) ∧ (¬ (sg 1 0 = 0) → wp_X8_seek 17 sg (fun s3 => (a1 = (-1) → Q (s3 58 2) s3) ∧ (¬ (a1 = (-1)) → (inR (s3 58 2)) ∧ (s3 58 2 = (-1) → Q (s3 58 2) s3) ∧ (¬ (s3 58 2 = (-1)) → wp_X8_hoursInWarmest 17 a1 s3 (fun r5 s6 => Q r5 s6)))))) ∧ (a1 = (-1) → X19) ∧ (¬ (a1 = (-1)) → wp_X0_hasSleeper a1 sg (fun r7 => (inR r7) ∧ (r7 = 0 → Q (-1000000001) sg) ∧ (¬ (r7 = 0) → X19)))

def wp_X11_twoBeds (a1 : Int) (sg : Mem) (Q : Int → Prop) : Prop :=
  (inR a1) ∧ ∃ X12 : Prop, (X12 → ∃ I19 : Nat → Int → Int → Int → Prop, (∀ (k19 : Nat) (y2_2 : Int) (y3_3 : Int) (y4_4 : Int), I19 k19 y2_2 y3_3 y4_4 → (inR y4_4) ∧ (inR (zshl 1 (sg 1 2))) ∧ (zshl 1 (sg 1 2) ≤ y4_4 → (a1 = 0 → Q y2_2) ∧ (¬ (a1 = 0) → Q y3_3)) ∧ (¬ (zshl 1 (sg 1 2) ≤ y4_4) → wp_X0_unlike y4_4 sg (fun r7 => (inR y2_2) ∧ (((y2_2 = (-1) → True) ∧ (¬ (y2_2 = (-1)) → ((inR r7))))) ∧ ∀ y2_10 : Int, y2_10 = (if y2_2 = (-1) then r7 else if y2_2 ≤ r7 then y2_2 else r7) → ∀ y3_11 : Int, y3_11 = (if y2_2 = (-1) then y4_4 else if y2_2 ≤ r7 then y3_3 else y4_4) → ∀ x4_12 : Int, x4_12 = y4_4 + 2 → ∃ k13, k13 < k19 ∧ I19 k13 y2_10 y3_11 x4_12))) ∧ ∃ k16, I19 k16 (-1) (-1) 1) ∧ (a1 = 0 → X12) ∧ (¬ (a1 = 0) → (a1 = 1 → X12) ∧ (¬ (a1 = 1) → Q (-1000000002)))

def wp_J6_bitCount_0f7a4 (a1 : Int) (sg : Mem) (Q : Int → Prop) : Prop :=
  ∀ x0_1 : Int, x0_1 = a1 - (zand (zushr a1 1) 1431655765) → ∀ x0_2 : Int, x0_2 = (zand x0_1 858993459) + (zand (zushr x0_1 2) 858993459) → ∀ x0_3 : Int, x0_3 = zand (x0_2 + (zushr x0_2 4)) 252645135 → ∀ x0_4 : Int, x0_4 = x0_3 + (zushr x0_3 8) → ∀ x0_5 : Int, x0_5 = x0_4 + (zushr x0_4 16) → Q (zand x0_5 63)

def wp_X11_nobodyUp (a1 : Int) (a2 : Int) (sg : Mem) (Q : Int → Prop) : Prop :=
  (inR a1) ∧ (a1 < 1 → Q (-1000000002)) ∧ (¬ (a1 < 1) → (50 < a1 → Q (-1000000002)) ∧ (¬ (50 < a1) → (inR a2) ∧ (a2 < 0 → Q (-1000000002)) ∧ (¬ (a2 < 0) → (a2 ≤ 1000 → wp_X4_inBed 17 sg (fun r3 => wp_J6_bitCount_0f7a4 r3 sg (fun r4 => ∀ x3_5 : Int, x3_5 = a1 * r4 → ∃ I46 : Nat → Int → Int → Prop, (∀ (k46 : Nat) (y4_6 : Int) (y6_7 : Int), I46 k46 y4_6 y6_7 → (inR y6_7) ∧ (inR x3_5) ∧ (x3_5 ≤ y6_7 → Q y4_6) ∧ (¬ (x3_5 ≤ y6_7) → (inR (1000 - a2)) ∧ (inL (y4_6 * (1000 - a2))) ∧ ∀ x4_12 : Int, x4_12 = Int.tdiv (y4_6 * (1000 - a2)) 1000 → ∀ x6_13 : Int, x6_13 = y6_7 + 1 → ∃ k14, k14 < k46 ∧ I46 k14 x4_12 x6_13)) ∧ ∃ k15, I46 k15 1000000000 0))) ∧ (¬ (a2 ≤ 1000) → Q (-1000000002)))))

def wp_X11_morning (a1 : Int) (a2 : Int) (sg : Mem) (Q : Int → Mem → Prop) : Prop :=
  wp_X0_hasSleeper a1 sg (fun r1 => (inR r1) ∧ (r1 = 0 → Q (-1000000001) sg) ∧ (¬ (r1 = 0) → wp_X0_hasPlace a2 sg (fun r3 => (inR r3) ∧ (r3 = 0 → Q (-1000000001) sg) ∧ (¬ (r3 = 0) → wp_X9_add a1 a2 sg (fun r5 s6 => (inR r5) ∧ (r5 = 0 → Q (-1000000004) s6) ∧ (¬ (r5 = 0) → Q (s6 60 2) s6))))))

def wp_X11_counted (a1 : Int) (a2 : Int) (sg : Mem) (Q : Int → Mem → Prop) : Prop :=
  (inR a1) ∧ (a1 < 1 → Q (-1000000002) sg) ∧ (¬ (a1 < 1) → (a1 ≤ 5 → (inR (sg 1 0)) ∧ (sg 1 0 = 0 → Q (-1000000003) sg) ∧ (¬ (sg 1 0 = 0) → wp_X9_seek 17 a1 sg (fun s3 => (inR a2) ∧ (a2 = (-1) → Q (s3 60 3) s3) ∧ (¬ (a2 = (-1)) → (a2 < 0 → Q (-1) s3) ∧ (¬ (a2 < 0) → (a1 ≤ a2 → Q (-1) s3) ∧ (¬ (a1 ≤ a2) → (inR (s3 60 3)) ∧ (s3 60 3 = 0 → Q (-1) s3) ∧ (¬ (s3 60 3 = 0) → wp_X11_wordOf (s3 60 4) a1 a2 s3 (fun r6 => Q r6 s3)))))))) ∧ (¬ (a1 ≤ 5) → Q (-1000000002) sg))

def wp_X11_sure (a1 : Int) (sg : Mem) (Q : Int → Mem → Prop) : Prop :=
  (inR a1) ∧ (a1 < 1 → Q (-1000000002) sg) ∧ (¬ (a1 < 1) → (a1 ≤ 5 → (inR (sg 1 0)) ∧ (sg 1 0 = 0 → Q (-1000000003) sg) ∧ (¬ (sg 1 0 = 0) → wp_X9_seek 17 a1 sg (fun s3 => Q (s3 60 5) s3))) ∧ (¬ (a1 ≤ 5) → Q (-1000000002) sg))

def wp_X11_write (a1 : Int) (sg : Mem) (Q : Int → Mem → Prop) : Prop :=
  wp_X11_isWord a1 sg (fun r1 => (inR r1) ∧ (r1 = 0 → Q (-1000000001) sg) ∧ (¬ (r1 = 0) → wp_X1_add a1 sg (fun r3 s4 => (inR r3) ∧ (r3 = 0 → Q (-1000000004) s4) ∧ (¬ (r3 = 0) → Q (s4 63 1) s4))))

def wp_X11_judge (a1 : Int) (sg : Mem) (Q : Int → Mem → Prop) : Prop :=
  (inR a1) ∧ ∃ X12 : Prop, (X12 → wp_X4_inBed 17 sg (fun r2 => (inR r2) ∧ (r2 = 0 → Q (-1000000003) sg) ∧ (¬ (r2 = 0) → wp_X4_become 20 17 sg (fun s4 => wp_X1_sayTo 20 s4 (fun r5 s6 => (a1 = 0 → Q r5 s6) ∧ (¬ (a1 = 0) → wp_X4_coldest 20 s6 (fun r7 => Q r7 s6))))))) ∧ (a1 = 0 → X12) ∧ (¬ (a1 = 0) → (a1 = 1 → X12) ∧ (¬ (a1 = 1) → Q (-1000000002) sg))

def wp_X11_tear (sg : Mem) (Q : Int → Mem → Prop) : Prop :=
  ∀ x1_1 : Int, x1_1 = (sg 60 2) + (sg 63 1) → wp_X9_empty sg (fun s2 => wp_X1_empty s2 (fun s3 => Q x1_1 s3))

def wp_X11_seed (a1 : Int) (sg : Mem) (Q : Int → Mem → Prop) : Prop :=
  (inR a1) ∧ (0 ≤ a1 → ∀ x2_2 : Int, x2_2 = sg 0 12 → ∀ s3 : Mem, s3 = up2 sg 0 12 a1 → Q x2_2 s3) ∧ (¬ (0 ≤ a1) → Q (-1000000002) sg)

def wp_X11_keep (a1 : Int) (sg : Mem) (Q : Int → Mem → Prop) : Prop :=
  (inR a1) ∧ (a1 < 0 → Q (-1000000001) sg) ∧ (¬ (a1 < 0) → (a1 < 2 → ((0 ≤ a1 ∧ a1 < 2)) ∧ wp_X2_take (27 + a1.toNat) 17 (sg 0 12) sg (fun s3 => wp_X5_forget s3 (fun s4 => Q 1 s4))) ∧ (¬ (a1 < 2) → Q (-1000000001) sg))

def wp_X11_goBack (a1 : Int) (sg : Mem) (Q : Int → Mem → Prop) : Prop :=
  (inR a1) ∧ (a1 < 0 → Q (-1000000001) sg) ∧ (¬ (a1 < 0) → (a1 < 2 → ((0 ≤ a1 ∧ a1 < 2)) ∧ (inR (sg (27 + a1.toNat) 0)) ∧ (sg (27 + a1.toNat) 0 = 0 → Q (-1000000003) sg) ∧ (¬ (sg (27 + a1.toNat) 0 = 0) → wp_X4_setCode 17 (sg (27 + a1.toNat) 1) (sg (27 + a1.toNat) 2) sg (fun s4 => ∀ s5 : Mem, s5 = up2 s4 0 12 (s4 (27 + a1.toNat) 3) → wp_X5_forget s5 (fun s6 => Q 1 s6)))) ∧ (¬ (a1 < 2) → Q (-1000000001) sg))

def wp_X12_in (a1 : Int) (a2 : Int) (a3 : Int) (sg : Mem) (Q : Int → Prop) : Prop :=
  (inL a1) ∧ (inL a2) ∧ (a1 < a2 → Q 0) ∧ (¬ (a1 < a2) → (inL a3) ∧ (a3 < a1 → Q 0) ∧ (¬ (a3 < a1) → Q 1))

def wp_X12_plain (sg : Mem) (Q : Mem → Prop) : Prop :=
  ∃ I2 : Nat → Int → Mem → Prop, (∀ (k2 : Nat) (y1_1 : Int) (s2 : Mem), I2 k2 y1_1 s2 → (inR y1_1) ∧ (44 ≤ y1_1 → ∀ s4 : Mem, s4 = up2 s2 66 3 1 → Q s4) ∧ (¬ (44 ≤ y1_1) → ((0 ≤ y1_1 ∧ y1_1 < 44)) ∧ ∀ s6 : Mem, s6 = up2 s2 66 y1_1.toNat 0 → ∀ x1_7 : Int, x1_7 = y1_1 + 1 → ∃ k8, k8 < k2 ∧ I2 k8 x1_7 s6)) ∧ ∃ k9, I2 k9 0 sg

def wp_X12_feed (a1 : Int) (sg : Mem) (Q : Int → Mem → Prop) : Prop :=
  (inR a1) ∧ wp_X12_in a1 0 255 sg (fun r2 => (inR r2) ∧ (r2 = 0 → Q (-1000000002) sg) ∧ (¬ (r2 = 0) → (inR (sg 65 3)) ∧ (sg 65 3 = 200 → Q (-1000000004) sg) ∧ (¬ (sg 65 3 = 200) → ((0 ≤ sg 65 3 ∧ sg 65 3 < 200)) ∧ ∀ s6 : Mem, s6 = up2 sg 68 (sg 65 3).toNat a1 → ∀ s7 : Mem, s7 = up2 s6 65 3 ((s6 65 3) + 1) → Q (s7 65 3) s7)))

def wp_X12_here (sg : Mem) (Q : Int → Mem → Prop) : Prop :=
  ∃ I0 : Nat → Mem → Prop, (∀ (k0 : Nat) (s1 : Mem), I0 k0 s1 → (inR (s1 65 4)) ∧ (inR (s1 65 3)) ∧ ∃ X38 : Prop, (X38 → (s1 65 3 ≤ s1 65 4 → Q (-1) s1) ∧ (¬ (s1 65 3 ≤ s1 65 4) → ((0 ≤ s1 65 4 ∧ s1 65 4 < 200)) ∧ Q (s1 68 (s1 65 4).toNat) s1)) ∧ (s1 65 3 ≤ s1 65 4 → X38) ∧ (¬ (s1 65 3 ≤ s1 65 4) → ((0 ≤ s1 65 4 ∧ s1 65 4 < 200)) ∧ (inR (s1 68 (s1 65 4).toNat)) ∧ (s1 68 (s1 65 4).toNat = 32 → ∀ s7 : Mem, s7 = up2 s1 65 4 ((s1 65 4) + 1) → ∃ k8, k8 < k0 ∧ I0 k8 s7) ∧ (¬ (s1 68 (s1 65 4).toNat = 32) → X38))) ∧ ∃ k9, I0 k9 sg

def wp_X12_faults (a1 : Int) (a2 : Int) (sg : Mem) (Q : Mem → Prop) : Prop :=
  (inR (sg 65 5)) ∧ (sg 65 5 = 0 → ∀ s2 : Mem, s2 = up2 sg 65 5 a1 → ∀ s3 : Mem, s3 = up2 s2 65 6 a2 → Q s3) ∧ (¬ (sg 65 5 = 0) → Q sg)

def wp_X12_number (a1 : Int) (a2 : Int) (sg : Mem) (Q : Int → Mem → Prop) : Prop :=
  (inR (sg 65 5)) ∧ (sg 65 5 = 0 → wp_X12_here sg (fun r2 s3 => (inR r2) ∧ wp_X12_in r2 48 57 s3 (fun r5 => (inR r5) ∧ (r5 = 0 → wp_X12_faults 1 (s3 65 4) s3 (fun s7 => Q a1 s7)) ∧ (¬ (r5 = 0) → ∀ s8 : Mem, s8 = up2 s3 65 7 (s3 65 4) → ∃ I47 : Nat → Int → Mem → Prop, (∀ (k47 : Nat) (y3_9 : Int) (s10 : Mem), I47 k47 y3_9 s10 → (inR (s10 65 4)) ∧ (inR (s10 65 3)) ∧ ∃ X130 : Prop, (X130 → (inR y3_9) ∧ (inR a1) ∧ (inR a2) ∧ wp_X12_in y3_9 a1 a2 s10 (fun r16 => (inR r16) ∧ (r16 = 0 → wp_X12_faults 2 (s10 65 7) s10 (fun s18 => Q y3_9 s18)) ∧ (¬ (r16 = 0) → Q y3_9 s10))) ∧ (s10 65 3 ≤ s10 65 4 → X130) ∧ (¬ (s10 65 3 ≤ s10 65 4) → ((0 ≤ s10 65 4 ∧ s10 65 4 < 200)) ∧ (inR (s10 68 (s10 65 4).toNat)) ∧ wp_X12_in (s10 68 (s10 65 4).toNat) 48 57 s10 (fun r21 => (inR r21) ∧ (r21 = 0 → X130) ∧ (¬ (r21 = 0) → (inR ((s10 65 4) - (s10 65 7))) ∧ ∀ v24 : Int, v24 = (if (s10 65 4) - (s10 65 7) ≤ 2 then ((10 * y3_9) + (s10 68 (s10 65 4).toNat)) - 48 else 9999) → ∀ s25 : Mem, s25 = up2 s10 65 4 ((s10 65 4) + 1) → ∃ k26, k26 < k47 ∧ I47 k26 v24 s25)))) ∧ ∃ k28, I47 k28 0 s8)))) ∧ (¬ (sg 65 5 = 0) → Q a1 sg)

def wp_X12_readHeat (sg : Mem) (Q : Mem → Prop) : Prop :=
  wp_X12_number 0 ((sg 66 0) - 1) sg (fun r1 s2 => (inR (s2 65 5)) ∧ ∃ X44 : Mem → Prop, (∀ (s4 : Mem), X44 s4 → wp_X12_number 0 9 s4 (fun r5 s6 => (inR (s6 65 5)) ∧ (s6 65 5 = 0 → ((0 ≤ 6 + r1 ∧ 6 + r1 < 44)) ∧ ∀ s9 : Mem, s9 = up2 s6 66 (6 + r1).toNat r5 → ∀ s10 : Mem, s10 = up2 s9 66 5 (zor (s9 66 5) (zshl 1 r1)) → Q s10) ∧ (¬ (s6 65 5 = 0) → Q s6))) ∧ (s2 65 5 = 0 → (inR (zand (zshr (s2 66 5) r1) 1)) ∧ (zand (zshr (s2 66 5) r1) 1 = 1 → wp_X12_faults 4 (s2 65 7) s2 (fun s12 => X44 s12)) ∧ (¬ (zand (zshr (s2 66 5) r1) 1 = 1) → X44 s2)) ∧ (¬ (s2 65 5 = 0) → X44 s2))

def wp_X12_readSleeper (sg : Mem) (Q : Mem → Prop) : Prop :=
  ∀ x1_1 : Int, x1_1 = 12 + (4 * (sg 66 2)) → wp_X12_number 1 99 sg (fun r2 s3 => ((0 ≤ x1_1 ∧ x1_1 < 44)) ∧ ∀ s5 : Mem, s5 = up2 s3 66 x1_1.toNat r2 → wp_X12_number 0 9 s5 (fun r6 s7 => ((0 ≤ x1_1 + 1 ∧ x1_1 + 1 < 44)) ∧ ∀ s9 : Mem, s9 = up2 s7 66 (x1_1 + 1).toNat r6 → wp_X12_number 0 20 s9 (fun r10 s11 => ((0 ≤ x1_1 + 2 ∧ x1_1 + 2 < 44)) ∧ ∀ s13 : Mem, s13 = up2 s11 66 (x1_1 + 2).toNat r10 → wp_X12_number 0 98 s13 (fun r14 s15 => ((0 ≤ x1_1 + 3 ∧ x1_1 + 3 < 44)) ∧ ∀ s17 : Mem, s17 = up2 s15 66 (x1_1 + 3).toNat r14 → (inR (s17 65 5)) ∧ ∃ X103 : Mem → Prop, (∀ (s19 : Mem), X103 s19 → ∀ s20 : Mem, s20 = up2 s19 66 2 ((s19 66 2) + 1) → Q s20) ∧ (s17 65 5 = 0 → (inR (s17 66 (x1_1 + 3).toNat)) ∧ (inR (s17 66 x1_1.toNat)) ∧ (s17 66 (x1_1 + 3).toNat < s17 66 x1_1.toNat → X103 s17) ∧ (¬ (s17 66 (x1_1 + 3).toNat < s17 66 x1_1.toNat) → wp_X12_faults 4 (s17 65 7) s17 (fun s23 => X103 s23))) ∧ (¬ (s17 65 5 = 0) → X103 s17)))))

def wp_X12_readLaw (sg : Mem) (Q : Mem → Prop) : Prop :=
  ∀ s1 : Mem, s1 = up2 sg 66 4 1 → wp_X12_number 0 3 s1 (fun r2 s3 => ∀ s4 : Mem, s4 = up2 s3 66 36 r2 → ∀ s5 : Mem, s5 = up2 s4 66 3 1 → ∃ I27 : Nat → Mem → Prop, (∀ (k27 : Nat) (s6 : Mem), I27 k27 s6 → (inR (s6 65 5)) ∧ (s6 65 5 = 0 → (inR (s6 66 3)) ∧ (8 ≤ s6 66 3 → Q s6) ∧ (¬ (8 ≤ s6 66 3) → wp_X12_here s6 (fun r9 s10 => (inR r9) ∧ (r9 = 44 → ∀ s12 : Mem, s12 = up2 s10 65 4 ((s10 65 4) + 1) → wp_X12_number 0 3 s12 (fun r13 s14 => ((0 ≤ 36 + (s12 66 3) ∧ 36 + (s12 66 3) < 44)) ∧ ∀ s16 : Mem, s16 = up2 s14 66 (36 + (s12 66 3)).toNat r13 → ∀ s17 : Mem, s17 = up2 s16 66 3 ((s16 66 3) + 1) → ∃ k18, k18 < k27 ∧ I27 k18 s17)) ∧ (¬ (r9 = 44) → Q s10)))) ∧ (¬ (s6 65 5 = 0) → Q s6)) ∧ ∃ k19, I27 k19 s5)

def wp_X12_clause (sg : Mem) (Q : Mem → Prop) : Prop :=
  wp_X12_here sg (fun r1 s2 => ∀ x2_3 : Int, x2_3 = s2 65 4 → (inR (s2 66 0)) ∧ ∀ v5 : Int, v5 = (if s2 66 0 = 0 then 1 else 0) → (inR r1) ∧ ∃ X82 : Mem → Prop, (∀ (s7 : Mem), X82 s7 → ∃ X120 : Mem → Prop, (∀ (s8 : Mem), X120 s8 → (inR (s8 65 5)) ∧ (s8 65 5 = 0 → ∀ s10 : Mem, s10 = up2 s8 65 4 ((s8 65 4) + 1) → ∃ X202 : Mem → Prop, (∀ (s11 : Mem), X202 s11 → (inR (s11 65 5)) ∧ ∃ X227 : Mem → Prop, (∀ (s13 : Mem), X227 s13 → ∀ s14 : Mem, s14 = up2 s13 65 4 ((s13 65 4) + 1) → Q s14) ∧ (s11 65 5 = 0 → wp_X12_here s11 (fun r15 s16 => (inR r15) ∧ (r15 = 59 → X227 s16) ∧ (¬ (r15 = 59) → wp_X12_faults 1 (s16 65 4) s16 (fun s18 => X227 s18)))) ∧ (¬ (s11 65 5 = 0) → X227 s11)) ∧ (r1 = 98 → wp_X12_number 2 6 s10 (fun r19 s20 => ∀ s21 : Mem, s21 = up2 s20 66 0 r19 → wp_X12_number 0 1 s21 (fun r22 s23 => ∀ s24 : Mem, s24 = up2 s23 66 1 r22 → X202 s24))) ∧ (¬ (r1 = 98) → (r1 = 104 → wp_X12_readHeat s10 (fun s25 => X202 s25)) ∧ (¬ (r1 = 104) → (r1 = 115 → wp_X12_readSleeper s10 (fun s26 => X202 s26)) ∧ (¬ (r1 = 115) → wp_X12_readLaw s10 (fun s27 => X202 s27))))) ∧ (¬ (s8 65 5 = 0) → Q s8)) ∧ (r1 = 98 → X120 s7) ∧ (¬ (r1 = 98) → (inR v5) ∧ ∃ X110 : Prop, (X110 → ∀ s29 : Mem, s29 = up2 s7 65 5 1 → ∀ s30 : Mem, s30 = up2 s29 65 6 x2_3 → X120 s30) ∧ (v5 = 0 → (r1 = 104 → X120 s7) ∧ (¬ (r1 = 104) → (r1 = 115 → X120 s7) ∧ (¬ (r1 = 115) → (r1 = 114 → X120 s7) ∧ (¬ (r1 = 114) → X110)))) ∧ (¬ (v5 = 0) → X110))) ∧ ∃ X76 : Prop, (X76 → wp_X12_faults 3 x2_3 s2 (fun s31 => X82 s31)) ∧ ∃ X35 : Prop, (X35 → ∃ X51 : Prop, (X51 → (r1 = 115 → (inR v5) ∧ (v5 = 0 → (inR (s2 66 2)) ∧ (s2 66 2 = s2 66 0 → X76) ∧ (¬ (s2 66 2 = s2 66 0) → X82 s2)) ∧ (¬ (v5 = 0) → X82 s2)) ∧ (¬ (r1 = 115) → X82 s2)) ∧ (r1 = 114 → (inR (s2 66 4)) ∧ (s2 66 4 = 1 → X76) ∧ (¬ (s2 66 4 = 1) → X51)) ∧ (¬ (r1 = 114) → X51)) ∧ (r1 = 98 → (inR v5) ∧ (v5 = 0 → X76) ∧ (¬ (v5 = 0) → X35)) ∧ (¬ (r1 = 98) → X35))

def wp_X12_starts (sg : Mem) (Q : Mem → Prop) : Prop :=
  ∃ I2 : Nat → Int → Mem → Prop, (∀ (k2 : Nat) (y1_1 : Int) (s2 : Mem), I2 k2 y1_1 s2 → (inR y1_1) ∧ (44 ≤ y1_1 → ∀ s4 : Mem, s4 = up2 s2 69 0 0 → ∃ I35 : Nat → Int → Mem → Prop, (∀ (k35 : Nat) (y1_5 : Int) (s6 : Mem), I35 k35 y1_5 s6 → (inR y1_5) ∧ (6 ≤ y1_5 → ∀ s8 : Mem, s8 = up2 s6 65 18 0 → ∀ s9 : Mem, s9 = up2 s8 65 21 0 → ∀ s10 : Mem, s10 = up2 s9 65 11 0 → ∀ s11 : Mem, s11 = up2 s10 80 0 0 → ∀ s12 : Mem, s12 = up2 s11 80 15 0 → Q s12) ∧ (¬ (6 ≤ y1_5) → (inR (s6 67 2)) ∧ ∀ v14 : Int, v14 = (if s6 67 2 ≤ y1_5 then (-1) else y1_5) → ((0 ≤ 1 + y1_5 ∧ 1 + y1_5 < 13)) ∧ ∀ s16 : Mem, s16 = up2 s6 69 (1 + y1_5).toNat v14 → (inR (s16 67 2)) ∧ (((s16 67 2 ≤ y1_5 → True) ∧ (¬ (s16 67 2 ≤ y1_5) → (((0 ≤ 12 + (4 * y1_5) ∧ 12 + (4 * y1_5) < 44)))))) ∧ ∀ v19 : Int, v19 = (if s16 67 2 ≤ y1_5 then 0 else s16 67 (12 + (4 * y1_5)).toNat) → ((0 ≤ 7 + y1_5 ∧ 7 + y1_5 < 13)) ∧ ∀ s21 : Mem, s21 = up2 s16 69 (7 + y1_5).toNat v19 → ∀ x1_22 : Int, x1_22 = y1_5 + 1 → ∃ k23, k23 < k35 ∧ I35 k23 x1_22 s21)) ∧ ∃ k26, I35 k26 0 s4) ∧ (¬ (44 ≤ y1_1) → ((0 ≤ y1_1 ∧ y1_1 < 44)) ∧ ∀ s28 : Mem, s28 = up2 s2 67 y1_1.toNat (s2 66 y1_1.toNat) → ∀ x1_29 : Int, x1_29 = y1_1 + 1 → ∃ k30, k30 < k2 ∧ I2 k30 x1_29 s28)) ∧ ∃ k31, I2 k31 0 sg

def wp_X12_bed (sg : Mem) (Q : Int → Mem → Prop) : Prop :=
  ∀ s1 : Mem, s1 = up2 sg 65 4 0 → ∀ s2 : Mem, s2 = up2 s1 65 5 0 → ∀ s3 : Mem, s3 = up2 s2 65 6 (-1) → wp_X12_plain s3 (fun s4 => ∃ I19 : Nat → Mem → Prop, (∀ (k19 : Nat) (s5 : Mem), I19 k19 s5 → (inR (s5 65 5)) ∧ ∃ X40 : Mem → Prop, (∀ (s7 : Mem), X40 s7 → ∀ s8 : Mem, s8 = up2 s7 65 3 0 → (inR (s8 65 5)) ∧ (s8 65 5 = 0 → wp_X12_starts s8 (fun s10 => Q (s10 67 2) s10)) ∧ (¬ (s8 65 5 = 0) → Q ((-10) - (s8 65 5)) s8)) ∧ (s5 65 5 = 0 → wp_X12_here s5 (fun r11 s12 => (inR r11) ∧ (r11 < 0 → X40 s12) ∧ (¬ (r11 < 0) → wp_X12_clause s12 (fun s14 => ∃ k15, k15 < k19 ∧ I19 k15 s14)))) ∧ (¬ (s5 65 5 = 0) → X40 s5)) ∧ ∃ k16, I19 k16 s4)

def wp_X12_fault (sg : Mem) (Q : Int → Prop) : Prop :=
  Q (sg 65 6)

def wp_X12_isPlace (a1 : Int) (sg : Mem) (Q : Int → Prop) : Prop :=
  (inR a1) ∧ (inR ((sg 67 0) - 1)) ∧ wp_X12_in a1 0 ((sg 67 0) - 1) sg (fun r3 => (r3 = 0 ∨ r3 = 1) ∧ Q r3)

def wp_X12_isSleeper (a1 : Int) (sg : Mem) (Q : Int → Prop) : Prop :=
  (inR a1) ∧ (inR ((sg 67 2) - 1)) ∧ wp_X12_in a1 0 ((sg 67 2) - 1) sg (fun r3 => (r3 = 0 ∨ r3 = 1) ∧ Q r3)

def wp_X12_gives (a1 : Int) (sg : Mem) (Q : Int → Prop) : Prop :=
  (inR a1) ∧ (a1 = (-1) → Q 0) ∧ (¬ (a1 = (-1)) → ((0 ≤ (12 + (4 * a1)) + 1 ∧ (12 + (4 * a1)) + 1 < 44)) ∧ Q (sg 67 ((12 + (4 * a1)) + 1).toNat))

def wp_X12_loses (a1 : Int) (sg : Mem) (Q : Int → Prop) : Prop :=
  ((0 ≤ (12 + (4 * a1)) + 2 ∧ (12 + (4 * a1)) + 2 < 44)) ∧ Q (sg 67 ((12 + (4 * a1)) + 2).toNat)

def wp_X12_placeOf (a1 : Int) (sg : Mem) (Q : Int → Prop) : Prop :=
  ∃ I4 : Nat → Int → Int → Prop, (∀ (k4 : Nat) (y2_1 : Int) (y3_2 : Int), I4 k4 y2_1 y3_2 → (inR y3_2) ∧ (inR (sg 67 0)) ∧ (sg 67 0 ≤ y3_2 → Q y2_1) ∧ (¬ (sg 67 0 ≤ y3_2) → ((0 ≤ 1 + y3_2 ∧ 1 + y3_2 < 13)) ∧ (inR (sg 69 (1 + y3_2).toNat)) ∧ (inR a1) ∧ ∀ v8 : Int, v8 = (if sg 69 (1 + y3_2).toNat = a1 then y3_2 else y2_1) → ∀ x3_9 : Int, x3_9 = y3_2 + 1 → ∃ k10, k10 < k4 ∧ I4 k10 v8 x3_9)) ∧ ∃ k12, I4 k12 (-1) 0

def wp_X12_inBed (sg : Mem) (Q : Int → Prop) : Prop :=
  ∃ I4 : Nat → Int → Int → Prop, (∀ (k4 : Nat) (y1_1 : Int) (y2_2 : Int), I4 k4 y1_1 y2_2 → (inR y2_2) ∧ (inR (sg 67 0)) ∧ (sg 67 0 ≤ y2_2 → Q y1_1) ∧ (¬ (sg 67 0 ≤ y2_2) → ((0 ≤ 1 + y2_2 ∧ 1 + y2_2 < 13)) ∧ (inR (sg 69 (1 + y2_2).toNat)) ∧ ∀ v7 : Int, v7 = (if sg 69 (1 + y2_2).toNat = (-1) then 0 else zshl 1 (sg 69 (1 + y2_2).toNat)) → ∀ x1_8 : Int, x1_8 = zor y1_1 v7 → ∀ x2_9 : Int, x2_9 = y2_2 + 1 → ∃ k10, k10 < k4 ∧ I4 k10 x1_8 x2_9)) ∧ ∃ k12, I4 k12 0 0

def wp_X12_more (a1 : Int) (sg : Mem) (Q : Int → Prop) : Prop :=
  ((0 ≤ 7 + a1 ∧ 7 + a1 < 13)) ∧ ((0 ≤ (12 + (4 * a1)) + 3 ∧ (12 + (4 * a1)) + 3 < 44)) ∧ Q ((sg 69 (7 + a1).toNat) - (sg 67 ((12 + (4 * a1)) + 3).toNat))

def wp_X12_awake (sg : Mem) (Q : Int → Prop) : Prop :=
  ∃ I4 : Nat → Int → Int → Prop, (∀ (k4 : Nat) (y1_1 : Int) (y2_2 : Int), I4 k4 y1_1 y2_2 → (inR y2_2) ∧ (inR (sg 67 2)) ∧ (sg 67 2 ≤ y2_2 → Q y1_1) ∧ (¬ (sg 67 2 ≤ y2_2) → wp_X12_inBed sg (fun r5 => (inR (zand (zshr r5 y2_2) 1)) ∧ ∃ X42 : Int → Prop, (∀ (v7 : Int), X42 v7 → ∀ x1_8 : Int, x1_8 = zor y1_1 v7 → ∀ x2_9 : Int, x2_9 = y2_2 + 1 → ∃ k10, k10 < k4 ∧ I4 k10 x1_8 x2_9) ∧ ∃ X41 : Prop, (X41 → X42 0) ∧ (zand (zshr r5 y2_2) 1 = 1 → wp_X12_more y2_2 sg (fun r11 => (inR r11) ∧ (0 < r11 → X41) ∧ (¬ (0 < r11) → X42 (zshl 1 y2_2)))) ∧ (¬ (zand (zshr r5 y2_2) 1 = 1) → X41)))) ∧ ∃ k13, I4 k13 0 0

def wp_X12_coldest (sg : Mem) (Q : Int → Prop) : Prop :=
  ∃ I4 : Nat → Int → Int → Prop, (∀ (k4 : Nat) (y1_1 : Int) (y2_2 : Int), I4 k4 y1_1 y2_2 → (inR y2_2) ∧ (inR (sg 67 2)) ∧ (sg 67 2 ≤ y2_2 → Q y1_1) ∧ (¬ (sg 67 2 ≤ y2_2) → wp_X12_inBed sg (fun r5 => (inR (zand (zshr r5 y2_2) 1)) ∧ ∃ X48 : Int → Prop, (∀ (v7 : Int), X48 v7 → (inR v7) ∧ ∃ X65 : Int → Prop, (∀ (v9 : Int), X65 v9 → ∀ x2_10 : Int, x2_10 = y2_2 + 1 → ∃ k11, k11 < k4 ∧ I4 k11 v9 x2_10) ∧ (v7 = 0 → X65 y1_1) ∧ (¬ (v7 = 0) → wp_X12_more y2_2 sg (fun r12 => X65 (100 + r12)))) ∧ ∃ X47 : Prop, (X47 → X48 0) ∧ (zand (zshr r5 y2_2) 1 = 1 → (inR y1_1) ∧ ∃ X43 : Prop, (X43 → X48 1) ∧ (y1_1 = (-1) → X43) ∧ (¬ (y1_1 = (-1)) → wp_X12_more y2_2 sg (fun r14 => (inR (100 + r14)) ∧ (y1_1 ≤ 100 + r14 → X47) ∧ (¬ (y1_1 ≤ 100 + r14) → X43)))) ∧ (¬ (zand (zshr r5 y2_2) 1 = 1) → X47)))) ∧ ∃ k16, I4 k16 (-1) 0

def wp_X12_turns (a1 : Int) (sg : Mem) (Q : Mem → Prop) : Prop :=
  ∀ x2_1 : Int, x2_1 = sg 67 0 → (inR a1) ∧ (a1 = 1 → ((0 ≤ x2_1 ∧ x2_1 < 13)) ∧ ∀ x3_4 : Int, x3_4 = sg 69 x2_1.toNat → ∃ I22 : Nat → Int → Mem → Prop, (∀ (k22 : Nat) (y4_5 : Int) (s6 : Mem), I22 k22 y4_5 s6 → (inR y4_5) ∧ (y4_5 ≤ 1 → ∀ s8 : Mem, s8 = up2 s6 69 1 x3_4 → Q s8) ∧ (¬ (y4_5 ≤ 1) → ((0 ≤ y4_5 - 1 ∧ y4_5 - 1 < 13)) ∧ ((0 ≤ y4_5 ∧ y4_5 < 13)) ∧ ∀ s11 : Mem, s11 = up2 s6 69 y4_5.toNat (s6 69 (y4_5 - 1).toNat) → ∀ x4_12 : Int, x4_12 = y4_5 + (-1) → ∃ k13, k13 < k22 ∧ I22 k13 x4_12 s11)) ∧ ∃ k14, I22 k14 x2_1 sg) ∧ (¬ (a1 = 1) → (a1 = 2 → ∀ x3_15 : Int, x3_15 = sg 69 1 → ∃ I75 : Nat → Int → Mem → Prop, (∀ (k75 : Nat) (y4_16 : Int) (s17 : Mem), I75 k75 y4_16 s17 → (inR y4_16) ∧ (inR x2_1) ∧ (x2_1 ≤ y4_16 → ((0 ≤ x2_1 ∧ x2_1 < 13)) ∧ ∀ s21 : Mem, s21 = up2 s17 69 x2_1.toNat x3_15 → Q s21) ∧ (¬ (x2_1 ≤ y4_16) → ((0 ≤ y4_16 + 1 ∧ y4_16 + 1 < 13)) ∧ ((0 ≤ y4_16 ∧ y4_16 < 13)) ∧ ∀ s24 : Mem, s24 = up2 s17 69 y4_16.toNat (s17 69 (y4_16 + 1).toNat) → ∀ x4_25 : Int, x4_25 = y4_16 + 1 → ∃ k26, k26 < k75 ∧ I75 k26 x4_25 s24)) ∧ ∃ k27, I75 k27 1 sg) ∧ (¬ (a1 = 2) → (a1 = 3 → ∀ x3_28 : Int, x3_28 = sg 69 1 → ((0 ≤ x2_1 ∧ x2_1 < 13)) ∧ ∀ s30 : Mem, s30 = up2 sg 69 1 (sg 69 x2_1.toNat) → ∀ s31 : Mem, s31 = up2 s30 69 x2_1.toNat x3_28 → Q s31) ∧ (¬ (a1 = 3) → Q sg)))

def wp_X12_goesOn (a1 : Int) (sg : Mem) (Q : Mem → Prop) : Prop :=
  wp_X12_turns a1 sg (fun s1 => ∀ x2_2 : Int, x2_2 = s1 67 0 → ∃ I14 : Nat → Int → Mem → Prop, (∀ (k14 : Nat) (y3_3 : Int) (s4 : Mem), I14 k14 y3_3 s4 → (inR y3_3) ∧ (inR (s4 67 2)) ∧ (s4 67 2 ≤ y3_3 → ∃ I187 : Nat → Int → Mem → Prop, (∀ (k187 : Nat) (y3_7 : Int) (s8 : Mem), I187 k187 y3_7 s8 → (inR y3_7) ∧ (inR (s8 67 2)) ∧ (s8 67 2 ≤ y3_7 → ∀ s11 : Mem, s11 = up2 s8 69 0 ((s8 69 0) + 1) → Q s11) ∧ (¬ (s8 67 2 ≤ y3_7) → ((0 ≤ 7 + y3_7 ∧ 7 + y3_7 < 13)) ∧ ((0 ≤ y3_7 ∧ y3_7 < 6)) ∧ ∀ x4_14 : Int, x4_14 = (s8 69 (7 + y3_7).toNat) + (s8 70 y3_7.toNat) → (inR x4_14) ∧ ∀ v16 : Int, v16 = (if 0 ≤ x4_14 then if x4_14 ≤ 99 then x4_14 else 99 else 0) → ∀ s17 : Mem, s17 = up2 s8 69 (7 + y3_7).toNat v16 → ∀ x3_18 : Int, x3_18 = y3_7 + 1 → ∃ k19, k19 < k187 ∧ I187 k19 x3_18 s17)) ∧ ∃ k22, I187 k22 0 s4) ∧ (¬ (s4 67 2 ≤ y3_3) → wp_X12_placeOf y3_3 s4 (fun r23 => (inR r23) ∧ ∃ X179 : Mem → Prop, (∀ (s25 : Mem), X179 s25 → ∀ x3_26 : Int, x3_26 = y3_3 + 1 → ∃ k27, k27 < k14 ∧ I14 k27 x3_26 s25) ∧ (r23 = (-1) → wp_X12_loses y3_3 s4 (fun r28 => ((0 ≤ y3_3 ∧ y3_3 < 6)) ∧ ∀ s30 : Mem, s30 = up2 s4 70 y3_3.toNat ((-2) * r28) → X179 s30)) ∧ (¬ (r23 = (-1)) → (((r23 ≤ 0 → ((inR (s4 67 1)) ∧ ((s4 67 1 = 1 → ((inR x2_2) ∧ ((x2_2 ≤ 2 → True) ∧ (¬ (x2_2 ≤ 2) → (((0 ≤ x2_2 ∧ x2_2 < 13))))))) ∧ (¬ (s4 67 1 = 1) → True)))) ∧ (¬ (r23 ≤ 0) → (((0 ≤ r23 ∧ r23 < 13)))))) ∧ ∀ v35 : Int, v35 = (if r23 ≤ 0 then if s4 67 1 = 1 then if x2_2 ≤ 2 then (-1) else s4 69 x2_2.toNat else (-1) else s4 69 r23.toNat) → (inR (x2_2 - 1)) ∧ (((x2_2 - 1 ≤ r23 → ((inR (s4 67 1)) ∧ ((s4 67 1 = 1 → ((inR x2_2))) ∧ (¬ (s4 67 1 = 1) → True)))) ∧ (¬ (x2_2 - 1 ≤ r23) → (((0 ≤ r23 + 2 ∧ r23 + 2 < 13)))))) ∧ ∀ v40 : Int, v40 = (if x2_2 - 1 ≤ r23 then if s4 67 1 = 1 then if x2_2 ≤ 2 then (-1) else s4 69 1 else (-1) else s4 69 (r23 + 2).toNat) → ((0 ≤ 6 + r23 ∧ 6 + r23 < 44)) ∧ wp_X12_gives v35 s4 (fun r42 => wp_X12_gives v40 s4 (fun r43 => wp_X12_loses y3_3 s4 (fun r44 => ((0 ≤ y3_3 ∧ y3_3 < 6)) ∧ ∀ s46 : Mem, s46 = up2 s4 70 y3_3.toNat ((((s4 67 (6 + r23).toNat) + r42) + r43) - r44) → X179 s46))))))) ∧ ∃ k53, I14 k53 0 s1)

def wp_X12_lawful (sg : Mem) (Q : Int → Prop) : Prop :=
  (inR (sg 69 0)) ∧ (inR (sg 67 3)) ∧ (sg 67 3 ≠ 0) ∧ ((0 ≤ 36 + (Int.tmod (sg 69 0) (sg 67 3)) ∧ 36 + (Int.tmod (sg 69 0) (sg 67 3)) < 44)) ∧ Q (sg 67 (36 + (Int.tmod (sg 69 0) (sg 67 3))).toNat)

def wp_X12_told (a1 : Int) (sg : Mem) (Q : Int → Prop) : Prop :=
  (inR a1) ∧ (a1 = 0 → ((0 ≤ a1 ∧ a1 < 44)) ∧ Q (sg 67 a1.toNat)) ∧ (a1 = 1 → ((0 ≤ a1 ∧ a1 < 44)) ∧ Q (sg 67 a1.toNat)) ∧ (a1 = 2 → ((0 ≤ a1 ∧ a1 < 44)) ∧ Q (sg 67 a1.toNat)) ∧ (a1 = 3 → ((0 ≤ a1 ∧ a1 < 44)) ∧ Q (sg 67 a1.toNat)) ∧ (a1 = 4 → Q (sg 65 3)) ∧ (a1 = 5 → Q (sg 69 0)) ∧ (a1 = 6 → wp_X12_inBed sg (fun r6 => Q (zand ((zshl 1 (sg 67 2)) - 1) (zxor r6 (-1))))) ∧ (a1 = 7 → wp_X12_awake sg (fun r7 => Q r7)) ∧ (a1 = 8 → wp_X12_coldest sg (fun r8 => Q r8)) ∧ (a1 = 9 → Q (sg 65 18)) ∧ (a1 = 10 → Q (sg 65 21)) ∧ (a1 = 11 → Q (sg 65 11)) ∧ ((a1 < 0 ∨ 11 < a1) → Q (-1000000002))

def wp_X12_place (a1 : Int) (a2 : Int) (sg : Mem) (Q : Int → Prop) : Prop :=
  wp_X12_isPlace a1 sg (fun r1 => (inR r1) ∧ (r1 = 0 → Q (-1000000001)) ∧ (¬ (r1 = 0) → (inR a2) ∧ (a2 = 0 → ((0 ≤ 6 + a1 ∧ 6 + a1 < 44)) ∧ Q (sg 67 (6 + a1).toNat)) ∧ (¬ (a2 = 0) → (a2 = 1 → ((0 ≤ 1 + a1 ∧ 1 + a1 < 13)) ∧ Q (sg 69 (1 + a1).toNat)) ∧ (¬ (a2 = 1) → Q (-1000000002)))))

def wp_X12_sleeper (a1 : Int) (a2 : Int) (sg : Mem) (Q : Int → Prop) : Prop :=
  wp_X12_isSleeper a1 sg (fun r1 => (inR r1) ∧ (r1 = 0 → Q (-1000000001)) ∧ (¬ (r1 = 0) → (inR a2) ∧ (a2 = 0 → ((0 ≤ 7 + a1 ∧ 7 + a1 < 13)) ∧ Q (sg 69 (7 + a1).toNat)) ∧ (¬ (a2 = 0) → wp_X12_in a2 1 3 sg (fun r5 => (inR r5) ∧ (r5 = 0 → (a2 = 4 → wp_X12_placeOf a1 sg (fun r7 => Q r7)) ∧ (¬ (a2 = 4) → Q (-1000000002))) ∧ (¬ (r5 = 0) → ((0 ≤ (12 + (4 * a1)) + a2 ∧ (12 + (4 * a1)) + a2 < 44)) ∧ Q (sg 67 ((12 + (4 * a1)) + a2).toNat))))))

def wp_X12_rule (a1 : Int) (sg : Mem) (Q : Int → Prop) : Prop :=
  (inR a1) ∧ (inR ((sg 67 3) - 1)) ∧ wp_X12_in a1 0 ((sg 67 3) - 1) sg (fun r3 => (inR r3) ∧ (r3 = 0 → Q (-1)) ∧ (¬ (r3 = 0) → ((0 ≤ 36 + a1 ∧ 36 + a1 < 44)) ∧ Q (sg 67 (36 + a1).toNat)))

def wp_X12_notes (sg : Mem) (Q : Mem → Prop) : Prop :=
  (inR (sg 65 11)) ∧ ∃ X46 : Mem → Prop, (∀ (s2 : Mem), X46 s2 → ∃ I48 : Nat → Int → Mem → Prop, (∀ (k48 : Nat) (y1_3 : Int) (s4 : Mem), I48 k48 y1_3 s4 → (inR y1_3) ∧ (13 ≤ y1_3 → ∀ s6 : Mem, s6 = up2 s4 65 11 ((s4 65 11) + 1) → Q s6) ∧ (¬ (13 ≤ y1_3) → ((0 ≤ y1_3 ∧ y1_3 < 13)) ∧ ((0 ≤ (13 * (s4 65 11)) + y1_3 ∧ (13 * (s4 65 11)) + y1_3 < 390)) ∧ ∀ s9 : Mem, s9 = up2 s4 71 ((13 * (s4 65 11)) + y1_3).toNat (s4 69 y1_3.toNat) → ∀ x1_10 : Int, x1_10 = y1_3 + 1 → ∃ k11, k11 < k48 ∧ I48 k11 x1_10 s9)) ∧ ∃ k12, I48 k12 0 s2) ∧ (sg 65 11 = 30 → ∃ I12 : Nat → Int → Mem → Prop, (∀ (k12 : Nat) (y1_13 : Int) (s14 : Mem), I12 k12 y1_13 s14 → (inR y1_13) ∧ (390 ≤ y1_13 → ∀ s16 : Mem, s16 = up2 s14 65 11 29 → X46 s16) ∧ (¬ (390 ≤ y1_13) → ((0 ≤ y1_13 ∧ y1_13 < 390)) ∧ ((0 ≤ y1_13 - 13 ∧ y1_13 - 13 < 390)) ∧ ∀ s19 : Mem, s19 = up2 s14 71 (y1_13 - 13).toNat (s14 71 y1_13.toNat) → ∀ x1_20 : Int, x1_20 = y1_13 + 1 → ∃ k21, k21 < k12 ∧ I12 k21 x1_20 s19)) ∧ ∃ k22, I12 k22 13 sg) ∧ (¬ (sg 65 11 = 30) → X46 sg)

def wp_X12_refusal (sg : Mem) (Q : Int → Prop) : Prop :=
  (inR (sg 67 0)) ∧ (sg 67 0 = 0 → Q (-1000000003)) ∧ (¬ (sg 67 0 = 0) → (inR (sg 69 0)) ∧ (sg 69 0 ≤ 90000 → Q 0) ∧ (¬ (sg 69 0 ≤ 90000) → Q (-1000000004)))

def wp_X12_hour (a1 : Int) (sg : Mem) (Q : Int → Mem → Prop) : Prop :=
  (inR a1) ∧ wp_X12_in a1 0 3 sg (fun r2 => (inR r2) ∧ (r2 = 0 → Q (-1000000001) sg) ∧ (¬ (r2 = 0) → wp_X12_refusal sg (fun r4 => (inR r4) ∧ (0 ≤ r4 → wp_X12_notes sg (fun s6 => wp_X12_goesOn a1 s6 (fun s7 => wp_X12_coldest s7 (fun r8 => Q r8 s7)))) ∧ (¬ (0 ≤ r4) → wp_X12_refusal sg (fun r9 => Q r9 sg)))))

def wp_X12_night (a1 : Int) (sg : Mem) (Q : Int → Mem → Prop) : Prop :=
  (inR a1) ∧ wp_X12_in a1 1 99 sg (fun r2 => (inR r2) ∧ (r2 = 0 → Q (-1000000002) sg) ∧ (¬ (r2 = 0) → wp_X12_refusal sg (fun r4 => (inR r4) ∧ (0 ≤ r4 → ∃ I29 : Nat → Int → Mem → Prop, (∀ (k29 : Nat) (y2_6 : Int) (s7 : Mem), I29 k29 y2_6 s7 → (inR y2_6) ∧ (a1 ≤ y2_6 → wp_X12_coldest s7 (fun r9 => Q r9 s7)) ∧ (¬ (a1 ≤ y2_6) → wp_X12_notes s7 (fun s10 => wp_X12_lawful s10 (fun r11 => wp_X12_goesOn r11 s10 (fun s12 => ∀ x2_13 : Int, x2_13 = y2_6 + 1 → ∃ k14, k14 < k29 ∧ I29 k14 x2_13 s12))))) ∧ ∃ k15, I29 k15 0 sg) ∧ (¬ (0 ≤ r4) → wp_X12_refusal sg (fun r16 => Q r16 sg)))))

def wp_X12_getUp (a1 : Int) (sg : Mem) (Q : Int → Mem → Prop) : Prop :=
  wp_X12_isSleeper a1 sg (fun r1 => (inR r1) ∧ (r1 = 0 → Q (-1000000001) sg) ∧ (¬ (r1 = 0) → wp_X12_placeOf a1 sg (fun r3 => (inR r3) ∧ (r3 = (-1) → Q (-1000000003) sg) ∧ (¬ (r3 = (-1)) → wp_X12_notes sg (fun s5 => ∃ I31 : Nat → Int → Mem → Prop, (∀ (k31 : Nat) (y3_6 : Int) (s7 : Mem), I31 k31 y3_6 s7 → (inR y3_6) ∧ (inR ((s7 67 0) - 1)) ∧ ((s7 67 0) - 1 ≤ y3_6 → ((0 ≤ s7 67 0 ∧ s7 67 0 < 13)) ∧ ∀ s11 : Mem, s11 = up2 s7 69 (s7 67 0).toNat (-1) → Q r3 s11) ∧ (¬ ((s7 67 0) - 1 ≤ y3_6) → ((0 ≤ 2 + y3_6 ∧ 2 + y3_6 < 13)) ∧ ((0 ≤ 1 + y3_6 ∧ 1 + y3_6 < 13)) ∧ ∀ s14 : Mem, s14 = up2 s7 69 (1 + y3_6).toNat (s7 69 (2 + y3_6).toNat) → ∀ x3_15 : Int, x3_15 = y3_6 + 1 → ∃ k16, k16 < k31 ∧ I31 k16 x3_15 s14)) ∧ ∃ k17, I31 k17 r3 s5)))))

def wp_X12_comeIn (a1 : Int) (sg : Mem) (Q : Int → Mem → Prop) : Prop :=
  wp_X12_isSleeper a1 sg (fun r1 => (inR r1) ∧ (r1 = 0 → Q (-1000000001) sg) ∧ (¬ (r1 = 0) → wp_X12_placeOf a1 sg (fun r3 => (inR r3) ∧ (r3 = (-1) → wp_X12_notes sg (fun s5 => ∀ x2_6 : Int, x2_6 = (s5 67 0) - 1 → ∃ I36 : Nat → Int → Prop, (∀ (k36 : Nat) (y2_7 : Int), I36 k36 y2_7 → ((0 ≤ 1 + y2_7 ∧ 1 + y2_7 < 13)) ∧ (inR (s5 69 (1 + y2_7).toNat)) ∧ (s5 69 (1 + y2_7).toNat = (-1) → ∀ s10 : Mem, s10 = up2 s5 69 (1 + y2_7).toNat a1 → Q y2_7 s10) ∧ (¬ (s5 69 (1 + y2_7).toNat = (-1)) → ∀ x2_11 : Int, x2_11 = y2_7 + (-1) → ∃ k12, k12 < k36 ∧ I36 k12 x2_11)) ∧ ∃ k13, I36 k13 x2_6)) ∧ (¬ (r3 = (-1)) → Q (-1000000003) sg))))

def wp_X12_draws (a1 : Int) (sg : Mem) (Q : Int → Mem → Prop) : Prop :=
  (inR (sg 65 9)) ∧ (inL (((sg 65 9) * 1103515245) + 12345)) ∧ ∀ s3 : Mem, s3 = up2 sg 65 9 (Int.tmod (((sg 65 9) * 1103515245) + 12345) 2147483648) → (inR (s3 65 9)) ∧ (inR (Int.tdiv (s3 65 9) 65536)) ∧ (inR a1) ∧ (a1 ≠ 0) ∧ Q (Int.tmod (Int.tdiv (s3 65 9) 65536) a1) s3

def wp_X12_drift (a1 : Int) (sg : Mem) (Q : Int → Mem → Prop) : Prop :=
  (inR a1) ∧ wp_X12_in a1 1 99 sg (fun r2 => (inR r2) ∧ (r2 = 0 → Q (-1000000002) sg) ∧ (¬ (r2 = 0) → wp_X12_refusal sg (fun r4 => (inR r4) ∧ (0 ≤ r4 → ∃ I29 : Nat → Int → Mem → Prop, (∀ (k29 : Nat) (y2_6 : Int) (s7 : Mem), I29 k29 y2_6 s7 → (inR y2_6) ∧ (a1 ≤ y2_6 → wp_X12_coldest s7 (fun r9 => Q r9 s7)) ∧ (¬ (a1 ≤ y2_6) → wp_X12_notes s7 (fun s10 => wp_X12_draws 6 s10 (fun r11 s12 => (inR r11) ∧ ∃ X59 : Int → Prop, (∀ (v14 : Int), X59 v14 → wp_X12_goesOn v14 s12 (fun s15 => ∀ x2_16 : Int, x2_16 = y2_6 + 1 → ∃ k17, k17 < k29 ∧ I29 k17 x2_16 s15)) ∧ (4 ≤ r11 → wp_X12_lawful s12 (fun r18 => X59 r18)) ∧ (¬ (4 ≤ r11) → X59 r11))))) ∧ ∃ k19, I29 k19 0 sg) ∧ (¬ (0 ≤ r4) → wp_X12_refusal sg (fun r20 => Q r20 sg)))))

def wp_X12_undo (a1 : Int) (sg : Mem) (Q : Int → Mem → Prop) : Prop :=
  (inR a1) ∧ wp_X12_in a1 1 30 sg (fun r2 => (inR r2) ∧ (r2 = 0 → Q (-1000000002) sg) ∧ (¬ (r2 = 0) → (inR (sg 65 11)) ∧ (a1 ≤ sg 65 11 → ∀ s5 : Mem, s5 = up2 sg 65 11 ((sg 65 11) - a1) → ∃ I38 : Nat → Int → Mem → Prop, (∀ (k38 : Nat) (y2_6 : Int) (s7 : Mem), I38 k38 y2_6 s7 → (inR y2_6) ∧ (13 ≤ y2_6 → Q (s7 69 0) s7) ∧ (¬ (13 ≤ y2_6) → ((0 ≤ (13 * (s7 65 11)) + y2_6 ∧ (13 * (s7 65 11)) + y2_6 < 390)) ∧ ((0 ≤ y2_6 ∧ y2_6 < 13)) ∧ ∀ s11 : Mem, s11 = up2 s7 69 y2_6.toNat (s7 71 ((13 * (s7 65 11)) + y2_6).toNat) → ∀ x2_12 : Int, x2_12 = y2_6 + 1 → ∃ k13, k13 < k38 ∧ I38 k13 x2_12 s11)) ∧ ∃ k14, I38 k14 0 s5) ∧ (¬ (a1 ≤ sg 65 11) → Q (-1000000003) sg)))

def wp_X12_asides (sg : Mem) (Q : Mem → Prop) : Prop :=
  ∃ I2 : Nat → Int → Mem → Prop, (∀ (k2 : Nat) (y1_1 : Int) (s2 : Mem), I2 k2 y1_1 s2 → (inR y1_1) ∧ (13 ≤ y1_1 → Q s2) ∧ (¬ (13 ≤ y1_1) → ((0 ≤ y1_1 ∧ y1_1 < 13)) ∧ ∀ s5 : Mem, s5 = up2 s2 72 y1_1.toNat (s2 69 y1_1.toNat) → ∀ x1_6 : Int, x1_6 = y1_1 + 1 → ∃ k7, k7 < k2 ∧ I2 k7 x1_6 s5)) ∧ ∃ k8, I2 k8 0 sg

def wp_X12_backs (sg : Mem) (Q : Mem → Prop) : Prop :=
  ∃ I2 : Nat → Int → Mem → Prop, (∀ (k2 : Nat) (y1_1 : Int) (s2 : Mem), I2 k2 y1_1 s2 → (inR y1_1) ∧ (13 ≤ y1_1 → Q s2) ∧ (¬ (13 ≤ y1_1) → ((0 ≤ y1_1 ∧ y1_1 < 13)) ∧ ∀ s5 : Mem, s5 = up2 s2 69 y1_1.toNat (s2 72 y1_1.toNat) → ∀ x1_6 : Int, x1_6 = y1_1 + 1 → ∃ k7, k7 < k2 ∧ I2 k7 x1_6 s5)) ∧ ∃ k8, I2 k8 0 sg

def wp_X12_least (a1 : Int) (sg : Mem) (Q : Int → Prop) : Prop :=
  ∃ I2 : Nat → Int → Prop, (∀ (k2 : Nat) (y1_1 : Int), I2 k2 y1_1 → (inR (zand (zshr a1 y1_1) 1)) ∧ (zand (zshr a1 y1_1) 1 = 0 → ∀ x1_3 : Int, x1_3 = y1_1 + 1 → ∃ k4, k4 < k2 ∧ I2 k4 x1_3) ∧ (¬ (zand (zshr a1 y1_1) 1 = 0) → Q y1_1)) ∧ ∃ k5, I2 k5 0

def wp_X12_firstAwake (a1 : Int) (sg : Mem) (Q : Int → Mem → Prop) : Prop :=
  (inR a1) ∧ wp_X12_in a1 0 1 sg (fun r2 => (inR r2) ∧ (r2 = 0 → Q (-1000000002) sg) ∧ (¬ (r2 = 0) → wp_X12_asides sg (fun s4 => ∃ I21 : Nat → Int → Int → Mem → Prop, (∀ (k21 : Nat) (y2_5 : Int) (y3_6 : Int) (s7 : Mem), I21 k21 y2_5 y3_6 s7 → (inR y3_6) ∧ ∃ X80 : Prop, (X80 → wp_X12_backs s7 (fun s9 => Q y2_5 s9)) ∧ (100 ≤ y3_6 → X80) ∧ (¬ (100 ≤ y3_6) → (inR y2_5) ∧ (y2_5 = (-1) → wp_X12_inBed s7 (fun r11 => (inR r11) ∧ (r11 = 0 → X80) ∧ (¬ (r11 = 0) → wp_X12_awake s7 (fun r13 => (inR r13) ∧ ∃ X65 : Int → Prop, (∀ (v15 : Int), X65 v15 → wp_X12_lawful s7 (fun r16 => wp_X12_goesOn r16 s7 (fun s17 => ∀ x3_18 : Int, x3_18 = y3_6 + 1 → ∃ k19, k19 < k21 ∧ I21 k19 v15 x3_18 s17))) ∧ (r13 = 0 → X65 (-1)) ∧ (¬ (r13 = 0) → (a1 = 0 → X65 y3_6) ∧ (¬ (a1 = 0) → wp_X12_awake s7 (fun r20 => wp_X12_least r20 s7 (fun r21 => X65 r21)))))))) ∧ (¬ (y2_5 = (-1)) → X80))) ∧ ∃ k22, I21 k22 (-1) 0 s4)))

def wp_X12_power (a1 : Int) (sg : Mem) (Q : Int → Prop) : Prop :=
  Q (zshl 1 (2 * a1))

def wp_X12_word (a1 : Int) (a2 : Int) (a3 : Int) (sg : Mem) (Q : Int → Prop) : Prop :=
  Q (zand (zshr a1 (2 * ((a2 - 1) - a3))) 3)

def wp_X12_sleeps (a1 : Int) (a2 : Int) (a3 : Int) (sg : Mem) (Q : Int → Mem → Prop) : Prop :=
  ∃ I6 : Nat → Int → Int → Mem → Prop, (∀ (k6 : Nat) (y4_1 : Int) (y5_2 : Int) (s3 : Mem), I6 k6 y4_1 y5_2 s3 → (inR y5_2) ∧ (inR a3) ∧ (a3 ≤ y5_2 → (y4_1 = 0 ∨ y4_1 = 1) ∧ Q y4_1 s3) ∧ (¬ (a3 ≤ y5_2) → (inR y4_1) ∧ (y4_1 = 0 → (y4_1 = 0 ∨ y4_1 = 1) ∧ Q y4_1 s3) ∧ (¬ (y4_1 = 0) → (inR a2) ∧ (a2 ≠ 0) ∧ wp_X12_word a1 a2 (Int.tmod y5_2 a2) s3 (fun r9 => wp_X12_goesOn r9 s3 (fun s10 => wp_X12_awake s10 (fun r11 => (inR r11) ∧ ∀ v13 : Int, v13 = (if r11 = 0 then 1 else 0) → ∀ x5_14 : Int, x5_14 = y5_2 + 1 → ∃ k15, k15 < k6 ∧ I6 k15 v13 x5_14 s10)))))) ∧ ∃ k17, I6 k17 1 0 sg

def wp_X12_turnsFor (a1 : Int) (a2 : Int) (sg : Mem) (Q : Int → Mem → Prop) : Prop :=
  (inR a1) ∧ wp_X12_in a1 1 5 sg (fun r2 => (inR r2) ∧ (r2 = 0 → Q (-1000000002) sg) ∧ (¬ (r2 = 0) → wp_X12_inBed sg (fun r4 => (inR r4) ∧ (r4 = 0 → Q (-1000000003) sg) ∧ (¬ (r4 = 0) → wp_X12_asides sg (fun s6 => ∃ I40 : Nat → Int → Int → Int → Int → Mem → Prop, (∀ (k40 : Nat) (y3_7 : Int) (y4_8 : Int) (y5_9 : Int) (y6_10 : Int) (s11 : Mem), I40 k40 y3_7 y4_8 y5_9 y6_10 s11 → wp_X12_power a1 s11 (fun r12 => (inR y6_10) ∧ (inR r12) ∧ (r12 ≤ y6_10 → (inR y3_7) ∧ (y3_7 = (-1) → Q (-1) s11) ∧ (¬ (y3_7 = (-1)) → (inR a2) ∧ (a2 = (-1) → Q y4_8 s11) ∧ (¬ (a2 = (-1)) → (inR (a1 - 1)) ∧ wp_X12_in a2 0 (a1 - 1) s11 (fun r18 => (inR r18) ∧ (r18 = 0 → Q (-1) s11) ∧ (¬ (r18 = 0) → wp_X12_word y3_7 a1 a2 s11 (fun r20 => Q r20 s11)))))) ∧ (¬ (r12 ≤ y6_10) → wp_X12_sleeps y6_10 a1 a1 s11 (fun r21 s22 => wp_X12_coldest s22 (fun r23 => ∃ I71 : Nat → Int → Int → Prop, (∀ (k71 : Nat) (y9_24 : Int) (y10_25 : Int), I71 k71 y9_24 y10_25 → (inR y10_25) ∧ (a1 ≤ y10_25 → wp_X12_backs s22 (fun s27 => (inR r21) ∧ (((r21 = 0 → True) ∧ (¬ (r21 = 0) → ((inR r23) ∧ (inR y4_8) ∧ ((y4_8 < r23 → True) ∧ (¬ (y4_8 < r23) → (((r23 = y4_8 → ((inR y9_24) ∧ (inR y5_9))) ∧ (¬ (r23 = y4_8) → True))))))))) ∧ ∀ y3_33 : Int, y3_33 = (if r21 = 0 then y3_7 else if y4_8 < r23 then y6_10 else if r23 = y4_8 then if y5_9 ≤ y9_24 then y3_7 else y6_10 else y3_7) → ∀ y4_34 : Int, y4_34 = (if r21 = 0 then y4_8 else if y4_8 < r23 then r23 else if r23 = y4_8 then if y5_9 ≤ y9_24 then y4_8 else r23 else y4_8) → ∀ y5_35 : Int, y5_35 = (if r21 = 0 then y5_9 else if y4_8 < r23 then y9_24 else if r23 = y4_8 then if y5_9 ≤ y9_24 then y5_9 else y9_24 else y5_9) → ∀ x6_36 : Int, x6_36 = y6_10 + 1 → ∃ k37, k37 < k40 ∧ I40 k37 y3_33 y4_34 y5_35 x6_36 s27)) ∧ (¬ (a1 ≤ y10_25) → wp_X12_word y6_10 a1 y10_25 s22 (fun r42 => (inR r42) ∧ ∀ v44 : Int, v44 = (if r42 = 0 then 0 else 1) → ∀ x9_45 : Int, x9_45 = y9_24 + v44 → ∀ x10_46 : Int, x10_46 = y10_25 + 1 → ∃ k47, k47 < k71 ∧ I71 k47 x9_45 x10_46))) ∧ ∃ k49, I71 k49 0 0))))) ∧ ∃ k50, I40 k50 (-1) (-1) 0 0 s6)))))

def wp_X12_rhyme (a1 : Int) (a2 : Int) (sg : Mem) (Q : Int → Mem → Prop) : Prop :=
  (inR a1) ∧ wp_X12_in a1 1 30 sg (fun r2 => (inR r2) ∧ (r2 = 0 → Q (-1000000002) sg) ∧ (¬ (r2 = 0) → wp_X12_inBed sg (fun r4 => (inR r4) ∧ (r4 = 0 → Q (-1000000003) sg) ∧ (¬ (r4 = 0) → wp_X12_asides sg (fun s6 => ∃ I31 : Nat → Int → Mem → Prop, (∀ (k31 : Nat) (y3_7 : Int) (s8 : Mem), I31 k31 y3_7 s8 → (inR y3_7) ∧ (5 ≤ y3_7 → Q (-1) s8) ∧ (¬ (5 ≤ y3_7) → ∃ I39 : Nat → Int → Mem → Prop, (∀ (k39 : Nat) (y4_10 : Int) (s11 : Mem), I39 k39 y4_10 s11 → wp_X12_power y3_7 s11 (fun r12 => (inR y4_10) ∧ (inR r12) ∧ (r12 ≤ y4_10 → ∀ x3_15 : Int, x3_15 = y3_7 + 1 → ∃ k16, k16 < k31 ∧ I31 k16 x3_15 s11) ∧ (¬ (r12 ≤ y4_10) → wp_X12_sleeps y4_10 y3_7 a1 s11 (fun r17 s18 => wp_X12_backs s18 (fun s19 => (inR r17) ∧ (r17 = 0 → ∀ x4_21 : Int, x4_21 = y4_10 + 1 → ∃ k22, k22 < k39 ∧ I39 k22 x4_21 s19) ∧ (¬ (r17 = 0) → (inR a2) ∧ (a2 = (-1) → Q y3_7 s19) ∧ (¬ (a2 = (-1)) → (inR (y3_7 - 1)) ∧ wp_X12_in a2 0 (y3_7 - 1) s19 (fun r25 => (inR r25) ∧ (r25 = 0 → Q (-1) s19) ∧ (¬ (r25 = 0) → wp_X12_word y4_10 y3_7 a2 s19 (fun r27 => Q r27 s19)))))))))) ∧ ∃ k28, I39 k28 0 s8)) ∧ ∃ k29, I31 k29 1 s6)))))

def wp_X12_laid (a1 : Int) (a2 : Int) (sg : Mem) (Q : Int → Mem → Prop) : Prop :=
  (inR a1) ∧ wp_X12_in a1 1 9 sg (fun r2 => (inR r2) ∧ (r2 = 0 → Q (-1000000002) sg) ∧ (¬ (r2 = 0) → ∃ I20 : Nat → Int → Int → Mem → Prop, (∀ (k20 : Nat) (y3_4 : Int) (y4_5 : Int) (s6 : Mem), I20 k20 y3_4 y4_5 s6 → (inR y4_5) ∧ (inR (s6 67 0)) ∧ (s6 67 0 ≤ y4_5 → (inR y3_4) ∧ (y3_4 = 0 → Q (-1) s6) ∧ (¬ (y3_4 = 0) → wp_X12_asides s6 (fun s10 => wp_X12_inBed s10 (fun r11 => ∃ I83 : Nat → Int → Int → Prop, (∀ (k83 : Nat) (y5_12 : Int) (y6_13 : Int), I83 k83 y5_12 y6_13 → (inR y6_13) ∧ (y3_4 ≤ y6_13 → ∃ I108 : Nat → Int → Int → Mem → Prop, (∀ (k108 : Nat) (y6_15 : Int) (y7_16 : Int) (s17 : Mem), I108 k108 y6_15 y7_16 s17 → (inR y7_16) ∧ (inR y5_12) ∧ (y5_12 ≤ y7_16 → (inR a2) ∧ (a2 = (-1) → Q y6_15 s17) ∧ (¬ (a2 = (-1)) → (inR (y3_4 - 1)) ∧ wp_X12_in a2 0 (y3_4 - 1) s17 (fun r22 => (inR r22) ∧ (r22 = 0 → Q (-1) s17) ∧ (¬ (r22 = 0) → ((0 ≤ a2 ∧ a2 < 6)) ∧ Q (s17 75 a2.toNat) s17)))) ∧ (¬ (y5_12 ≤ y7_16) → ∀ x10_25 : Int, x10_25 = y3_4 - 1 → ∃ I127 : Nat → Int → Int → Int → Mem → Prop, (∀ (k127 : Nat) (y8_26 : Int) (y9_27 : Int) (y10_28 : Int) (s29 : Mem), I127 k127 y8_26 y9_27 y10_28 s29 → (inR y10_28) ∧ (y10_28 < 0 → (inR y8_26) ∧ (inR r11) ∧ ∃ X296 : Int → Mem → Prop, (∀ (y6_33 : Int) (s34 : Mem), X296 y6_33 s34 → ∀ x7_35 : Int, x7_35 = y7_16 + 1 → ∃ k36, k36 < k108 ∧ I108 k36 y6_33 x7_35 s34) ∧ (y8_26 = r11 → ∃ I181 : Nat → Int → Mem → Prop, (∀ (k181 : Nat) (y10_37 : Int) (s38 : Mem), I181 k181 y10_37 s38 → (inR y10_37) ∧ (y3_4 ≤ y10_37 → ∃ I217 : Nat → Int → Mem → Prop, (∀ (k217 : Nat) (y10_40 : Int) (s41 : Mem), I217 k217 y10_40 s41 → (inR y10_40) ∧ (a1 ≤ y10_40 → wp_X12_coldest s41 (fun r43 => ∃ I243 : Nat → Int → Mem → Prop, (∀ (k243 : Nat) (y11_44 : Int) (s45 : Mem), I243 k243 y11_44 s45 → (inR y11_44) ∧ ∃ X276 : Prop, (X276 → (inR r43) ∧ (inR y6_15) ∧ ∀ v49 : Int, v49 = (if r43 ≤ y6_15 then y6_15 else r43) → wp_X12_backs s45 (fun s50 => X296 v49 s50)) ∧ (y3_4 ≤ y11_44 → X276) ∧ (¬ (y3_4 ≤ y11_44) → (inR r43) ∧ (inR y6_15) ∧ (r43 ≤ y6_15 → X276) ∧ (¬ (r43 ≤ y6_15) → ((0 ≤ y11_44 ∧ y11_44 < 6)) ∧ ∀ s55 : Mem, s55 = up2 s45 75 y11_44.toNat (s45 74 y11_44.toNat) → ∀ x11_56 : Int, x11_56 = y11_44 + 1 → ∃ k57, k57 < k243 ∧ I243 k57 x11_56 s55))) ∧ ∃ k58, I243 k58 0 s41)) ∧ (¬ (a1 ≤ y10_40) → wp_X12_goesOn 0 s41 (fun s59 => ∀ x10_60 : Int, x10_60 = y10_40 + 1 → ∃ k61, k61 < k217 ∧ I217 k61 x10_60 s59))) ∧ ∃ k62, I217 k62 0 s38) ∧ (¬ (y3_4 ≤ y10_37) → ((0 ≤ y10_37 ∧ y10_37 < 6)) ∧ ((0 ≤ 1 + (s38 73 y10_37.toNat) ∧ 1 + (s38 73 y10_37.toNat) < 13)) ∧ ∀ s65 : Mem, s65 = up2 s38 69 (1 + (s38 73 y10_37.toNat)).toNat (s38 74 y10_37.toNat) → ∀ x10_66 : Int, x10_66 = y10_37 + 1 → ∃ k67, k67 < k181 ∧ I181 k67 x10_66 s65)) ∧ ∃ k68, I181 k68 0 s29) ∧ (¬ (y8_26 = r11) → X296 y6_15 s29)) ∧ (¬ (y10_28 < 0) → (inR y9_27) ∧ ((0 ≤ y10_28 ∧ y10_28 < 6)) ∧ ∀ s71 : Mem, s71 = up2 s29 74 y10_28.toNat (Int.tmod y9_27 6) → ∀ x9_72 : Int, x9_72 = Int.tdiv y9_27 6 → ∀ x8_73 : Int, x8_73 = zor y8_26 (zshl 1 (s71 74 y10_28.toNat)) → ∀ x10_74 : Int, x10_74 = y10_28 + (-1) → ∃ k75, k75 < k127 ∧ I127 k75 x8_73 x9_72 x10_74 s71)) ∧ ∃ k76, I127 k76 0 y7_16 x10_25 s17)) ∧ ∃ k77, I108 k77 (-1) 0 s10) ∧ (¬ (y3_4 ≤ y6_13) → ∀ x5_78 : Int, x5_78 = y5_12 * 6 → ∀ x6_79 : Int, x6_79 = y6_13 + 1 → ∃ k80, k80 < k83 ∧ I83 k80 x5_78 x6_79)) ∧ ∃ k81, I83 k81 1 0)))) ∧ (¬ (s6 67 0 ≤ y4_5) → ((0 ≤ 1 + y4_5 ∧ 1 + y4_5 < 13)) ∧ (inR (s6 69 (1 + y4_5).toNat)) ∧ ∃ X55 : Int → Mem → Prop, (∀ (y3_84 : Int) (s85 : Mem), X55 y3_84 s85 → ∀ x4_86 : Int, x4_86 = y4_5 + 1 → ∃ k87, k87 < k20 ∧ I20 k87 y3_84 x4_86 s85) ∧ (s6 69 (1 + y4_5).toNat = (-1) → X55 y3_4 s6) ∧ (¬ (s6 69 (1 + y4_5).toNat = (-1)) → ((0 ≤ y3_4 ∧ y3_4 < 6)) ∧ ∀ s89 : Mem, s89 = up2 s6 73 y3_4.toNat y4_5 → ∀ x3_90 : Int, x3_90 = y3_4 + 1 → X55 x3_90 s89))) ∧ ∃ k91, I20 k91 0 0 sg))

def wp_X12_change (a1 : Int) (sg : Mem) (Q : Int → Mem → Prop) : Prop :=
  wp_X12_asides sg (fun s1 => wp_X12_goesOn 0 s1 (fun s2 => ∃ I11 : Nat → Int → Mem → Prop, (∀ (k11 : Nat) (y2_3 : Int) (s4 : Mem), I11 k11 y2_3 s4 → (inR y2_3) ∧ (inR (s4 67 2)) ∧ (s4 67 2 ≤ y2_3 → wp_X12_backs s4 (fun s7 => ∃ I53 : Nat → Int → Int → Int → Mem → Prop, (∀ (k53 : Nat) (y2_8 : Int) (y3_9 : Int) (y4_10 : Int) (s11 : Mem), I53 k53 y2_8 y3_9 y4_10 s11 → (inR y4_10) ∧ (inR (s11 67 2)) ∧ (s11 67 2 ≤ y4_10 → (inR a1) ∧ (a1 = (-1) → Q y2_8 s11) ∧ (¬ (a1 = (-1)) → Q y3_9 s11)) ∧ (¬ (s11 67 2 ≤ y4_10) → ∀ x5_15 : Int, x5_15 = y4_10 + 1 → ∃ I70 : Nat → Int → Int → Int → Mem → Prop, (∀ (k70 : Nat) (y2_16 : Int) (y3_17 : Int) (y5_18 : Int) (s19 : Mem), I70 k70 y2_16 y3_17 y5_18 s19 → (inR y5_18) ∧ (inR (s19 67 2)) ∧ (s19 67 2 ≤ y5_18 → ∀ x4_22 : Int, x4_22 = y4_10 + 1 → ∃ k23, k23 < k53 ∧ I53 k23 y2_16 y3_17 x4_22 s19) ∧ (¬ (s19 67 2 ≤ y5_18) → wp_X12_placeOf y4_10 s19 (fun r24 => wp_X12_placeOf y5_18 s19 (fun r25 => (inR r24) ∧ ∃ X223 : Int → Int → Mem → Prop, (∀ (y2_27 : Int) (y3_28 : Int) (s29 : Mem), X223 y2_27 y3_28 s29 → ∀ x5_30 : Int, x5_30 = y5_18 + 1 → ∃ k31, k31 < k70 ∧ I70 k31 y2_27 y3_28 x5_30 s29) ∧ (r24 = (-1) → X223 y2_16 y3_17 s19) ∧ (¬ (r24 = (-1)) → (inR r25) ∧ (r25 = (-1) → X223 y2_16 y3_17 s19) ∧ (¬ (r25 = (-1)) → ((0 ≤ 1 + r24 ∧ 1 + r24 < 13)) ∧ ∀ s34 : Mem, s34 = up2 s19 69 (1 + r24).toNat y5_18 → ((0 ≤ 1 + r25 ∧ 1 + r25 < 13)) ∧ ∀ s36 : Mem, s36 = up2 s34 69 (1 + r25).toNat y4_10 → wp_X12_goesOn 0 s36 (fun s37 => ((0 ≤ 7 + y4_10 ∧ 7 + y4_10 < 13)) ∧ ((0 ≤ y4_10 ∧ y4_10 < 6)) ∧ (inR (s37 69 (7 + y4_10).toNat)) ∧ (inR (s37 74 y4_10.toNat)) ∧ (((s37 69 (7 + y4_10).toNat ≤ s37 74 y4_10.toNat → True) ∧ (¬ (s37 69 (7 + y4_10).toNat ≤ s37 74 y4_10.toNat) → (((0 ≤ 7 + y5_18 ∧ 7 + y5_18 < 13)) ∧ ((0 ≤ y5_18 ∧ y5_18 < 6)) ∧ (inR (s37 69 (7 + y5_18).toNat)) ∧ (inR (s37 74 y5_18.toNat)))))) ∧ ∀ v46 : Int, v46 = (if s37 69 (7 + y4_10).toNat ≤ s37 74 y4_10.toNat then 0 else if s37 69 (7 + y5_18).toNat ≤ s37 74 y5_18.toNat then 0 else 1) → wp_X12_backs s37 (fun s47 => (inR v46) ∧ (((v46 = 0 → True) ∧ (¬ (v46 = 0) → ((inR y2_16) ∧ (inR a1))))) ∧ ∀ v51 : Int, v51 = (if v46 = 0 then y3_17 else if y2_16 = a1 then (10 * y4_10) + y5_18 else y3_17) → ∀ v52 : Int, v52 = (if v46 = 0 then 0 else 1) → ∀ x2_53 : Int, x2_53 = y2_16 + v52 → X223 x2_53 v51 s47)))))))) ∧ ∃ k59, I70 k59 y2_8 y3_9 x5_15 s11)) ∧ ∃ k60, I53 k60 0 (-1) 0 s7)) ∧ (¬ (s4 67 2 ≤ y2_3) → ((0 ≤ 7 + y2_3 ∧ 7 + y2_3 < 13)) ∧ ((0 ≤ y2_3 ∧ y2_3 < 6)) ∧ ∀ s63 : Mem, s63 = up2 s4 74 y2_3.toNat (s4 69 (7 + y2_3).toNat) → ∀ x2_64 : Int, x2_64 = y2_3 + 1 → ∃ k65, k65 < k11 ∧ I11 k65 x2_64 s63)) ∧ ∃ k66, I11 k66 0 s2))

def wp_X12_isState (a1 : Int) (sg : Mem) (Q : Int → Prop) : Prop :=
  ∃ I4 : Nat → Int → Int → Prop, (∀ (k4 : Nat) (y2_1 : Int) (y3_2 : Int), I4 k4 y2_1 y3_2 → (inR y3_2) ∧ (13 ≤ y3_2 → (y2_1 = 0 ∨ y2_1 = 1) ∧ Q y2_1) ∧ (¬ (13 ≤ y3_2) → (inR y2_1) ∧ (((y2_1 = 0 → True) ∧ (¬ (y2_1 = 0) → (((0 ≤ ((12 * a1) + y3_2) - 1 ∧ ((12 * a1) + y3_2) - 1 < 2412)) ∧ ((0 ≤ y3_2 ∧ y3_2 < 13)) ∧ (inR (sg 76 (((12 * a1) + y3_2) - 1).toNat)) ∧ (inR (sg 69 y3_2.toNat)))))) ∧ ∀ v9 : Int, v9 = (if y2_1 = 0 then 0 else if sg 76 (((12 * a1) + y3_2) - 1).toNat = sg 69 y3_2.toNat then 1 else 0) → ∀ x3_10 : Int, x3_10 = y3_2 + 1 → ∃ k11, k11 < k4 ∧ I4 k11 v9 x3_10)) ∧ ∃ k14, I4 k14 1 1

def wp_X12_hottest (sg : Mem) (Q : Int → Prop) : Prop :=
  ∃ I4 : Nat → Int → Int → Prop, (∀ (k4 : Nat) (y1_1 : Int) (y2_2 : Int), I4 k4 y1_1 y2_2 → (inR y2_2) ∧ (inR (sg 67 0)) ∧ (sg 67 0 ≤ y2_2 → Q y1_1) ∧ (¬ (sg 67 0 ≤ y2_2) → ((0 ≤ 6 + y2_2 ∧ 6 + y2_2 < 44)) ∧ ((0 ≤ 6 + y1_1 ∧ 6 + y1_1 < 44)) ∧ (inR (sg 67 (6 + y2_2).toNat)) ∧ (inR (sg 67 (6 + y1_1).toNat)) ∧ ∀ v9 : Int, v9 = (if sg 67 (6 + y2_2).toNat ≤ sg 67 (6 + y1_1).toNat then y1_1 else y2_2) → ∀ x2_10 : Int, x2_10 = y2_2 + 1 → ∃ k11, k11 < k4 ∧ I4 k11 v9 x2_10)) ∧ ∃ k13, I4 k13 0 1

def wp_X12_steady (a1 : Int) (sg : Mem) (Q : Int → Mem → Prop) : Prop :=
  (inR a1) ∧ ∃ X16 : Prop, (X16 → (inR (sg 67 0)) ∧ (sg 67 0 = 0 → Q (-1000000003) sg) ∧ (¬ (sg 67 0 = 0) → wp_X12_asides sg (fun s3 => ∃ I36 : Nat → Int → Int → Mem → Prop, (∀ (k36 : Nat) (y2_4 : Int) (y3_5 : Int) (s6 : Mem), I36 k36 y2_4 y3_5 s6 → (inR y3_5) ∧ ∃ X163 : Prop, (X163 → ∃ I168 : Nat → Int → Int → Mem → Prop, (∀ (k168 : Nat) (y3_8 : Int) (y4_9 : Int) (s10 : Mem), I168 k168 y3_8 y4_9 s10 → (inR y4_9) ∧ (inR (y2_4 * (s10 67 3))) ∧ ∃ X223 : Prop, (X223 → wp_X12_backs s10 (fun s13 => (inR y2_4) ∧ (y2_4 = (-1) → Q (-1) s13) ∧ (¬ (y2_4 = (-1)) → (a1 = (-1) → Q y2_4 s13) ∧ (¬ (a1 = (-1)) → Q y3_8 s13)))) ∧ (y2_4 * (s10 67 3) ≤ y4_9 → X223) ∧ (¬ (y2_4 * (s10 67 3) ≤ y4_9) → (a1 = (-1) → X223) ∧ (¬ (a1 = (-1)) → wp_X12_lawful s10 (fun r15 => wp_X12_goesOn r15 s10 (fun s16 => wp_X12_hottest s16 (fun r17 => ((0 ≤ 1 + r17 ∧ 1 + r17 < 13)) ∧ (inR (s16 69 (1 + r17).toNat)) ∧ ∀ v20 : Int, v20 = (if s16 69 (1 + r17).toNat = a1 then 1 else 0) → ∀ x3_21 : Int, x3_21 = y3_8 + v20 → ∀ x4_22 : Int, x4_22 = y4_9 + 1 → ∃ k23, k23 < k168 ∧ I168 k23 x3_21 x4_22 s16)))))) ∧ ∃ k25, I168 k25 0 0 s6) ∧ (201 ≤ y3_5 → X163) ∧ (¬ (201 ≤ y3_5) → (inR y2_4) ∧ (y2_4 = (-1) → ∀ x4_27 : Int, x4_27 = y3_5 - 1 → ∃ I53 : Nat → Int → Int → Prop, (∀ (k53 : Nat) (y2_28 : Int) (y4_29 : Int), I53 k53 y2_28 y4_29 → (inR y4_29) ∧ ∃ X87 : Prop, (X87 → ∃ I90 : Nat → Int → Mem → Prop, (∀ (k90 : Nat) (y4_31 : Int) (s32 : Mem), I90 k90 y4_31 s32 → (inR y4_31) ∧ (13 ≤ y4_31 → ∃ I127 : Nat → Int → Mem → Prop, (∀ (k127 : Nat) (y4_34 : Int) (s35 : Mem), I127 k127 y4_34 s35 → (inR y4_34) ∧ (inR (s35 67 3)) ∧ ∃ X157 : Prop, (X157 → ∀ x3_38 : Int, x3_38 = y3_5 + 1 → ∃ k39, k39 < k36 ∧ I36 k39 y2_28 x3_38 s35) ∧ (s35 67 3 ≤ y4_34 → X157) ∧ (¬ (s35 67 3 ≤ y4_34) → (inR y2_28) ∧ (y2_28 = (-1) → wp_X12_lawful s35 (fun r41 => wp_X12_goesOn r41 s35 (fun s42 => ∀ x4_43 : Int, x4_43 = y4_34 + 1 → ∃ k44, k44 < k127 ∧ I127 k44 x4_43 s42))) ∧ (¬ (y2_28 = (-1)) → X157))) ∧ ∃ k45, I127 k45 0 s32) ∧ (¬ (13 ≤ y4_31) → ((0 ≤ y4_31 ∧ y4_31 < 13)) ∧ ((0 ≤ ((12 * y3_5) + y4_31) - 1 ∧ ((12 * y3_5) + y4_31) - 1 < 2412)) ∧ ∀ s48 : Mem, s48 = up2 s32 76 (((12 * y3_5) + y4_31) - 1).toNat (s32 69 y4_31.toNat) → ∀ x4_49 : Int, x4_49 = y4_31 + 1 → ∃ k50, k50 < k90 ∧ I90 k50 x4_49 s48)) ∧ ∃ k51, I90 k51 1 s6) ∧ (y4_29 < 0 → X87) ∧ (¬ (y4_29 < 0) → (inR y2_28) ∧ (y2_28 = (-1) → wp_X12_isState y4_29 s6 (fun r53 => (inR r53) ∧ ∀ v55 : Int, v55 = (if r53 = 0 then (-1) else y3_5 - y4_29) → ∀ x4_56 : Int, x4_56 = y4_29 + (-1) → ∃ k57, k57 < k53 ∧ I53 k57 v55 x4_56)) ∧ (¬ (y2_28 = (-1)) → X87))) ∧ ∃ k59, I53 k59 y2_4 x4_27) ∧ (¬ (y2_4 = (-1)) → X163))) ∧ ∃ k60, I36 k60 (-1) 0 s3))) ∧ (a1 = (-1) → X16) ∧ (¬ (a1 = (-1)) → wp_X12_isSleeper a1 sg (fun r61 => (inR r61) ∧ (r61 = 0 → Q (-1000000001) sg) ∧ (¬ (r61 = 0) → X16)))

def wp_X12_twoBeds (a1 : Int) (sg : Mem) (Q : Int → Prop) : Prop :=
  (inR a1) ∧ wp_X12_in a1 0 1 sg (fun r2 => (inR r2) ∧ (r2 = 0 → Q (-1000000002)) ∧ (¬ (r2 = 0) → (inR (sg 67 2)) ∧ (sg 67 2 = 0 → Q (-1)) ∧ (¬ (sg 67 2 = 0) → ∃ I31 : Nat → Int → Int → Int → Prop, (∀ (k31 : Nat) (y2_5 : Int) (y3_6 : Int) (y4_7 : Int), I31 k31 y2_5 y3_6 y4_7 → (inR y4_7) ∧ (inR (zshl 1 (sg 67 2))) ∧ (zshl 1 (sg 67 2) ≤ y4_7 → (a1 = 0 → Q y3_6) ∧ (¬ (a1 = 0) → Q y2_5)) ∧ (¬ (zshl 1 (sg 67 2) ≤ y4_7) → ∃ I50 : Nat → Int → Int → Prop, (∀ (k50 : Nat) (y5_10 : Int) (y6_11 : Int), I50 k50 y5_10 y6_11 → (inR y6_11) ∧ (sg 67 2 ≤ y6_11 → (inR y5_10) ∧ ∀ v14 : Int, v14 = (if 0 ≤ y5_10 then y5_10 else -y5_10) → (inR y2_5) ∧ (((y2_5 = (-1) → True) ∧ (¬ (y2_5 = (-1)) → ((inR v14) ∧ (inR y3_6))))) ∧ ∀ v18 : Int, v18 = (if y2_5 = (-1) then 1 else if y3_6 ≤ v14 then 0 else 1) → (inR v18) ∧ ∀ v20 : Int, v20 = (if v18 = 0 then y2_5 else y4_7) → ∀ v21 : Int, v21 = (if v18 = 0 then y3_6 else v14) → ∀ x4_22 : Int, x4_22 = y4_7 + 2 → ∃ k23, k23 < k31 ∧ I31 k23 v20 v21 x4_22) ∧ (¬ (sg 67 2 ≤ y6_11) → (inR (zand (zshr y4_7 y6_11) 1)) ∧ ∃ X90 : Int → Prop, (∀ (v30 : Int), X90 v30 → ∀ x5_31 : Int, x5_31 = y5_10 + v30 → ∀ x6_32 : Int, x6_32 = y6_11 + 1 → ∃ k33, k33 < k50 ∧ I50 k33 x5_31 x6_32) ∧ (zand (zshr y4_7 y6_11) 1 = 1 → wp_X12_gives y6_11 sg (fun r34 => X90 r34)) ∧ (¬ (zand (zshr y4_7 y6_11) 1 = 1) → wp_X12_gives y6_11 sg (fun r35 => X90 (-r35))))) ∧ ∃ k36, I50 k36 0 0)) ∧ ∃ k37, I31 k37 (-1) 0 1)))

def wp_X12_nobodyUp (a1 : Int) (a2 : Int) (sg : Mem) (Q : Int → Prop) : Prop :=
  (inR a1) ∧ wp_X12_in a1 1 50 sg (fun r2 => (inR r2) ∧ (r2 = 0 → Q (-1000000002)) ∧ (¬ (r2 = 0) → (inR a2) ∧ wp_X12_in a2 0 1000 sg (fun r5 => (inR r5) ∧ (r5 = 0 → Q (-1000000002)) ∧ (¬ (r5 = 0) → ∃ I34 : Nat → Int → Int → Prop, (∀ (k34 : Nat) (y3_7 : Int) (y5_8 : Int), I34 k34 y3_7 y5_8 → (inR y5_8) ∧ (inR (sg 67 0)) ∧ (sg 67 0 ≤ y5_8 → Q y3_7) ∧ (¬ (sg 67 0 ≤ y5_8) → ∃ I48 : Nat → Int → Int → Prop, (∀ (k48 : Nat) (y3_11 : Int) (y6_12 : Int), I48 k48 y3_11 y6_12 → (inR y6_12) ∧ ∃ X86 : Prop, (X86 → ∀ x5_14 : Int, x5_14 = y5_8 + 1 → ∃ k15, k15 < k34 ∧ I34 k15 y3_11 x5_14) ∧ (a1 ≤ y6_12 → X86) ∧ (¬ (a1 ≤ y6_12) → ((0 ≤ 1 + y5_8 ∧ 1 + y5_8 < 13)) ∧ (inR (sg 69 (1 + y5_8).toNat)) ∧ (sg 69 (1 + y5_8).toNat = (-1) → X86) ∧ (¬ (sg 69 (1 + y5_8).toNat = (-1)) → (inR (1000 - a2)) ∧ (inL (y3_11 * (1000 - a2))) ∧ ∀ x3_20 : Int, x3_20 = Int.tdiv (y3_11 * (1000 - a2)) 1000 → ∀ x6_21 : Int, x6_21 = y6_12 + 1 → ∃ k22, k22 < k48 ∧ I48 k22 x3_20 x6_21))) ∧ ∃ k23, I48 k23 y3_7 0)) ∧ ∃ k24, I34 k24 1000000000 0))))

def wp_X12_morning (a1 : Int) (a2 : Int) (sg : Mem) (Q : Int → Mem → Prop) : Prop :=
  wp_X12_isSleeper a1 sg (fun r1 => (inR r1) ∧ (r1 = 0 → Q (-1000000001) sg) ∧ (¬ (r1 = 0) → wp_X12_isPlace a2 sg (fun r3 => (inR r3) ∧ (r3 = 0 → Q (-1000000001) sg) ∧ (¬ (r3 = 0) → (inR (sg 65 18)) ∧ (sg 65 18 = 6 → Q (-1000000004) sg) ∧ (¬ (sg 65 18 = 6) → ((0 ≤ sg 65 18 ∧ sg 65 18 < 6)) ∧ ∀ s7 : Mem, s7 = up2 sg 77 (sg 65 18).toNat a1 → ((0 ≤ s7 65 18 ∧ s7 65 18 < 6)) ∧ ∀ s9 : Mem, s9 = up2 s7 78 (s7 65 18).toNat a2 → ∀ s10 : Mem, s10 = up2 s9 65 18 ((s9 65 18) + 1) → Q (s10 65 18) s10)))))

def wp_X12_counts (a1 : Int) (sg : Mem) (Q : Mem → Prop) : Prop :=
  wp_X12_asides sg (fun s1 => ∀ s2 : Mem, s2 = up2 s1 65 23 0 → ∀ s3 : Mem, s3 = up2 s2 65 24 0 → ∀ s4 : Mem, s4 = up2 s3 65 25 15 → ∃ I22 : Nat → Int → Mem → Prop, (∀ (k22 : Nat) (y2_5 : Int) (s6 : Mem), I22 k22 y2_5 s6 → wp_X12_power a1 s6 (fun r7 => (inR y2_5) ∧ (inR r7) ∧ (r7 ≤ y2_5 → Q s6) ∧ (¬ (r7 ≤ y2_5) → ∃ I35 : Nat → Int → Int → Mem → Prop, (∀ (k35 : Nat) (y3_10 : Int) (y4_11 : Int) (s12 : Mem), I35 k35 y3_10 y4_11 s12 → (inR y4_11) ∧ (inR a1) ∧ (a1 ≤ y4_11 → ∃ I76 : Nat → Int → Int → Prop, (∀ (k76 : Nat) (y4_15 : Int) (y5_16 : Int), I76 k76 y4_15 y5_16 → (inR y5_16) ∧ (inR (s12 65 18)) ∧ (s12 65 18 ≤ y5_16 → wp_X12_backs s12 (fun s19 => (inR y4_15) ∧ (((y4_15 = 0 → True) ∧ (¬ (y4_15 = 0) → ((inR (s19 65 23)))))) ∧ ∀ v22 : Int, v22 = (if y4_15 = 0 then s19 65 24 else if s19 65 23 = 0 then y2_5 else s19 65 24) → ∀ s23 : Mem, s23 = up2 s19 65 24 v22 → ∀ v24 : Int, v24 = (if y4_15 = 0 then 15 else y3_10) → ∀ s25 : Mem, s25 = up2 s23 65 25 (zand (s23 65 25) v24) → ∀ v26 : Int, v26 = (if y4_15 = 0 then 0 else 1) → ∀ s27 : Mem, s27 = up2 s25 65 23 ((s25 65 23) + v26) → ∀ x2_28 : Int, x2_28 = y2_5 + 1 → ∃ k29, k29 < k22 ∧ I22 k29 x2_28 s27)) ∧ (¬ (s12 65 18 ≤ y5_16) → (inR y4_15) ∧ (((y4_15 = 0 → True) ∧ (¬ (y4_15 = 0) → (((0 ≤ y5_16 ∧ y5_16 < 6)) ∧ ((0 ≤ 1 + (s12 78 y5_16.toNat) ∧ 1 + (s12 78 y5_16.toNat) < 13)) ∧ (inR (s12 69 (1 + (s12 78 y5_16.toNat)).toNat)) ∧ (inR (s12 77 y5_16.toNat)))))) ∧ ∀ v39 : Int, v39 = (if y4_15 = 0 then 0 else if s12 69 (1 + (s12 78 y5_16.toNat)).toNat = s12 77 y5_16.toNat then 1 else 0) → ∀ x5_40 : Int, x5_40 = y5_16 + 1 → ∃ k41, k41 < k76 ∧ I76 k41 v39 x5_40)) ∧ ∃ k44, I76 k44 1 0) ∧ (¬ (a1 ≤ y4_11) → wp_X12_word y2_5 a1 y4_11 s12 (fun r45 => wp_X12_turns r45 s12 (fun s46 => wp_X12_word y2_5 a1 y4_11 s46 (fun r47 => ∀ x3_48 : Int, x3_48 = zor y3_10 (zshl 1 r47) → ∀ x4_49 : Int, x4_49 = y4_11 + 1 → ∃ k50, k50 < k35 ∧ I35 k50 x3_48 x4_49 s46))))) ∧ ∃ k51, I35 k51 0 0 s6))) ∧ ∃ k52, I22 k52 0 s4)

def wp_X12_counted (a1 : Int) (a2 : Int) (sg : Mem) (Q : Int → Mem → Prop) : Prop :=
  (inR a1) ∧ wp_X12_in a1 1 5 sg (fun r2 => (inR r2) ∧ (r2 = 0 → Q (-1000000002) sg) ∧ (¬ (r2 = 0) → (inR (sg 67 0)) ∧ (sg 67 0 = 0 → Q (-1000000003) sg) ∧ (¬ (sg 67 0 = 0) → wp_X12_counts a1 sg (fun s5 => (inR a2) ∧ (a2 = (-1) → Q (s5 65 23) s5) ∧ (¬ (a2 = (-1)) → (inR (s5 65 23)) ∧ (s5 65 23 ≤ 0 → Q (-1) s5) ∧ (¬ (s5 65 23 ≤ 0) → (inR (a1 - 1)) ∧ wp_X12_in a2 0 (a1 - 1) s5 (fun r9 => (inR r9) ∧ (r9 = 0 → Q (-1) s5) ∧ (¬ (r9 = 0) → wp_X12_word (s5 65 24) a1 a2 s5 (fun r11 => Q r11 s5)))))))))

def wp_X12_sure (a1 : Int) (sg : Mem) (Q : Int → Mem → Prop) : Prop :=
  (inR a1) ∧ wp_X12_in a1 1 5 sg (fun r2 => (inR r2) ∧ (r2 = 0 → Q (-1000000002) sg) ∧ (¬ (r2 = 0) → (inR (sg 67 0)) ∧ (sg 67 0 = 0 → Q (-1000000003) sg) ∧ (¬ (sg 67 0 = 0) → wp_X12_counts a1 sg (fun s5 => (inR (s5 65 23)) ∧ (s5 65 23 ≤ 0 → Q 0 s5) ∧ (¬ (s5 65 23 ≤ 0) → Q (s5 65 25) s5)))))

def wp_X12_write (a1 : Int) (sg : Mem) (Q : Int → Mem → Prop) : Prop :=
  (inR a1) ∧ wp_X12_in a1 0 3 sg (fun r2 => (inR r2) ∧ (r2 = 0 → Q (-1000000001) sg) ∧ (¬ (r2 = 0) → (inR (sg 65 21)) ∧ (sg 65 21 = 20 → Q (-1000000004) sg) ∧ (¬ (sg 65 21 = 20) → ((0 ≤ sg 65 21 ∧ sg 65 21 < 20)) ∧ ∀ s6 : Mem, s6 = up2 sg 79 (sg 65 21).toNat a1 → ∀ s7 : Mem, s7 = up2 s6 65 21 ((s6 65 21) + 1) → Q (s7 65 21) s7)))

def wp_X12_judge (a1 : Int) (sg : Mem) (Q : Int → Mem → Prop) : Prop :=
  (inR a1) ∧ wp_X12_in a1 0 1 sg (fun r2 => (inR r2) ∧ (r2 = 0 → Q (-1000000002) sg) ∧ (¬ (r2 = 0) → wp_X12_inBed sg (fun r4 => (inR r4) ∧ (r4 = 0 → Q (-1000000003) sg) ∧ (¬ (r4 = 0) → wp_X12_asides sg (fun s6 => ∃ I31 : Nat → Int → Int → Mem → Prop, (∀ (k31 : Nat) (y2_7 : Int) (y3_8 : Int) (s9 : Mem), I31 k31 y2_7 y3_8 s9 → (inR y3_8) ∧ (inR (s9 65 21)) ∧ (s9 65 21 ≤ y3_8 → wp_X12_coldest s9 (fun r12 => wp_X12_backs s9 (fun s13 => (a1 = 0 → Q y2_7 s13) ∧ (¬ (a1 = 0) → Q r12 s13)))) ∧ (¬ (s9 65 21 ≤ y3_8) → ((0 ≤ y3_8 ∧ y3_8 < 20)) ∧ wp_X12_goesOn (s9 79 y3_8.toNat) s9 (fun s15 => (inR y2_7) ∧ ∃ X66 : Int → Prop, (∀ (v17 : Int), X66 v17 → ∀ x3_18 : Int, x3_18 = y3_8 + 1 → ∃ k19, k19 < k31 ∧ I31 k19 v17 x3_18 s15) ∧ ∃ X65 : Prop, (X65 → X66 y2_7) ∧ (y2_7 = (-1) → wp_X12_awake s15 (fun r20 => (inR r20) ∧ (r20 = 0 → X65) ∧ (¬ (r20 = 0) → X66 y3_8))) ∧ (¬ (y2_7 = (-1)) → X65)))) ∧ ∃ k22, I31 k22 (-1) 0 s6)))))

def wp_X12_tear (sg : Mem) (Q : Int → Mem → Prop) : Prop :=
  ∀ x1_1 : Int, x1_1 = (sg 65 18) + (sg 65 21) → ∀ s2 : Mem, s2 = up2 sg 65 18 0 → ∀ s3 : Mem, s3 = up2 s2 65 21 0 → Q x1_1 s3

def wp_X12_seed (a1 : Int) (sg : Mem) (Q : Int → Mem → Prop) : Prop :=
  (inR a1) ∧ (0 ≤ a1 → ∀ x2_2 : Int, x2_2 = sg 65 9 → ∀ s3 : Mem, s3 = up2 sg 65 9 a1 → Q x2_2 s3) ∧ (¬ (0 ≤ a1) → Q (-1000000002) sg)

def wp_X12_keep (a1 : Int) (sg : Mem) (Q : Int → Mem → Prop) : Prop :=
  (inR a1) ∧ wp_X12_in a1 0 1 sg (fun r2 => (inR r2) ∧ (r2 = 0 → Q (-1000000001) sg) ∧ (¬ (r2 = 0) → ((0 ≤ 15 * a1 ∧ 15 * a1 < 30)) ∧ ∀ s5 : Mem, s5 = up2 sg 80 (15 * a1).toNat 1 → ((0 ≤ (15 * a1) + 1 ∧ (15 * a1) + 1 < 30)) ∧ ∀ s7 : Mem, s7 = up2 s5 80 ((15 * a1) + 1).toNat (s5 65 9) → ∃ I40 : Nat → Int → Mem → Prop, (∀ (k40 : Nat) (y2_8 : Int) (s9 : Mem), I40 k40 y2_8 s9 → (inR y2_8) ∧ (13 ≤ y2_8 → ∀ s11 : Mem, s11 = up2 s9 65 11 0 → Q 1 s11) ∧ (¬ (13 ≤ y2_8) → ((0 ≤ y2_8 ∧ y2_8 < 13)) ∧ ((0 ≤ ((15 * a1) + 2) + y2_8 ∧ ((15 * a1) + 2) + y2_8 < 30)) ∧ ∀ s14 : Mem, s14 = up2 s9 80 (((15 * a1) + 2) + y2_8).toNat (s9 69 y2_8.toNat) → ∀ x2_15 : Int, x2_15 = y2_8 + 1 → ∃ k16, k16 < k40 ∧ I40 k16 x2_15 s14)) ∧ ∃ k17, I40 k17 0 s7))

def wp_X12_goBack (a1 : Int) (sg : Mem) (Q : Int → Mem → Prop) : Prop :=
  (inR a1) ∧ wp_X12_in a1 0 1 sg (fun r2 => (inR r2) ∧ (r2 = 0 → Q (-1000000001) sg) ∧ (¬ (r2 = 0) → ((0 ≤ 15 * a1 ∧ 15 * a1 < 30)) ∧ (inR (sg 80 (15 * a1).toNat)) ∧ (sg 80 (15 * a1).toNat = 0 → Q (-1000000003) sg) ∧ (¬ (sg 80 (15 * a1).toNat = 0) → ((0 ≤ (15 * a1) + 1 ∧ (15 * a1) + 1 < 30)) ∧ ∀ s7 : Mem, s7 = up2 sg 65 9 (sg 80 ((15 * a1) + 1).toNat) → ∃ I45 : Nat → Int → Mem → Prop, (∀ (k45 : Nat) (y2_8 : Int) (s9 : Mem), I45 k45 y2_8 s9 → (inR y2_8) ∧ (13 ≤ y2_8 → ∀ s11 : Mem, s11 = up2 s9 65 11 0 → Q 1 s11) ∧ (¬ (13 ≤ y2_8) → ((0 ≤ ((15 * a1) + 2) + y2_8 ∧ ((15 * a1) + 2) + y2_8 < 30)) ∧ ((0 ≤ y2_8 ∧ y2_8 < 13)) ∧ ∀ s14 : Mem, s14 = up2 s9 69 y2_8.toNat (s9 80 (((15 * a1) + 2) + y2_8).toNat) → ∀ x2_15 : Int, x2_15 = y2_8 + 1 → ∃ k16, k16 < k45 ∧ I45 k16 x2_15 s14)) ∧ ∃ k17, I45 k17 0 s7)))
