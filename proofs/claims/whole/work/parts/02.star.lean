/-! the star: X joins four times, Y takes a first word that isn't empty -/
def ew_st (f : Nat → Bool) : Nat → Nat → Bool
  | 0 => fun w => decide (w = 1)
  | k + 1 => fun w => ew_st f k w || ew_G 1 (ew_st f k) f w
theorem ew_g0 (A B : Nat → Bool) : ew_G 1 A B 1 = (A 1 && B 1) := by
  simp [ew_G]
theorem ew_g1 (A B : Nat → Bool) {w : Nat} (h1 : 2 ≤ w) (h2 : w < 4) : ew_G 1 A B w = (A w && B 1 || A 1 && B w) := by
  have e1 : w / 2 = 1 := by omega
  have e2 : 2 + w % 2 = w := by omega
  have a0 : 1 ≤ w := by omega
  have a2 : ¬ 4 ≤ w := by omega
  have a3 : ¬ 8 ≤ w := by omega
  have a4 : ¬ 16 ≤ w := by omega
  simp only [ew_G, List.any_cons, List.any_nil, Nat.one_mul, Nat.reducePow, Nat.div_one, Nat.mod_one, Nat.add_zero, e1, e2, a0, h1, a2, a3, a4, decide_true, decide_false, Bool.true_and, Bool.false_and, Bool.or_false]
theorem ew_g2 (A B : Nat → Bool) {w : Nat} (h1 : 4 ≤ w) (h2 : w < 8) : ew_G 1 A B w = (A w && B 1 || (A (w / 2) && B (2 + w % 2) || A 1 && B w)) := by
  have e1 : w / 4 = 1 := by omega
  have e2 : 4 + w % 4 = w := by omega
  have a0 : 1 ≤ w := by omega
  have a1 : 2 ≤ w := by omega
  have a3 : ¬ 8 ≤ w := by omega
  have a4 : ¬ 16 ≤ w := by omega
  simp only [ew_G, List.any_cons, List.any_nil, Nat.one_mul, Nat.reducePow, Nat.div_one, Nat.mod_one, Nat.add_zero, e1, e2, a0, a1, h1, a3, a4, decide_true, decide_false, Bool.true_and, Bool.false_and, Bool.or_false]
theorem ew_g3 (A B : Nat → Bool) {w : Nat} (h1 : 8 ≤ w) (h2 : w < 16) : ew_G 1 A B w = (A w && B 1 || (A (w / 2) && B (2 + w % 2) || (A (w / 4) && B (4 + w % 4) || A 1 && B w))) := by
  have e1 : w / 8 = 1 := by omega
  have e2 : 8 + w % 8 = w := by omega
  have a0 : 1 ≤ w := by omega
  have a1 : 2 ≤ w := by omega
  have a2 : 4 ≤ w := by omega
  have a4 : ¬ 16 ≤ w := by omega
  simp only [ew_G, List.any_cons, List.any_nil, Nat.one_mul, Nat.reducePow, Nat.div_one, Nat.mod_one, Nat.add_zero, e1, e2, a0, a1, a2, h1, a4, decide_true, decide_false, Bool.true_and, Bool.false_and, Bool.or_false]
theorem ew_g4 (A B : Nat → Bool) {w : Nat} (h1 : 16 ≤ w) (h2 : w < 32) : ew_G 1 A B w = (A w && B 1 || (A (w / 2) && B (2 + w % 2) || (A (w / 4) && B (4 + w % 4) || (A (w / 8) && B (8 + w % 8) || A 1 && B w)))) := by
  have e1 : w / 16 = 1 := by omega
  have e2 : 16 + w % 16 = w := by omega
  have a0 : 1 ≤ w := by omega
  have a1 : 2 ≤ w := by omega
  have a2 : 4 ≤ w := by omega
  have a3 : 8 ≤ w := by omega
  simp only [ew_G, List.any_cons, List.any_nil, Nat.one_mul, Nat.reducePow, Nat.div_one, Nat.mod_one, Nat.add_zero, e1, e2, a0, a1, a2, a3, h1, decide_true, Bool.true_and, Bool.or_false]
theorem ew_k1 (A B : Nat → Bool) {w : Nat} (h1 : 2 ≤ w) (h2 : w < 4) : ew_G 2 A B w = (A w && B 1) := by
  have a1 : ¬ 4 ≤ w := by omega
  have a2 : ¬ 8 ≤ w := by omega
  have a3 : ¬ 16 ≤ w := by omega
  have a4 : ¬ 32 ≤ w := by omega
  simp only [ew_G, List.any_cons, List.any_nil, Nat.reduceMul, Nat.reducePow, Nat.div_one, Nat.mod_one, Nat.add_zero, h1, a1, a2, a3, a4, decide_true, decide_false, Bool.true_and, Bool.false_and, Bool.or_false]
theorem ew_k2 (A B : Nat → Bool) {w : Nat} (h1 : 4 ≤ w) (h2 : w < 8) : ew_G 2 A B w = (A w && B 1 || A (w / 2) && B (2 + w % 2)) := by
  have a1 : 2 ≤ w := by omega
  have a2 : ¬ 8 ≤ w := by omega
  have a3 : ¬ 16 ≤ w := by omega
  have a4 : ¬ 32 ≤ w := by omega
  simp only [ew_G, List.any_cons, List.any_nil, Nat.reduceMul, Nat.reducePow, Nat.div_one, Nat.mod_one, Nat.add_zero, h1, a1, a2, a3, a4, decide_true, decide_false, Bool.true_and, Bool.false_and, Bool.or_false]
theorem ew_k3 (A B : Nat → Bool) {w : Nat} (h1 : 8 ≤ w) (h2 : w < 16) : ew_G 2 A B w = (A w && B 1 || (A (w / 2) && B (2 + w % 2) || A (w / 4) && B (4 + w % 4))) := by
  have a1 : 2 ≤ w := by omega
  have a2 : 4 ≤ w := by omega
  have a3 : ¬ 16 ≤ w := by omega
  have a4 : ¬ 32 ≤ w := by omega
  simp only [ew_G, List.any_cons, List.any_nil, Nat.reduceMul, Nat.reducePow, Nat.div_one, Nat.mod_one, Nat.add_zero, h1, a1, a2, a3, a4, decide_true, decide_false, Bool.true_and, Bool.false_and, Bool.or_false]
theorem ew_k4 (A B : Nat → Bool) {w : Nat} (h1 : 16 ≤ w) (h2 : w < 32) : ew_G 2 A B w = (A w && B 1 || (A (w / 2) && B (2 + w % 2) || (A (w / 4) && B (4 + w % 4) || A (w / 8) && B (8 + w % 8)))) := by
  have a1 : 2 ≤ w := by omega
  have a2 : 4 ≤ w := by omega
  have a3 : 8 ≤ w := by omega
  have a4 : ¬ 32 ≤ w := by omega
  simp only [ew_G, List.any_cons, List.any_nil, Nat.reduceMul, Nat.reducePow, Nat.div_one, Nat.mod_one, Nat.add_zero, h1, a1, a2, a3, a4, decide_true, decide_false, Bool.true_and, Bool.false_and, Bool.or_false]
theorem ew_t0 (f : Nat → Bool) : ∀ k, ew_st f k 1 = true
  | 0 => rfl
  | k + 1 => by
    show (ew_st f k 1 || ew_G 1 (ew_st f k) f 1) = true
    rw [ew_t0 f k]; rfl
theorem ew_tz (f : Nat → Bool) {w : Nat} (h : 2 ≤ w) : ew_st f 0 w = false := decide_eq_false (by omega)
theorem ew_tS (f : Nat → Bool) (k w : Nat) : ew_st f (k + 1) w = (ew_st f k w || ew_G 1 (ew_st f k) f w) := rfl
theorem ew_o1 (f : Nat → Bool) {w : Nat} (h : 2 ≤ w) (h2 : w < 32) : ew_st f 1 w = f w := by
  rw [ew_tS, ew_tz f h]
  by_cases a : w < 4
  · rw [ew_g1 _ _ h a, ew_t0, ew_tz f h]; simp
  · by_cases b : w < 8
    · rw [ew_g2 _ _ (by omega) b, ew_t0, ew_tz f h, ew_tz f (w := w / 2) (by omega)]; simp
    · by_cases c : w < 16
      · rw [ew_g3 _ _ (by omega) c, ew_t0, ew_tz f h, ew_tz f (w := w / 2) (by omega), ew_tz f (w := w / 4) (by omega)]; simp
      · rw [ew_g4 _ _ (by omega) h2, ew_t0, ew_tz f h, ew_tz f (w := w / 2) (by omega), ew_tz f (w := w / 4) (by omega), ew_tz f (w := w / 8) (by omega)]; simp
theorem ew_t1 (f : Nat → Bool) {w : Nat} (h : 2 ≤ w) (h2 : w < 4) : ∀ k, ew_st f (k + 1) w = f w
  | 0 => ew_o1 f h (by omega)
  | k + 1 => by
    rw [ew_tS, ew_g1 _ _ h h2, ew_t0, ew_t1 f h h2 k]
    cases f w <;> cases f 1 <;> rfl
theorem ew_t2 (f : Nat → Bool) {w : Nat} (h : 4 ≤ w) (h2 : w < 8) : ∀ k, ew_st f (k + 2) w = (f w || f (w / 2) && f (2 + w % 2))
  | 0 => by
    rw [ew_tS, ew_g2 _ _ h h2, ew_t0, ew_o1 f (by omega) (by omega), ew_o1 f (w := w / 2) (by omega) (by omega)]
    generalize f w = x1; generalize f 1 = x2; generalize f (w / 2) = x3; generalize f (2 + w % 2) = x4
    revert x1 x2 x3 x4; decide
  | k + 1 => by
    rw [ew_tS, ew_g2 _ _ h h2, ew_t0, ew_t2 f h h2 k, ew_t1 f (w := w / 2) (by omega) (by omega)]
    generalize f w = x1; generalize f 1 = x2; generalize f (w / 2) = x3; generalize f (2 + w % 2) = x4
    revert x1 x2 x3 x4; decide
theorem ew_u3 (f : Nat → Bool) {w : Nat} (h : 8 ≤ w) (h2 : w < 16) : ew_st f 2 w = (f w || (f (w / 2) && f (2 + w % 2) || f (w / 4) && f (4 + w % 4))) := by
  rw [ew_tS, ew_g3 _ _ h h2, ew_t0, ew_o1 f (by omega) (by omega), ew_o1 f (w := w / 2) (by omega) (by omega), ew_o1 f (w := w / 4) (by omega) (by omega)]
  generalize f w = x1; generalize f 1 = x2; generalize f (w / 2) = x3; generalize f (2 + w % 2) = x4; generalize f (w / 4) = x5; generalize f (4 + w % 4) = x6
  revert x1 x2 x3 x4 x5 x6; decide
theorem ew_t3 (f : Nat → Bool) {w : Nat} (h : 8 ≤ w) (h2 : w < 16) : ∀ k, ew_st f (k + 3) w = (f w || (f (w / 2) && f (2 + w % 2) || (f (w / 4) && f (4 + w % 4) || (f (w / 4) && f (2 + w / 2 % 2)) && f (2 + w % 2))))
  | 0 => by
    rw [ew_tS, ew_g3 _ _ h h2, ew_t0, ew_u3 f h h2, ew_t2 f (w := w / 2) (by omega) (by omega), ew_t1 f (w := w / 4) (by omega) (by omega), show w / 2 / 2 = w / 4 by omega]
    generalize f w = x1; generalize f 1 = x2; generalize f (w / 2) = x3; generalize f (2 + w % 2) = x4; generalize f (w / 4) = x5; generalize f (4 + w % 4) = x6; generalize f (2 + w / 2 % 2) = x7
    revert x1 x2 x3 x4 x5 x6 x7; decide
  | k + 1 => by
    rw [ew_tS, ew_g3 _ _ h h2, ew_t0, ew_t3 f h h2 k, ew_t2 f (w := w / 2) (by omega) (by omega) (k + 1), ew_t1 f (w := w / 4) (by omega) (by omega) (k + 2), show w / 2 / 2 = w / 4 by omega]
    generalize f w = x1; generalize f 1 = x2; generalize f (w / 2) = x3; generalize f (2 + w % 2) = x4; generalize f (w / 4) = x5; generalize f (4 + w % 4) = x6; generalize f (2 + w / 2 % 2) = x7
    revert x1 x2 x3 x4 x5 x6 x7; decide
theorem ew_u4 (f : Nat → Bool) {w : Nat} (h : 16 ≤ w) (h2 : w < 32) : ew_st f 2 w = (f w || (f (w / 2) && f (2 + w % 2) || (f (w / 4) && f (4 + w % 4) || f (w / 8) && f (8 + w % 8)))) := by
  rw [ew_tS, ew_g4 _ _ h h2, ew_t0, ew_o1 f (by omega) (by omega), ew_o1 f (w := w / 2) (by omega) (by omega), ew_o1 f (w := w / 4) (by omega) (by omega), ew_o1 f (w := w / 8) (by omega) (by omega)]
  generalize f w = x1; generalize f 1 = x2; generalize f (w / 2) = x3; generalize f (2 + w % 2) = x4; generalize f (w / 4) = x5; generalize f (4 + w % 4) = x6; generalize f (w / 8) = x7; generalize f (8 + w % 8) = x8
  revert x1 x2 x3 x4 x5 x6 x7 x8; decide +kernel
/-- a word of four letters abcd: abcd, abc d, ab cd, a bcd, ab c d, a bc d, a b cd, a b c d -/
def ew_c4 (abcd abc d ab cd a bcd c bc b : Bool) : Bool := abcd || (abc && d || (ab && cd || (a && bcd || (ab && (c && d) || (a && (bc && d) || (a && (b && cd) || a && (b && (c && d))))))))
def ew_c43 (abcd abc d ab cd a bcd c bc b : Bool) : Bool := abcd || (abc && d || (ab && cd || (a && bcd || (ab && (c && d) || (a && (bc && d) || a && (b && cd))))))
theorem ew_u43 (f : Nat → Bool) {w : Nat} (h : 16 ≤ w) (h2 : w < 32) : ew_st f 3 w = ew_c43 (f w) (f (w / 2)) (f (2 + w % 2)) (f (w / 4)) (f (4 + w % 4)) (f (w / 8)) (f (8 + w % 8)) (f (2 + w / 2 % 2)) (f (4 + w / 2 % 4)) (f (2 + w / 4 % 2)) := by
  rw [ew_tS, ew_g4 _ _ h h2, ew_t0, ew_u4 f h h2, ew_u3 f (w := w / 2) (by omega) (by omega), ew_t2 f (w := w / 4) (by omega) (by omega), ew_t1 f (w := w / 8) (by omega) (by omega), show w / 2 / 2 = w / 4 by omega, show w / 2 / 4 = w / 8 by omega, show w / 4 / 2 = w / 8 by omega]
  generalize f w = x1; generalize f 1 = x2; generalize f (w / 2) = x3; generalize f (2 + w % 2) = x4; generalize f (w / 4) = x5; generalize f (4 + w % 4) = x6; generalize f (w / 8) = x7; generalize f (8 + w % 8) = x8; generalize f (2 + w / 2 % 2) = x9; generalize f (4 + w / 2 % 4) = y1; generalize f (2 + w / 4 % 2) = y2
  revert x1 x2 x3 x4 x5 x6 x7 x8 x9 y1 y2; decide +kernel
theorem ew_t4 (f : Nat → Bool) {w : Nat} (h : 16 ≤ w) (h2 : w < 32) : ew_st f 4 w = ew_c4 (f w) (f (w / 2)) (f (2 + w % 2)) (f (w / 4)) (f (4 + w % 4)) (f (w / 8)) (f (8 + w % 8)) (f (2 + w / 2 % 2)) (f (4 + w / 2 % 4)) (f (2 + w / 4 % 2)) := by
  rw [ew_tS, ew_g4 _ _ h h2, ew_t0, ew_u43 f h h2, ew_t3 f (w := w / 2) (by omega) (by omega), ew_t2 f (w := w / 4) (by omega) (by omega) 1, ew_t1 f (w := w / 8) (by omega) (by omega), show w / 2 / 2 = w / 4 by omega, show w / 2 / 4 = w / 8 by omega, show w / 4 / 2 = w / 8 by omega]
  generalize f w = x1; generalize f 1 = x2; generalize f (w / 2) = x3; generalize f (2 + w % 2) = x4; generalize f (w / 4) = x5; generalize f (4 + w % 4) = x6; generalize f (w / 8) = x7; generalize f (8 + w % 8) = x8; generalize f (2 + w / 2 % 2) = x9; generalize f (4 + w / 2 % 4) = y1; generalize f (2 + w / 4 % 2) = y2
  revert x1 x2 x3 x4 x5 x6 x7 x8 x9 y1 y2; decide +kernel
theorem ew_fix (f : Nat → Bool) {w : Nat} (h : 2 ≤ w) (h2 : w < 32) : ew_G 2 f (ew_st f 4) w = ew_st f 4 w := by
  by_cases a : w < 4
  · rw [ew_k1 _ _ h a, ew_t0, ew_t1 f h a 3, Bool.and_true]
  · by_cases b : w < 8
    · rw [ew_k2 _ _ (by omega) b, ew_t0, ew_t1 f (w := 2 + w % 2) (by omega) (by omega) 3, ew_t2 f (by omega) b 2, Bool.and_true]
    · by_cases c : w < 16
      · rw [ew_k3 _ _ (by omega) c, ew_t0, ew_t1 f (w := 2 + w % 2) (by omega) (by omega) 3, ew_t2 f (w := 4 + w % 4) (by omega) (by omega) 2, ew_t3 f (by omega) c 1, show (4 + w % 4) / 2 = 2 + w / 2 % 2 by omega, show 2 + (4 + w % 4) % 2 = 2 + w % 2 by omega]
        generalize f w = x1; generalize f (w / 2) = x3; generalize f (2 + w % 2) = x4; generalize f (w / 4) = x5; generalize f (4 + w % 4) = x6; generalize f (2 + w / 2 % 2) = x7
        revert x1 x3 x4 x5 x6 x7; decide
      · rw [ew_k4 _ _ (by omega) h2, ew_t0, ew_t1 f (w := 2 + w % 2) (by omega) (by omega) 3, ew_t2 f (w := 4 + w % 4) (by omega) (by omega) 2, ew_t3 f (w := 8 + w % 8) (by omega) (by omega) 1, ew_t4 f (by omega) h2, show (4 + w % 4) / 2 = 2 + w / 2 % 2 by omega, show 2 + (4 + w % 4) % 2 = 2 + w % 2 by omega, show (8 + w % 8) / 2 = 4 + w / 2 % 4 by omega, show 2 + (8 + w % 8) % 2 = 2 + w % 2 by omega, show (8 + w % 8) / 4 = 2 + w / 4 % 2 by omega, show 4 + (8 + w % 8) % 4 = 4 + w % 4 by omega, show 2 + (4 + w / 2 % 4) % 2 = 2 + w / 2 % 2 by omega]
        generalize f w = x1; generalize f (w / 2) = x3; generalize f (2 + w % 2) = x4; generalize f (w / 4) = x5; generalize f (4 + w % 4) = x6; generalize f (w / 8) = x7; generalize f (8 + w % 8) = x8; generalize f (2 + w / 2 % 2) = x9; generalize f (4 + w / 2 % 4) = y1; generalize f (2 + w / 4 % 2) = y2
        revert x1 x3 x4 x5 x6 x7 x8 x9 y1 y2; decide +kernel
