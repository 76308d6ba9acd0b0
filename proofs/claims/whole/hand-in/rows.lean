section
/-! pasted from kit/rows: pk_ and the bt family -/
theorem pk_us {f : Nat → Int32} {k : Nat} {x : Int32} : upd f k x k = x := if_pos rfl
theorem pk_un {f : Nat → Int32} {k j : Nat} {x : Int32} (h : j ≠ k) : upd f k x j = f j := if_neg h
theorem pk_sub {a b : Nat} (h : b ≤ a) : nI a - nI b = nI (a - b) := by
  obtain ⟨c, rfl⟩ : ∃ c, a = c + b := ⟨a - b, by omega⟩
  rw [← nI_add, Int32.add_sub_cancel, Nat.add_sub_cancel]
theorem pk_m1 (n : Nat) : nI (n + 1) + (-1) = nI n := by
  rw [← nI_1, Int32.add_assoc, show (1 : Int32) + (-1) = 0 from rfl, Int32.add_zero]
theorem pk_mul (a b : Nat) : nI a * nI b = nI (a * b) := (Int32.ofNat_mul a b).symm
theorem pk_div {a d : Nat} (ha : a < 2 ^ 31) (h0 : 0 < d) (hd : d < 2 ^ 31) : nI a / nI d = nI (a / d) := by
  apply Int32.toInt_inj.mp
  rw [lg_idiv_nonneg (by rw [nI_toInt ha]; omega) (by rw [nI_toInt hd]; omega), nI_toInt ha, nI_toInt hd, nI_toInt (Nat.lt_of_le_of_lt (Nat.div_le_self a d) ha)]
  first | rfl | exact (Int.natCast_ediv _ _).symm
theorem pk_rem {a d : Nat} (ha : a < 2 ^ 31) (h0 : 0 < d) (hd : d < 2 ^ 31) : nI a - nI a / nI d * nI d = nI (a % d) := by
  rw [pk_div ha h0 hd, pk_mul, pk_sub (Nat.div_mul_le_self a d)]
  exact congrArg nI (by have := Nat.div_add_mod' a d; omega)
theorem pk_sub_toInt {a b : Nat} (ha : a < 2 ^ 30) (hb : b < 2 ^ 30) : (nI a - nI b).toInt = (a : Int) - b := by
  rw [Int32.toInt_sub, nI_toInt (by omega), nI_toInt (by omega)]
  exact Int.bmod_eq_of_le (by omega) (by omega)
theorem pk_sneg {a b : Nat} (hb : b < 2 ^ 30) (h : a < b) : nI a - nI b < 0 := by
  rw [Int32.lt_iff_toInt_lt, pk_sub_toInt (by omega) hb, show (0 : Int32).toInt = 0 from by decide]
  omega
theorem pk_ix (x : Int32) {n : Nat} (hn : n < 2 ^ 31) : x < 0 ∨ nI n ≤ x ∨ ∃ j : Nat, j < n ∧ x = nI j := by
  by_cases h : x < 0
  · exact Or.inl h
  · obtain ⟨j, hj, rfl⟩ := nI_of h
    by_cases h2 : j < n
    · exact Or.inr (Or.inr ⟨j, h2, rfl⟩)
    · exact Or.inr (Or.inl (nI_le (by omega) hj))
theorem pk_le {x y : Int32} {A B : Prop} (a b : Nat) (f : a ≤ b → A) (g : b < a → B) (hx : x = nI a := by rfl) (hy : y = nI b := by rfl) (ha : a < 2 ^ 31 := by omega) (hb : b < 2 ^ 31 := by omega) : (x ≤ y → A) ∧ (¬ x ≤ y → B) := by
  subst hx hy
  rw [nI_leI ha hb]
  exact ⟨f, fun z => g (by omega)⟩
theorem pk_lt {x y : Int32} {A B : Prop} (a b : Nat) (f : a < b → A) (g : b ≤ a → B) (hx : x = nI a := by rfl) (hy : y = nI b := by rfl) (ha : a < 2 ^ 31 := by omega) (hb : b < 2 ^ 31 := by omega) : (x < y → A) ∧ (¬ x < y → B) := by
  subst hx hy
  rw [nI_ltI ha hb]
  exact ⟨f, fun z => g (by omega)⟩
theorem pk_eq {x y : Int32} {A B : Prop} (a b : Nat) (f : a = b → A) (g : a ≠ b → B) (hx : x = nI a := by rfl) (hy : y = nI b := by rfl) (ha : a < 2 ^ 31 := by omega) (hb : b < 2 ^ 31 := by omega) : (x = y → A) ∧ (¬ x = y → B) := by
  subst hx hy
  rw [nI_eq ha hb]
  exact ⟨f, g⟩
theorem pk_in {x : Int32} (n N : Nat) (h : n < N) (hx : x = nI n := by rfl) (hN : N < 2 ^ 31 := by omega) : vp_in x N := by
  subst hx
  exact vp_in_nI h hN
theorem pk_cl {x : Int32} (n : Nat) (hx : x = nI n := by rfl) (h : n < 2 ^ 31 := by omega) : x.toNatClampNeg = n := by
  subst hx
  exact nI_clamp h
theorem pk_tn {n : Nat} (h : n < 2 ^ 32) : (nI n).toBitVec.toNat = n := Nat.mod_eq_of_lt h
theorem pk_and (x : Int32) {m : Int32} (k : Nat) (hm : m.toBitVec.toNat = 2 ^ k - 1) : x &&& m = nI (x.toBitVec.toNat % 2 ^ k) := by
  apply Int32.toBitVec_inj.mp
  apply BitVec.eq_of_toNat_eq
  rw [Int32.toBitVec_and, BitVec.toNat_and, hm, Nat.and_two_pow_sub_one_eq_mod]
  show _ = (BitVec.ofNat 32 _).toNat
  rw [BitVec.toNat_ofNat]
  exact (Nat.mod_eq_of_lt (Nat.lt_of_le_of_lt (Nat.mod_le _ _) x.toBitVec.isLt)).symm
theorem pk_andN {n : Nat} (h : n < 2 ^ 32) {m : Int32} (k : Nat) (hm : m.toBitVec.toNat = 2 ^ k - 1) : nI n &&& m = nI (n % 2 ^ k) := by
  rw [pk_and _ k hm, pk_tn h]
theorem pk_andE (x : Int32) {m : Int32} (k : Nat) (hm : m.toBitVec.toNat = 2 ^ k - 1) : ∃ j : Nat, j < 2 ^ k ∧ x &&& m = nI j := ⟨_, Nat.mod_lt _ (Nat.two_pow_pos k), pk_and x k hm⟩
theorem pk_andIn (x : Int32) {m : Int32} (k : Nat) (hm : m.toBitVec.toNat = 2 ^ k - 1) (hk : k ≤ 30) : vp_in (x &&& m) (2 ^ k) := by
  obtain ⟨j, hj, e⟩ := pk_andE x k hm
  rw [e]
  exact vp_in_nI hj (Nat.lt_of_le_of_lt (Nat.pow_le_pow_right (by decide) hk) (by decide))
theorem pk_shl (a s : Int32) (k : Nat) (hs : (s.toBitVec.smod 32).toNat = k) : (a <<< s).toBitVec.toNat = a.toBitVec.toNat * 2 ^ k % 2 ^ 32 := by
  show (a.toBitVec <<< (s.toBitVec.smod 32).toNat).toNat = _
  rw [hs, BitVec.toNat_shiftLeft, Nat.shiftLeft_eq]
theorem pk_shlN {n : Nat} (s : Int32) (k : Nat) (hs : (s.toBitVec.smod 32).toNat = k) (h : n * 2 ^ k < 2 ^ 32) : nI n <<< s = nI (n * 2 ^ k) := by
  apply Int32.toBitVec_inj.mp
  apply BitVec.eq_of_toNat_eq
  have hn : n < 2 ^ 32 := Nat.lt_of_le_of_lt (Nat.le_mul_of_pos_right n (Nat.two_pow_pos k)) h
  rw [pk_shl _ _ k hs, pk_tn hn, pk_tn h, Nat.mod_eq_of_lt h]
theorem pk_shr (a s : Int32) (k : Nat) (hs : (s.toBitVec.smod 32).toNat = k) : (a >>> s).toInt = a.toInt >>> k := by
  show (a.toBitVec.sshiftRight (s.toBitVec.smod 32).toNat).toInt = _
  rw [hs, BitVec.toInt_sshiftRight]
  rfl
theorem pk_shrN {n : Nat} (h : n < 2 ^ 31) (s : Int32) (k : Nat) (hs : (s.toBitVec.smod 32).toNat = k) : nI n >>> s = nI (n / 2 ^ k) := by
  apply Int32.toInt_inj.mp
  have h2 : n / 2 ^ k ≤ n := Nat.div_le_self _ _
  rw [pk_shr _ _ k hs, nI_toInt h, nI_toInt (by omega), Int.shiftRight_eq_div_pow]
  rfl
def bt (x : Int32) (i : Nat) : Bool := x.toBitVec.getLsbD i
theorem b_ext {x y : Int32} (h : ∀ i, i < 32 → bt x i = bt y i) : x = y := Int32.toBitVec_inj.mp (BitVec.eq_of_getLsbD_eq (fun i hi => h i hi))
theorem b_or (x y : Int32) (i : Nat) : bt (x ||| y) i = (bt x i || bt y i) := by unfold bt; rw [Int32.toBitVec_or, BitVec.getLsbD_or]
theorem b_and (x y : Int32) (i : Nat) : bt (x &&& y) i = (bt x i && bt y i) := by unfold bt; rw [Int32.toBitVec_and, BitVec.getLsbD_and]
theorem b_xor (x y : Int32) (i : Nat) : bt (x ^^^ y) i = (bt x i ^^ bt y i) := by unfold bt; rw [Int32.toBitVec_xor, BitVec.getLsbD_xor]
theorem b_big {x : Int32} {i : Nat} (h : 32 ≤ i) : bt x i = false := BitVec.getLsbD_of_ge _ _ h
theorem b_255 (i : Nat) : bt 255 i = decide (i < 8) := by
  rcases Nat.lt_or_ge i 32 with h | h
  · exact (by decide +kernel : ∀ i, i < 32 → bt 255 i = decide (i < 8)) i h
  · rw [b_big h, decide_eq_false (by omega)]
theorem b_65535 (i : Nat) : bt 65535 i = decide (i < 16) := by
  rcases Nat.lt_or_ge i 32 with h | h
  · exact (by decide +kernel : ∀ i, i < 32 → bt 65535 i = decide (i < 16)) i h
  · rw [b_big h, decide_eq_false (by omega)]
theorem b_m1 : ∀ i, i < 32 → bt (-1) i = true := by decide +kernel
theorem b_0 (i : Nat) : bt 0 i = false := BitVec.getLsbD_zero
theorem s_l : ∀ n, n < 32 → ((nI n &&& 31).toBitVec.smod 32).toNat = n := by decide +kernel
theorem s_u : ∀ n, n < 32 → (((nI n).toUInt32 &&& Int32.toUInt32 31).toBitVec % 32).toNat = n := by decide +kernel
theorem b_shl (n : Nat) (hn : n < 32) (x : Int32) {i : Nat} (hi : i < 32) : bt (x <<< (nI n &&& 31)) i = (decide (n ≤ i) && bt x (i - n)) := by
  unfold bt
  rw [Int32.toBitVec_shiftLeft]
  show (x.toBitVec <<< ((nI n &&& 31).toBitVec.smod 32).toNat).getLsbD i = _
  rw [s_l n hn, BitVec.getLsbD_shiftLeft]
  rcases Nat.lt_or_ge i n with h | h
  · simp [h, Nat.not_le.mpr h]
  · simp [hi, h, Nat.not_lt.mpr h]
theorem b_ushr (n : Nat) (hn : n < 32) (x : Int32) (i : Nat) : bt ((x.toUInt32 >>> ((nI n).toUInt32 &&& Int32.toUInt32 31)).toInt32) i = bt x (n + i) := by
  show (x.toUInt32 >>> ((nI n).toUInt32 &&& Int32.toUInt32 31)).toBitVec.getLsbD i = x.toUInt32.toBitVec.getLsbD (n + i)
  rw [UInt32.toBitVec_shiftRight]
  show (x.toUInt32.toBitVec >>> (((nI n).toUInt32 &&& Int32.toUInt32 31).toBitVec % 32).toNat).getLsbD i = _
  rw [s_u n hn, BitVec.getLsbD_ushiftRight]
theorem b_sshr (n : Nat) (hn : n < 32) (x : Int32) {i : Nat} (hi : i < 32) : bt (x >>> (nI n &&& 31)) i = if n + i < 32 then bt x (n + i) else bt x 31 := by
  unfold bt
  rw [Int32.toBitVec_shiftRight]
  show (x.toBitVec.sshiftRight ((nI n &&& 31).toBitVec.smod 32).toNat).getLsbD i = _
  rw [s_l n hn, BitVec.getLsbD_sshiftRight, BitVec.msb_eq_getLsbD_last]
  simp [hi]
/-! own rows: numbers and bits -/
theorem ew_p2 {k : Nat} (hk : k < 32) : 2 ^ k < 2 ^ 32 := Nat.pow_lt_pow_right (by decide) hk
theorem ew_p31 {k : Nat} (hk : k < 31) : 2 ^ k < 2 ^ 31 := Nat.pow_lt_pow_right (by decide) hk
theorem ew_shl {n k : Nat} (hk : k < 32) (h : n * 2 ^ k < 2 ^ 32) : nI n <<< (nI k &&& 31) = nI (n * 2 ^ k) := pk_shlN _ k (s_l k hk) h
theorem ew_one {k : Nat} (hk : k < 32) : (1 : Int32) <<< (nI k &&& 31) = nI (2 ^ k) := by
  have h := ew_shl (n := 1) hk (by rw [Nat.one_mul]; exact ew_p2 hk)
  rw [Nat.one_mul] at h
  exact h
theorem ew_shr {n k : Nat} (hn : n < 2 ^ 31) (hk : k < 32) : nI n >>> (nI k &&& 31) = nI (n / 2 ^ k) := pk_shrN hn _ k (s_l k hk)
theorem ew_and1 {n : Nat} (h : n < 2 ^ 32) : nI n &&& 1 = nI (n % 2) := pk_andN h 1 (by decide)
theorem ew_mask {n k : Nat} (h : n < 2 ^ 32) (hk : k < 32) : nI n &&& (nI (2 ^ k) - 1) = nI (n % 2 ^ k) := by
  have e : nI (2 ^ k) - 1 = nI (2 ^ k - 1) := pk_sub (b := 1) (Nat.two_pow_pos k)
  have := ew_p2 hk
  rw [e, pk_andN h k (pk_tn (by omega))]
theorem ew_b1 (y : Int32) : (y &&& 1) = 1 ↔ bt y 0 = true := by
  have e : y &&& 1 = nI (y.toBitVec.toNat % 2) := pk_and y 1 (by decide)
  rw [e]
  show nI _ = nI 1 ↔ _
  rw [nI_eq (by omega) (by omega)]
  simp [bt, BitVec.getLsbD, Nat.testBit_zero]
theorem ew_bit {k : Nat} (hk : k < 32) {i : Nat} (hi : i < 32) : bt ((1 : Int32) <<< (nI k &&& 31)) i = decide (k = i) := by
  rw [b_shl k hk 1 hi]
  have h1 : ∀ j, j < 32 → bt 1 j = decide (j = 0) := by decide +kernel
  rw [h1 (i - k) (by omega)]
  by_cases h : k = i
  · subst h; simp
  · by_cases h2 : k ≤ i
    · simp [h, h2]; omega
    · simp [h, h2]
theorem ew_ub (x : Int32) {c : Nat} (hc : c < 32) : (((x.toUInt32 >>> ((nI c).toUInt32 &&& Int32.toUInt32 31)).toInt32) &&& 1) = 1 ↔ bt x c = true := by
  rw [ew_b1, b_ushr c hc]
  rfl
theorem ew_sb (x : Int32) {c : Nat} (hc : c < 32) : ((x >>> (nI c &&& 31)) &&& 1) = 1 ↔ bt x c = true := by
  rw [ew_b1, b_sshr c hc x (by omega), if_pos (by omega)]
  rfl
theorem ew_exS {Q : Nat → Prop} {i : Nat} (hi : 1 ≤ i) : (∃ h, 1 ≤ h ∧ h < i + 1 ∧ Q h) ↔ ((∃ h, 1 ≤ h ∧ h < i ∧ Q h) ∨ Q i) := by
  constructor
  · intro ⟨h, h1, h2, q⟩
    by_cases e : h = i
    · subst e; exact Or.inr q
    · exact Or.inl ⟨h, h1, by omega, q⟩
  · intro z
    rcases z with ⟨h, h1, h2, q⟩ | q
    · exact ⟨h, h1, by omega, q⟩
    · exact ⟨i, hi, by omega, q⟩
theorem ew_bf {x : Bool} (h : ¬ x = true) : x = false := by cases x <;> first | rfl | exact absurd rfl h
/-! splits of a word, by codes: s letters behind -/
def ew_G (m : Nat) (a b : Nat → Bool) (w : Nat) : Bool := [0, 1, 2, 3, 4].any (fun s => decide (m * 2 ^ s ≤ w) && (a (w / 2 ^ s) && b (2 ^ s + w % 2 ^ s)))
theorem ew_G_iff (m : Nat) (a b : Nat → Bool) (w : Nat) : ew_G m a b w = true ↔ ∃ s, s ≤ 4 ∧ m * 2 ^ s ≤ w ∧ a (w / 2 ^ s) = true ∧ b (2 ^ s + w % 2 ^ s) = true := by
  unfold ew_G
  rw [List.any_eq_true]
  constructor
  · intro ⟨s, hs, h⟩
    rw [Bool.and_eq_true, Bool.and_eq_true, decide_eq_true_eq] at h
    refine ⟨s, ?_, h⟩
    simp at hs
    omega
  · intro ⟨s, hs, h⟩
    refine ⟨s, ?_, ?_⟩
    · simp; omega
    · rw [Bool.and_eq_true, Bool.and_eq_true, decide_eq_true_eq]
      exact h
theorem ew_G_congr {m w : Nat} {a b a' b' : Nat → Bool} (ha : ∀ s, s ≤ 4 → m * 2 ^ s ≤ w → a (w / 2 ^ s) = a' (w / 2 ^ s)) (hb : ∀ s, s ≤ 4 → m * 2 ^ s ≤ w → b (2 ^ s + w % 2 ^ s) = b' (2 ^ s + w % 2 ^ s)) : ew_G m a b w = ew_G m a' b' w := by
  rw [Bool.eq_iff_iff, ew_G_iff, ew_G_iff]
  constructor
  · intro ⟨s, h1, h2, h3, h4⟩
    exact ⟨s, h1, h2, (ha s h1 h2) ▸ h3, (hb s h1 h2) ▸ h4⟩
  · intro ⟨s, h1, h2, h3, h4⟩
    exact ⟨s, h1, h2, (ha s h1 h2).symm ▸ h3, (hb s h1 h2).symm ▸ h4⟩
/-- the length of a code's word -/
def ew_cl (c : Nat) : Nat := if 16 ≤ c then 4 else if 8 ≤ c then 3 else if 4 ≤ c then 2 else if 2 ≤ c then 1 else 0
theorem ew_cl_in : ∀ c, c < 32 → 1 ≤ c → 2 ^ ew_cl c ≤ c ∧ c < 2 ^ (ew_cl c + 1) ∧ ew_cl c ≤ 4 := by decide +kernel
theorem ew_s4 {P : Nat → Prop} (h0 : P 0) (h1 : P 1) (h2 : P 2) (h3 : P 3) (h4 : P 4) {s : Nat} (hs : s ≤ 4) : P s := by
  have : s = 0 ∨ s = 1 ∨ s = 2 ∨ s = 3 ∨ s = 4 := by omega
  rcases this with rfl | rfl | rfl | rfl | rfl <;> assumption
theorem ew_cl_of {c s : Nat} (hs : s ≤ 4) (h1 : 2 ^ s ≤ c) (h2 : c < 2 ^ (s + 1)) : ew_cl c = s := by
  revert h1 h2
  refine ew_s4 (P := fun s => 2 ^ s ≤ c → c < 2 ^ (s + 1) → ew_cl c = s) ?_ ?_ ?_ ?_ ?_ hs <;> intro h1 h2 <;> simp at h1 h2 <;> unfold ew_cl <;> repeat (first | rw [if_pos (by omega)] | rw [if_neg (by omega)])
/-- X's join, by its two loops, is the split -/
theorem ew_join_iff (a b : Nat → Bool) {w : Nat} (hw : w < 32) : (∃ c, 1 ≤ c ∧ c < 32 ∧ b c = true ∧ ∃ h, 1 ≤ h ∧ h < 32 ∧ h * 2 ^ ew_cl c + (c - 2 ^ ew_cl c) = w ∧ a h = true) ↔ ew_G 1 a b w = true := by
  rw [ew_G_iff]
  constructor
  · intro ⟨c, c1, c2, hb, h, h1, h2, e, ha⟩
    obtain ⟨l1, l2, l3⟩ := ew_cl_in c c2 c1
    generalize ew_cl c = s at e l1 l2 l3
    rw [Nat.pow_succ] at l2
    have hp := Nat.two_pow_pos s
    have hd : w / 2 ^ s = h := by
      rw [← e, Nat.mul_comm h, Nat.mul_add_div hp, Nat.div_eq_of_lt (by omega)]; rfl
    have hm : w % 2 ^ s = c - 2 ^ s := by
      rw [← e, Nat.mul_comm h, Nat.mul_add_mod, Nat.mod_eq_of_lt (by omega)]
    have hg : 1 * 2 ^ s ≤ h * 2 ^ s := Nat.mul_le_mul_right _ h1
    refine ⟨s, l3, by omega, by rw [hd]; exact ha, ?_⟩
    rw [hm, show 2 ^ s + (c - 2 ^ s) = c by omega]
    exact hb
  · intro ⟨s, hs, h1, ha, hb⟩
    have hp := Nat.two_pow_pos s
    have hm := Nat.mod_lt w hp
    have hd := Nat.div_add_mod w (2 ^ s)
    have hc : ew_cl (2 ^ s + w % 2 ^ s) = s := ew_cl_of hs (by omega) (by rw [Nat.pow_succ]; omega)
    have hq : 1 ≤ w / 2 ^ s := (Nat.le_div_iff_mul_le hp).mpr h1
    have h16 : 2 ^ s ≤ 2 ^ 4 := Nat.pow_le_pow_right (by decide) hs
    have hlt : 2 ^ s + w % 2 ^ s < 32 := by omega
    refine ⟨2 ^ s + w % 2 ^ s, by omega, hlt, hb, w / 2 ^ s, hq, Nat.lt_of_le_of_lt (Nat.div_le_self _ _) hw, ?_, ha⟩
    rw [hc, Nat.add_sub_cancel_left, Nat.mul_comm]
    exact hd
end
section
/-! the star: X joins four times, Y takes a first word that isn't empty -/
def ew_st (f : Nat → Bool) : Nat → Nat → Bool
  | 0 => fun w => decide (w = 1)
  | k + 1 => fun w => ew_st f k w || ew_G 1 (ew_st f k) f w
theorem ew_g0 (A B : Nat → Bool) : ew_G 1 A B 1 = (A 1 && B 1) := by
  simp [ew_G]
theorem ew_g1 (A B : Nat → Bool) {w : Nat} (h1 : 2 ≤ w) (h2 : w < 4) : ew_G 1 A B w = (A w && B 1 || A 1 && B w) := by
  have e1 : w / 2 = 1 := by omega
  have e2 : 2 + w % 2 = w := by omega
  have a0 : 1 ≤ w := by omega
  have a2 : ¬ 4 ≤ w := by omega
  have a3 : ¬ 8 ≤ w := by omega
  have a4 : ¬ 16 ≤ w := by omega
  simp only [ew_G, List.any_cons, List.any_nil, Nat.one_mul, Nat.reducePow, Nat.div_one, Nat.mod_one, Nat.add_zero, e1, e2, a0, h1, a2, a3, a4, decide_true, decide_false, Bool.true_and, Bool.false_and, Bool.or_false]
theorem ew_g2 (A B : Nat → Bool) {w : Nat} (h1 : 4 ≤ w) (h2 : w < 8) : ew_G 1 A B w = (A w && B 1 || (A (w / 2) && B (2 + w % 2) || A 1 && B w)) := by
  have e1 : w / 4 = 1 := by omega
  have e2 : 4 + w % 4 = w := by omega
  have a0 : 1 ≤ w := by omega
  have a1 : 2 ≤ w := by omega
  have a3 : ¬ 8 ≤ w := by omega
  have a4 : ¬ 16 ≤ w := by omega
  simp only [ew_G, List.any_cons, List.any_nil, Nat.one_mul, Nat.reducePow, Nat.div_one, Nat.mod_one, Nat.add_zero, e1, e2, a0, a1, h1, a3, a4, decide_true, decide_false, Bool.true_and, Bool.false_and, Bool.or_false]
theorem ew_g3 (A B : Nat → Bool) {w : Nat} (h1 : 8 ≤ w) (h2 : w < 16) : ew_G 1 A B w = (A w && B 1 || (A (w / 2) && B (2 + w % 2) || (A (w / 4) && B (4 + w % 4) || A 1 && B w))) := by
  have e1 : w / 8 = 1 := by omega
  have e2 : 8 + w % 8 = w := by omega
  have a0 : 1 ≤ w := by omega
  have a1 : 2 ≤ w := by omega
  have a2 : 4 ≤ w := by omega
  have a4 : ¬ 16 ≤ w := by omega
  simp only [ew_G, List.any_cons, List.any_nil, Nat.one_mul, Nat.reducePow, Nat.div_one, Nat.mod_one, Nat.add_zero, e1, e2, a0, a1, a2, h1, a4, decide_true, decide_false, Bool.true_and, Bool.false_and, Bool.or_false]
theorem ew_g4 (A B : Nat → Bool) {w : Nat} (h1 : 16 ≤ w) (h2 : w < 32) : ew_G 1 A B w = (A w && B 1 || (A (w / 2) && B (2 + w % 2) || (A (w / 4) && B (4 + w % 4) || (A (w / 8) && B (8 + w % 8) || A 1 && B w)))) := by
  have e1 : w / 16 = 1 := by omega
  have e2 : 16 + w % 16 = w := by omega
  have a0 : 1 ≤ w := by omega
  have a1 : 2 ≤ w := by omega
  have a2 : 4 ≤ w := by omega
  have a3 : 8 ≤ w := by omega
  simp only [ew_G, List.any_cons, List.any_nil, Nat.one_mul, Nat.reducePow, Nat.div_one, Nat.mod_one, Nat.add_zero, e1, e2, a0, a1, a2, a3, h1, decide_true, Bool.true_and, Bool.or_false]
theorem ew_k1 (A B : Nat → Bool) {w : Nat} (h1 : 2 ≤ w) (h2 : w < 4) : ew_G 2 A B w = (A w && B 1) := by
  have a1 : ¬ 4 ≤ w := by omega
  have a2 : ¬ 8 ≤ w := by omega
  have a3 : ¬ 16 ≤ w := by omega
  have a4 : ¬ 32 ≤ w := by omega
  simp only [ew_G, List.any_cons, List.any_nil, Nat.reduceMul, Nat.reducePow, Nat.div_one, Nat.mod_one, Nat.add_zero, h1, a1, a2, a3, a4, decide_true, decide_false, Bool.true_and, Bool.false_and, Bool.or_false]
theorem ew_k2 (A B : Nat → Bool) {w : Nat} (h1 : 4 ≤ w) (h2 : w < 8) : ew_G 2 A B w = (A w && B 1 || A (w / 2) && B (2 + w % 2)) := by
  have a1 : 2 ≤ w := by omega
  have a2 : ¬ 8 ≤ w := by omega
  have a3 : ¬ 16 ≤ w := by omega
  have a4 : ¬ 32 ≤ w := by omega
  simp only [ew_G, List.any_cons, List.any_nil, Nat.reduceMul, Nat.reducePow, Nat.div_one, Nat.mod_one, Nat.add_zero, h1, a1, a2, a3, a4, decide_true, decide_false, Bool.true_and, Bool.false_and, Bool.or_false]
theorem ew_k3 (A B : Nat → Bool) {w : Nat} (h1 : 8 ≤ w) (h2 : w < 16) : ew_G 2 A B w = (A w && B 1 || (A (w / 2) && B (2 + w % 2) || A (w / 4) && B (4 + w % 4))) := by
  have a1 : 2 ≤ w := by omega
  have a2 : 4 ≤ w := by omega
  have a3 : ¬ 16 ≤ w := by omega
  have a4 : ¬ 32 ≤ w := by omega
  simp only [ew_G, List.any_cons, List.any_nil, Nat.reduceMul, Nat.reducePow, Nat.div_one, Nat.mod_one, Nat.add_zero, h1, a1, a2, a3, a4, decide_true, decide_false, Bool.true_and, Bool.false_and, Bool.or_false]
theorem ew_k4 (A B : Nat → Bool) {w : Nat} (h1 : 16 ≤ w) (h2 : w < 32) : ew_G 2 A B w = (A w && B 1 || (A (w / 2) && B (2 + w % 2) || (A (w / 4) && B (4 + w % 4) || A (w / 8) && B (8 + w % 8)))) := by
  have a1 : 2 ≤ w := by omega
  have a2 : 4 ≤ w := by omega
  have a3 : 8 ≤ w := by omega
  have a4 : ¬ 32 ≤ w := by omega
  simp only [ew_G, List.any_cons, List.any_nil, Nat.reduceMul, Nat.reducePow, Nat.div_one, Nat.mod_one, Nat.add_zero, h1, a1, a2, a3, a4, decide_true, decide_false, Bool.true_and, Bool.false_and, Bool.or_false]
theorem ew_t0 (f : Nat → Bool) : ∀ k, ew_st f k 1 = true
  | 0 => rfl
  | k + 1 => by
    show (ew_st f k 1 || ew_G 1 (ew_st f k) f 1) = true
    rw [ew_t0 f k]; rfl
theorem ew_tz (f : Nat → Bool) {w : Nat} (h : 2 ≤ w) : ew_st f 0 w = false := decide_eq_false (by omega)
theorem ew_tS (f : Nat → Bool) (k w : Nat) : ew_st f (k + 1) w = (ew_st f k w || ew_G 1 (ew_st f k) f w) := rfl
theorem ew_o1 (f : Nat → Bool) {w : Nat} (h : 2 ≤ w) (h2 : w < 32) : ew_st f 1 w = f w := by
  rw [ew_tS, ew_tz f h]
  by_cases a : w < 4
  · rw [ew_g1 _ _ h a, ew_t0, ew_tz f h]; simp
  · by_cases b : w < 8
    · rw [ew_g2 _ _ (by omega) b, ew_t0, ew_tz f h, ew_tz f (w := w / 2) (by omega)]; simp
    · by_cases c : w < 16
      · rw [ew_g3 _ _ (by omega) c, ew_t0, ew_tz f h, ew_tz f (w := w / 2) (by omega), ew_tz f (w := w / 4) (by omega)]; simp
      · rw [ew_g4 _ _ (by omega) h2, ew_t0, ew_tz f h, ew_tz f (w := w / 2) (by omega), ew_tz f (w := w / 4) (by omega), ew_tz f (w := w / 8) (by omega)]; simp
theorem ew_t1 (f : Nat → Bool) {w : Nat} (h : 2 ≤ w) (h2 : w < 4) : ∀ k, ew_st f (k + 1) w = f w
  | 0 => ew_o1 f h (by omega)
  | k + 1 => by
    rw [ew_tS, ew_g1 _ _ h h2, ew_t0, ew_t1 f h h2 k]
    cases f w <;> cases f 1 <;> rfl
theorem ew_t2 (f : Nat → Bool) {w : Nat} (h : 4 ≤ w) (h2 : w < 8) : ∀ k, ew_st f (k + 2) w = (f w || f (w / 2) && f (2 + w % 2))
  | 0 => by
    rw [ew_tS, ew_g2 _ _ h h2, ew_t0, ew_o1 f (by omega) (by omega), ew_o1 f (w := w / 2) (by omega) (by omega)]
    generalize f w = x1; generalize f 1 = x2; generalize f (w / 2) = x3; generalize f (2 + w % 2) = x4
    revert x1 x2 x3 x4; decide
  | k + 1 => by
    rw [ew_tS, ew_g2 _ _ h h2, ew_t0, ew_t2 f h h2 k, ew_t1 f (w := w / 2) (by omega) (by omega)]
    generalize f w = x1; generalize f 1 = x2; generalize f (w / 2) = x3; generalize f (2 + w % 2) = x4
    revert x1 x2 x3 x4; decide
theorem ew_u3 (f : Nat → Bool) {w : Nat} (h : 8 ≤ w) (h2 : w < 16) : ew_st f 2 w = (f w || (f (w / 2) && f (2 + w % 2) || f (w / 4) && f (4 + w % 4))) := by
  rw [ew_tS, ew_g3 _ _ h h2, ew_t0, ew_o1 f (by omega) (by omega), ew_o1 f (w := w / 2) (by omega) (by omega), ew_o1 f (w := w / 4) (by omega) (by omega)]
  generalize f w = x1; generalize f 1 = x2; generalize f (w / 2) = x3; generalize f (2 + w % 2) = x4; generalize f (w / 4) = x5; generalize f (4 + w % 4) = x6
  revert x1 x2 x3 x4 x5 x6; decide
theorem ew_t3 (f : Nat → Bool) {w : Nat} (h : 8 ≤ w) (h2 : w < 16) : ∀ k, ew_st f (k + 3) w = (f w || (f (w / 2) && f (2 + w % 2) || (f (w / 4) && f (4 + w % 4) || (f (w / 4) && f (2 + w / 2 % 2)) && f (2 + w % 2))))
  | 0 => by
    rw [ew_tS, ew_g3 _ _ h h2, ew_t0, ew_u3 f h h2, ew_t2 f (w := w / 2) (by omega) (by omega), ew_t1 f (w := w / 4) (by omega) (by omega), show w / 2 / 2 = w / 4 by omega]
    generalize f w = x1; generalize f 1 = x2; generalize f (w / 2) = x3; generalize f (2 + w % 2) = x4; generalize f (w / 4) = x5; generalize f (4 + w % 4) = x6; generalize f (2 + w / 2 % 2) = x7
    revert x1 x2 x3 x4 x5 x6 x7; decide
  | k + 1 => by
    rw [ew_tS, ew_g3 _ _ h h2, ew_t0, ew_t3 f h h2 k, ew_t2 f (w := w / 2) (by omega) (by omega) (k + 1), ew_t1 f (w := w / 4) (by omega) (by omega) (k + 2), show w / 2 / 2 = w / 4 by omega]
    generalize f w = x1; generalize f 1 = x2; generalize f (w / 2) = x3; generalize f (2 + w % 2) = x4; generalize f (w / 4) = x5; generalize f (4 + w % 4) = x6; generalize f (2 + w / 2 % 2) = x7
    revert x1 x2 x3 x4 x5 x6 x7; decide
theorem ew_u4 (f : Nat → Bool) {w : Nat} (h : 16 ≤ w) (h2 : w < 32) : ew_st f 2 w = (f w || (f (w / 2) && f (2 + w % 2) || (f (w / 4) && f (4 + w % 4) || f (w / 8) && f (8 + w % 8)))) := by
  rw [ew_tS, ew_g4 _ _ h h2, ew_t0, ew_o1 f (by omega) (by omega), ew_o1 f (w := w / 2) (by omega) (by omega), ew_o1 f (w := w / 4) (by omega) (by omega), ew_o1 f (w := w / 8) (by omega) (by omega)]
  generalize f w = x1; generalize f 1 = x2; generalize f (w / 2) = x3; generalize f (2 + w % 2) = x4; generalize f (w / 4) = x5; generalize f (4 + w % 4) = x6; generalize f (w / 8) = x7; generalize f (8 + w % 8) = x8
  revert x1 x2 x3 x4 x5 x6 x7 x8; decide +kernel
/-- a word of four letters abcd: abcd, abc d, ab cd, a bcd, ab c d, a bc d, a b cd, a b c d -/
def ew_c4 (abcd abc d ab cd a bcd c bc b : Bool) : Bool := abcd || (abc && d || (ab && cd || (a && bcd || (ab && (c && d) || (a && (bc && d) || (a && (b && cd) || a && (b && (c && d))))))))
def ew_c43 (abcd abc d ab cd a bcd c bc b : Bool) : Bool := abcd || (abc && d || (ab && cd || (a && bcd || (ab && (c && d) || (a && (bc && d) || a && (b && cd))))))
theorem ew_u43 (f : Nat → Bool) {w : Nat} (h : 16 ≤ w) (h2 : w < 32) : ew_st f 3 w = ew_c43 (f w) (f (w / 2)) (f (2 + w % 2)) (f (w / 4)) (f (4 + w % 4)) (f (w / 8)) (f (8 + w % 8)) (f (2 + w / 2 % 2)) (f (4 + w / 2 % 4)) (f (2 + w / 4 % 2)) := by
  rw [ew_tS, ew_g4 _ _ h h2, ew_t0, ew_u4 f h h2, ew_u3 f (w := w / 2) (by omega) (by omega), ew_t2 f (w := w / 4) (by omega) (by omega), ew_t1 f (w := w / 8) (by omega) (by omega), show w / 2 / 2 = w / 4 by omega, show w / 2 / 4 = w / 8 by omega, show w / 4 / 2 = w / 8 by omega]
  generalize f w = x1; generalize f 1 = x2; generalize f (w / 2) = x3; generalize f (2 + w % 2) = x4; generalize f (w / 4) = x5; generalize f (4 + w % 4) = x6; generalize f (w / 8) = x7; generalize f (8 + w % 8) = x8; generalize f (2 + w / 2 % 2) = x9; generalize f (4 + w / 2 % 4) = y1; generalize f (2 + w / 4 % 2) = y2
  revert x1 x2 x3 x4 x5 x6 x7 x8 x9 y1 y2; decide +kernel
theorem ew_t4 (f : Nat → Bool) {w : Nat} (h : 16 ≤ w) (h2 : w < 32) : ew_st f 4 w = ew_c4 (f w) (f (w / 2)) (f (2 + w % 2)) (f (w / 4)) (f (4 + w % 4)) (f (w / 8)) (f (8 + w % 8)) (f (2 + w / 2 % 2)) (f (4 + w / 2 % 4)) (f (2 + w / 4 % 2)) := by
  rw [ew_tS, ew_g4 _ _ h h2, ew_t0, ew_u43 f h h2, ew_t3 f (w := w / 2) (by omega) (by omega), ew_t2 f (w := w / 4) (by omega) (by omega) 1, ew_t1 f (w := w / 8) (by omega) (by omega), show w / 2 / 2 = w / 4 by omega, show w / 2 / 4 = w / 8 by omega, show w / 4 / 2 = w / 8 by omega]
  generalize f w = x1; generalize f 1 = x2; generalize f (w / 2) = x3; generalize f (2 + w % 2) = x4; generalize f (w / 4) = x5; generalize f (4 + w % 4) = x6; generalize f (w / 8) = x7; generalize f (8 + w % 8) = x8; generalize f (2 + w / 2 % 2) = x9; generalize f (4 + w / 2 % 4) = y1; generalize f (2 + w / 4 % 2) = y2
  revert x1 x2 x3 x4 x5 x6 x7 x8 x9 y1 y2; decide +kernel
theorem ew_fix (f : Nat → Bool) {w : Nat} (h : 2 ≤ w) (h2 : w < 32) : ew_G 2 f (ew_st f 4) w = ew_st f 4 w := by
  by_cases a : w < 4
  · rw [ew_k1 _ _ h a, ew_t0, ew_t1 f h a 3, Bool.and_true]
  · by_cases b : w < 8
    · rw [ew_k2 _ _ (by omega) b, ew_t0, ew_t1 f (w := 2 + w % 2) (by omega) (by omega) 3, ew_t2 f (by omega) b 2, Bool.and_true]
    · by_cases c : w < 16
      · rw [ew_k3 _ _ (by omega) c, ew_t0, ew_t1 f (w := 2 + w % 2) (by omega) (by omega) 3, ew_t2 f (w := 4 + w % 4) (by omega) (by omega) 2, ew_t3 f (by omega) c 1, show (4 + w % 4) / 2 = 2 + w / 2 % 2 by omega, show 2 + (4 + w % 4) % 2 = 2 + w % 2 by omega]
        generalize f w = x1; generalize f (w / 2) = x3; generalize f (2 + w % 2) = x4; generalize f (w / 4) = x5; generalize f (4 + w % 4) = x6; generalize f (2 + w / 2 % 2) = x7
        revert x1 x3 x4 x5 x6 x7; decide
      · rw [ew_k4 _ _ (by omega) h2, ew_t0, ew_t1 f (w := 2 + w % 2) (by omega) (by omega) 3, ew_t2 f (w := 4 + w % 4) (by omega) (by omega) 2, ew_t3 f (w := 8 + w % 8) (by omega) (by omega) 1, ew_t4 f (by omega) h2, show (4 + w % 4) / 2 = 2 + w / 2 % 2 by omega, show 2 + (4 + w % 4) % 2 = 2 + w % 2 by omega, show (8 + w % 8) / 2 = 4 + w / 2 % 4 by omega, show 2 + (8 + w % 8) % 2 = 2 + w % 2 by omega, show (8 + w % 8) / 4 = 2 + w / 4 % 2 by omega, show 4 + (8 + w % 8) % 4 = 4 + w % 4 by omega, show 2 + (4 + w / 2 % 4) % 2 = 2 + w / 2 % 2 by omega]
        generalize f w = x1; generalize f (w / 2) = x3; generalize f (2 + w % 2) = x4; generalize f (w / 4) = x5; generalize f (4 + w % 4) = x6; generalize f (w / 8) = x7; generalize f (8 + w % 8) = x8; generalize f (2 + w / 2 % 2) = x9; generalize f (4 + w / 2 % 4) = y1; generalize f (2 + w / 4 % 2) = y2
        revert x1 x3 x4 x5 x6 x7 x8 x9 y1 y2; decide +kernel
end
section
/-! X's languages: hasWord, codeLength, appendWord, joinLanguages, repeatLanguage, reverseLanguage -/
theorem ew_hw {post : Int32 → Prop} (x : Int32) {c : Nat} (hc : c < 32) (h1 : bt x c = true → post 1) (h0 : bt x c = false → post 0) : wpX_hasWord post x (nI c) := by
  unfold wpX_hasWord
  rw [ew_ub x hc]
  exact ⟨h1, fun z => h0 (ew_bf z)⟩
def ew_lv (c : Nat) : Nat → Nat
  | 0 => 0
  | i + 1 => if c / 2 ^ i = 0 then ew_lv c i else i
theorem ew_lv_cl : ∀ c, c < 32 → ew_lv c 5 = ew_cl c := by decide +kernel
theorem ew_cdl {post : Int32 → Prop} {c : Nat} (hc : c < 32) (h : post (nI (ew_lv c 5))) : ∀ n i, i + n = 6 → 1 ≤ i → i ≤ 5 → wX_codeLength_4 post (nI c) n (nI (ew_lv c i)) (nI i) := by
  intro n
  induction n with
  | zero => intro i h1 h2 h3; omega
  | succ n ih =>
    intro i h1 h2 h3
    refine pk_lt 4 i (fun z => ?_) (fun z => ?_)
    · have e : i = 5 := by omega
      subst e
      exact h
    · rw [ew_shr (by omega) (by omega)]
      have hd : c / 2 ^ i ≤ c := Nat.div_le_self _ _
      refine pk_le (c / 2 ^ i) 0 (fun y => nm_r (nI_1 i) ?_) (fun y => nm_r (nI_1 i) ?_)
      · have := ih (i + 1) (by omega) (by omega) (by omega)
        rw [show ew_lv c (i + 1) = ew_lv c i from if_pos (Nat.le_zero.mp y)] at this
        exact this
      · have := ih (i + 1) (by omega) (by omega) (by omega)
        rw [show ew_lv c (i + 1) = i from if_neg (Nat.pos_iff_ne_zero.mp y)] at this
        exact this
theorem ew_codeLength {post : Int32 → Prop} {c : Nat} (hc : c < 32) (h : post (nI (ew_cl c))) : wpX_codeLength post (nI c) := by
  rw [← ew_lv_cl c hc] at h
  have := ew_cdl hc h 5 1 rfl (by omega) (by omega)
  rw [show ew_lv c 1 = 0 by unfold ew_lv; split <;> rfl] at this
  exact ⟨5, this⟩
theorem ew_app_l (x : Int32) {len tail : Nat} (hl : len ≤ 4) (ht : tail < 2 ^ len) {post : Int32 → Prop} (hp : ∀ r, (∀ w, w < 32 → (bt r w = true ↔ ∃ h, 1 ≤ h ∧ h < 32 ∧ (h * 2 ^ len + tail = w ∧ bt x h = true))) → post r) : ∀ n i acc, i + n = 33 → 1 ≤ i → i ≤ 32 → (∀ w, w < 32 → (bt acc w = true ↔ ∃ h, 1 ≤ h ∧ h < i ∧ (h * 2 ^ len + tail = w ∧ bt x h = true))) → wX_appendWord_17 post x (nI len) (nI tail) n acc (nI i) := by
  have h16 : 2 ^ len ≤ 2 ^ 4 := Nat.pow_le_pow_right (by decide) hl
  intro n
  induction n with
  | zero => intro i acc h1 h2 h3; omega
  | succ n ih =>
    intro i acc h1 h2 h3 hI
    refine pk_le 32 i (fun z => ?_) (fun z => ?_)
    · have e : i = 32 := by omega
      subst e
      exact hp acc hI
    · have hb : i * 2 ^ len ≤ 32 * 2 ^ 4 := Nat.mul_le_mul (by omega) h16
      refine nm_r (e' := nI (i * 2 ^ len + tail)) (by rw [ew_shl (by omega) (by omega), nI_add]) ?_
      refine pk_le 32 (i * 2 ^ len + tail) (fun y => nm_r (nI_1 i) ?_) (fun y => ?_)
      · refine ih (i + 1) acc (by omega) (by omega) (by omega) (fun w hw => ?_)
        rw [ew_exS h2, hI w hw]
        exact ⟨Or.inl, fun q => q.elim id (fun q => by omega)⟩
      · refine ew_hw x (by omega) (fun b => ?_) (fun b => ?_)
        · refine br_f (by decide) (nm_e (nm_r (nI_1 i) ?_))
          refine ih (i + 1) _ (by omega) (by omega) (by omega) (fun w hw => ?_)
          rw [ew_exS h2, b_or, Bool.or_eq_true, hI w hw, ew_bit (by omega) hw, decide_eq_true_eq]
          exact ⟨fun q => q.imp id (fun q => ⟨q, b⟩), fun q => q.imp id (fun q => q.1)⟩
        · refine br_t rfl (nm_r (nI_1 i) ?_)
          refine ih (i + 1) acc (by omega) (by omega) (by omega) (fun w hw => ?_)
          rw [ew_exS h2, hI w hw]
          exact ⟨Or.inl, fun q => q.elim id (fun q => by rw [b] at q; exact absurd q.2 (by decide))⟩
theorem ew_app (x : Int32) {c : Nat} (h1 : 1 ≤ c) (hc : c < 32) {post : Int32 → Prop} (hp : ∀ r, (∀ w, w < 32 → (bt r w = true ↔ ∃ h, 1 ≤ h ∧ h < 32 ∧ (h * 2 ^ ew_cl c + (c - 2 ^ ew_cl c) = w ∧ bt x h = true))) → post r) : wpX_appendWord post x (nI c) := by
  obtain ⟨l1, l2, l3⟩ := ew_cl_in c hc h1
  rw [Nat.pow_succ] at l2
  unfold wpX_appendWord
  refine ew_codeLength hc ?_
  refine nm_r (e' := nI (c - 2 ^ ew_cl c)) (by rw [ew_one (by omega), pk_sub l1]) ?_
  refine ⟨32, ew_app_l x l3 (by omega) hp 32 1 0 rfl (by omega) (by omega) (fun w hw => ?_)⟩
  rw [b_0]
  exact ⟨fun z => absurd z (by decide), fun ⟨h, a, b, _⟩ => by omega⟩
theorem ew_join_l (a b : Int32) {post : Int32 → Prop} (hp : ∀ r, (∀ w, w < 32 → bt r w = ew_G 1 (bt a) (bt b) w) → post r) : ∀ n i acc, i + n = 33 → 1 ≤ i → i ≤ 32 → (∀ w, w < 32 → (bt acc w = true ↔ ∃ c, 1 ≤ c ∧ c < i ∧ (bt b c = true ∧ ∃ h, 1 ≤ h ∧ h < 32 ∧ (h * 2 ^ ew_cl c + (c - 2 ^ ew_cl c) = w ∧ bt a h = true)))) → wX_joinLanguages_4 post a b n acc (nI i) := by
  intro n
  induction n with
  | zero => intro i acc h1 h2 h3; omega
  | succ n ih =>
    intro i acc h1 h2 h3 hI
    refine pk_le 32 i (fun z => ?_) (fun z => ?_)
    · have e : i = 32 := by omega
      subst e
      refine hp acc (fun w hw => ?_)
      rw [Bool.eq_iff_iff, hI w hw, ew_join_iff _ _ hw]
    · refine ew_hw b (by omega) (fun q => ?_) (fun q => ?_)
      · refine br_f (by decide) ?_
        refine ew_app a h2 (by omega) (fun r hr => nm_e (nm_r (nI_1 i) ?_))
        refine ih (i + 1) _ (by omega) (by omega) (by omega) (fun w hw => ?_)
        rw [ew_exS h2, b_or, Bool.or_eq_true, hI w hw, hr w hw]
        exact ⟨fun y => y.imp id (fun y => ⟨q, y⟩), fun y => y.imp id (fun y => y.2)⟩
      · refine br_t rfl (nm_r (nI_1 i) ?_)
        refine ih (i + 1) acc (by omega) (by omega) (by omega) (fun w hw => ?_)
        rw [ew_exS h2, hI w hw]
        exact ⟨Or.inl, fun y => y.elim id (fun y => by rw [q] at y; exact absurd y.1 (by decide))⟩
theorem ew_join (a b : Int32) {post : Int32 → Prop} (hp : ∀ r, (∀ w, w < 32 → bt r w = ew_G 1 (bt a) (bt b) w) → post r) : wpX_joinLanguages post a b := by
  refine ⟨32, ew_join_l a b hp 32 1 0 rfl (by omega) (by omega) (fun w hw => ?_)⟩
  rw [b_0]
  exact ⟨fun z => absurd z (by decide), fun ⟨h, a, b, _⟩ => by omega⟩
theorem ew_rep_l (x : Int32) {post : Int32 → Prop} (hp : ∀ r, (∀ w, 1 ≤ w → w < 32 → bt r w = ew_st (bt x) 4 w) → post r) : ∀ n i acc, i + n = 5 → i ≤ 4 → (∀ w, 1 ≤ w → w < 32 → bt acc w = ew_st (bt x) i w) → wX_repeatLanguage_4 post x n acc (nI i) := by
  intro n
  induction n with
  | zero => intro i acc h1 h2; omega
  | succ n ih =>
    intro i acc h1 h2 hI
    refine pk_le 4 i (fun z => ?_) (fun z => ?_)
    · have e : i = 4 := by omega
      subst e
      exact hp acc hI
    · refine ew_join acc x (fun r hr => nm_e (nm_r (nI_1 i) ?_))
      refine ih (i + 1) _ (by omega) (by omega) (fun w w1 w2 => ?_)
      rw [b_or, hI w w1 w2, hr w w2, ew_tS]
      refine congrArg _ (ew_G_congr (fun s s1 s2 => ?_) (fun _ _ _ => rfl))
      refine hI _ ?_ (Nat.lt_of_le_of_lt (Nat.div_le_self _ _) w2)
      exact (Nat.le_div_iff_mul_le (Nat.two_pow_pos s)).mpr s2
theorem ew_rep (x : Int32) {post : Int32 → Prop} (hp : ∀ r, (∀ w, 1 ≤ w → w < 32 → bt r w = ew_st (bt x) 4 w) → post r) : wpX_repeatLanguage post x := by
  refine ⟨5, ew_rep_l x hp 5 0 2 rfl (by omega) (fun w _ h2 => ?_)⟩
  exact (by decide +kernel : ∀ w, w < 32 → bt 2 w = decide (w = 1)) w h2
/-- the letters of c from its last, n of them, put behind st -/
def ew_rr (st c : Nat) : Nat → Nat
  | 0 => st
  | n + 1 => ew_rr st c n * 2 + c / 2 ^ n % 2
def ew_rv (c : Nat) : Nat := ew_rr 1 c (ew_cl c)
theorem ew_rv_in : ∀ c, c < 32 → 1 ≤ c → ew_rv c < 32 ∧ 1 ≤ ew_rv c ∧ ew_rv (ew_rv c) = c := by decide +kernel
theorem ew_rr_b : ∀ c, c < 32 → ∀ n, n ≤ 4 → ew_rr 1 c n < 32 ∧ ew_rr 0 c n < 32 := by decide +kernel
theorem ew_rvc_l {c len : Nat} (hc : c < 32) (hl : len ≤ 4) {post : Int32 → Prop} (hp : post (nI (ew_rr 1 c len))) : ∀ n i, i + n = len + 1 → i ≤ len → wX_reverseCode_9 post (nI c) (nI len) n (nI (ew_rr 1 c i)) (nI i) := by
  intro n
  induction n with
  | zero => intro i h1 h2; omega
  | succ n ih =>
    intro i h1 h2
    refine pk_le len i (fun z => ?_) (fun z => ?_)
    · have e : i = len := by omega
      subst e
      exact hp
    · have hd : c / 2 ^ i ≤ c := Nat.div_le_self _ _
      refine nm_r (e' := nI (ew_rr 1 c (i + 1))) ?_ (nm_r (nI_1 i) (ih (i + 1) (by omega) (by omega)))
      rw [ew_shr (by omega) (by omega), ew_and1 (by omega)]
      show nI _ * nI 2 + _ = _
      rw [pk_mul, nI_add]
      rfl
theorem ew_rvc {c : Nat} (h1 : 1 ≤ c) (hc : c < 32) {post : Int32 → Prop} (hp : post (nI (ew_rv c))) : wpX_reverseCode post (nI c) := by
  unfold wpX_reverseCode
  obtain ⟨l1, l2, l3⟩ := ew_cl_in c hc h1
  refine ew_codeLength hc ⟨ew_cl c + 1, ?_⟩
  exact ew_rvc_l hc l3 hp (ew_cl c + 1) 0 (by omega) (by omega)
theorem ew_rev_l (x : Int32) {post : Int32 → Prop} (hp : ∀ r, (∀ w, 1 ≤ w → w < 32 → bt r w = bt x (ew_rv w)) → post r) : ∀ n i acc, i + n = 33 → 1 ≤ i → i ≤ 32 → (∀ w, w < 32 → (bt acc w = true ↔ ∃ c, 1 ≤ c ∧ c < i ∧ (bt x c = true ∧ ew_rv c = w))) → wX_reverseLanguage_4 post x n acc (nI i) := by
  intro n
  induction n with
  | zero => intro i acc h1 h2 h3; omega
  | succ n ih =>
    intro i acc h1 h2 h3 hI
    refine pk_le 32 i (fun z => ?_) (fun z => ?_)
    · have e : i = 32 := by omega
      subst e
      refine hp acc (fun w w1 w2 => ?_)
      rw [Bool.eq_iff_iff, hI w w2]
      obtain ⟨r1, r2, r3⟩ := ew_rv_in w w2 w1
      constructor
      · intro ⟨c, c1, c2, hx, e⟩
        rw [← e, (ew_rv_in c c2 c1).2.2]
        exact hx
      · intro q
        exact ⟨ew_rv w, r2, r1, q, r3⟩
    · refine ew_hw x (by omega) (fun q => ?_) (fun q => ?_)
      · refine br_f (by decide) ?_
        obtain ⟨r1, r2, r3⟩ := ew_rv_in i (by omega) h2
        refine ew_rvc h2 (by omega) (nm_e (nm_r (nI_1 i) ?_))
        refine ih (i + 1) _ (by omega) (by omega) (by omega) (fun w hw => ?_)
        rw [ew_exS h2, b_or, Bool.or_eq_true, hI w hw, ew_bit r1 hw, decide_eq_true_eq]
        exact ⟨fun y => y.imp id (fun y => ⟨q, y⟩), fun y => y.imp id (fun y => y.2)⟩
      · refine br_t rfl (nm_r (nI_1 i) ?_)
        refine ih (i + 1) acc (by omega) (by omega) (by omega) (fun w hw => ?_)
        rw [ew_exS h2, hI w hw]
        exact ⟨Or.inl, fun y => y.elim id (fun y => by rw [q] at y; exact absurd y.1 (by decide))⟩
theorem ew_rev (x : Int32) {post : Int32 → Prop} (hp : ∀ r, (∀ w, 1 ≤ w → w < 32 → bt r w = bt x (ew_rv w)) → post r) : wpX_reverseLanguage post x := by
  refine ⟨32, ew_rev_l x hp 32 1 0 rfl (by omega) (by omega) (fun w hw => ?_)⟩
  rw [b_0]
  exact ⟨fun z => absurd z (by decide), fun ⟨h, a, b, _⟩ => by omega⟩
end
section
/-! Y's languages: the word of code c is bit c - 1 -/
def ew_L (y : Int32) : Nat → Bool := fun c => bt y (c - 1)
section
variable {d R C : Int32} {st lc ln pn : Nat → Int32}
theorem ew_ix {len bits : Nat} (hl : len ≤ 4) : (((1 : Int32) <<< (nI len &&& 31)) - 1) + nI bits = nI (2 ^ len + bits - 1) := by
  have hp := Nat.two_pow_pos len
  rw [ew_one (by omega), show nI (2 ^ len) - 1 = nI (2 ^ len - 1) from pk_sub (b := 1) hp, nI_add]
  exact congrArg nI (by omega)
theorem ew_p16 {len : Nat} (hl : len ≤ 4) : 2 ^ len ≤ 16 := (Nat.pow_le_pow_right (by decide) hl : 2 ^ len ≤ 2 ^ 4)
theorem ew_ho {post : Int32 → Prop} (x : Int32) {len bits : Nat} (hl : len ≤ 4) (hb : bits < 2 ^ len) (h1 : ew_L x (2 ^ len + bits) = true → post 1) (h0 : ew_L x (2 ^ len + bits) = false → post 0) : wpY_holds post (d, R, C, st, lc, ln, pn) x (nI len) (nI bits) := by
  have := ew_p16 hl
  unfold wpY_holds
  dsimp only
  rw [ew_ix hl, ew_sb x (by omega)]
  exact ⟨h1, fun z => h0 (ew_bf z)⟩
theorem ew_wo {post : Int32 → Prop} {len bits : Nat} (hl : len ≤ 4) (h : post ((1 : Int32) <<< (nI (2 ^ len + bits - 1) &&& 31))) : wpY_word post (d, R, C, st, lc, ln, pn) (nI len) (nI bits) := by
  unfold wpY_word
  dsimp only
  rw [ew_ix hl]
  exact h
theorem ew_spl_l (x y : Int32) {len bits : Nat} (hl : len ≤ 4) (hb : bits < 2 ^ len) {post : Int32 → Prop} : ∀ n p, p + n = len + 2 → p ≤ len + 1 → (∀ q, p ≤ q → q ≤ len → ew_L x ((2 ^ len + bits) / 2 ^ (len - q)) = true → ew_L y (2 ^ (len - q) + (2 ^ len + bits) % 2 ^ (len - q)) = true → post 1) → ((∀ q, p ≤ q → q ≤ len → ¬ (ew_L x ((2 ^ len + bits) / 2 ^ (len - q)) = true ∧ ew_L y (2 ^ (len - q) + (2 ^ len + bits) % 2 ^ (len - q)) = true)) → post 0) → wY_splits_3 post x y (nI len) (nI bits) d R C st lc ln pn n (nI p) := by
  have h16 := ew_p16 hl
  intro n
  induction n with
  | zero => intro p a b; omega
  | succ n ih =>
    intro p a b h1 h0
    refine pk_lt len p (fun z => ?_) (fun z => ?_)
    · exact h0 (fun q q1 q2 => by omega)
    · refine nm_r (pk_sub z) ?_
      have hs : 2 ^ len = 2 ^ (len - p) * 2 ^ p := by rw [← Nat.pow_add]; exact congrArg _ (by omega)
      have hp := Nat.two_pow_pos (len - p)
      have e1 : (2 ^ len + bits) / 2 ^ (len - p) = 2 ^ p + bits / 2 ^ (len - p) := by
        rw [hs, Nat.mul_add_div hp]
      have e2 : (2 ^ len + bits) % 2 ^ (len - p) = bits % 2 ^ (len - p) := by
        rw [hs, Nat.mul_add_mod]
      have hm := Nat.mod_lt bits hp
      have hd : bits / 2 ^ (len - p) < 2 ^ p := by
        rw [Nat.div_lt_iff_lt_mul hp, Nat.mul_comm, ← hs]; exact hb
      have nx : ∀ r, (ew_L x ((2 ^ len + bits) / 2 ^ (len - p)) = true ∧ ew_L y (2 ^ (len - p) + (2 ^ len + bits) % 2 ^ (len - p)) = true → False) → r = nI (p + 1) → wY_splits_3 post x y (nI len) (nI bits) d R C st lc ln pn n r := by
        intro r hn hr
        rw [hr]
        refine ih (p + 1) (by omega) (by omega) (fun q q1 q2 => h1 q (by omega) q2) (fun k => h0 (fun q q1 q2 => ?_))
        by_cases e : q = p
        · subst e; exact hn
        · exact k q (by omega) q2
      rw [ew_shr (by omega) (by omega), ew_one (by omega), ew_mask (by omega) (by omega)]
      refine ew_ho x (by omega) hd (fun a1 => ?_) (fun a1 => ?_)
      · refine br_f (by decide) ?_
        refine ew_ho y (by omega) hm (fun a2 => ?_) (fun a2 => ?_)
        · exact br_f (by decide) (h1 p (Nat.le_refl _) z (by rw [e1]; exact a1) (by rw [e2]; exact a2))
        · refine br_t rfl (fun r hr => nx r (fun k => ?_) (hr.trans (nI_1 p)))
          rw [e2, a2] at k
          exact absurd k.2 (by decide)
      · refine br_t rfl (fun r hr => nx r (fun k => ?_) (hr.trans (nI_1 p)))
        rw [e1, a1] at k
        exact absurd k.1 (by decide)
theorem ew_spl (x y : Int32) {len bits least : Nat} (hl : len ≤ 4) (hb : bits < 2 ^ len) (hle : least ≤ len + 1) {post : Int32 → Prop} (h1 : ew_G (2 ^ least) (ew_L x) (ew_L y) (2 ^ len + bits) = true → post 1) (h0 : ew_G (2 ^ least) (ew_L x) (ew_L y) (2 ^ len + bits) = false → post 0) : wpY_splits post (d, R, C, st, lc, ln, pn) x y (nI least) (nI len) (nI bits) := by
  refine ⟨len + 2 - least, ew_spl_l x y hl hb (len + 2 - least) least (by omega) hle (fun q q1 q2 a1 a2 => h1 ?_) (fun k => h0 (ew_bf (fun g => ?_)))⟩
  · rw [ew_G_iff]
    refine ⟨len - q, by omega, ?_, a1, a2⟩
    have : 2 ^ (least + (len - q)) ≤ 2 ^ len := Nat.pow_le_pow_right (by decide) (by omega)
    rw [Nat.pow_add] at this
    omega
  · rw [ew_G_iff] at g
    obtain ⟨s, s1, s2, a1, a2⟩ := g
    have hlt : 2 ^ (least + s) < 2 ^ (len + 1) := by
      rw [Nat.pow_add, Nat.pow_succ]; omega
    have hls : least + s < len + 1 := (Nat.pow_lt_pow_iff_right (by decide)).mp hlt
    refine k (len - s) (by omega) (by omega) ?_
    rw [show len - (len - s) = s by omega]
    exact ⟨a1, a2⟩
/-- the words of codes below c are in s as F says, no others -/
def ew_I (F : Nat → Bool) (c : Nat) (s : Int32) : Prop := ∀ w, 1 ≤ w → w < 32 → ew_L s w = (decide (w < c) && F w)
theorem ew_I1 {F : Nat → Bool} {c : Nat} {s : Int32} (h1 : 1 ≤ c) (hc : c < 32) (h : ew_I F c s) (hF : F c = true) : ew_I F (c + 1) (s ||| ((1 : Int32) <<< (nI (c - 1) &&& 31))) := by
  intro w w1 w2
  show bt _ (w - 1) = _
  rw [b_or, ew_bit (by omega) (by omega)]
  have := h w w1 w2
  unfold ew_L at this
  rw [this]
  by_cases e : w = c
  · subst e; simp [hF]
  · have e1 : ¬ c - 1 = w - 1 := by omega
    have e2 : (w < c + 1) ↔ w < c := by omega
    simp [e1, e2]
theorem ew_I0 {F : Nat → Bool} {c : Nat} {s : Int32} (h : ew_I F c s) (hF : F c = false) : ew_I F (c + 1) s := by
  intro w w1 w2
  rw [h w w1 w2]
  by_cases e : w = c
  · subst e; simp [hF]
  · have e2 : (w < c + 1) ↔ w < c := by omega
    simp [e2]
theorem ew_I32 {F : Nat → Bool} {s : Int32} (h : ew_I F (2 ^ 5) s) : ∀ w, 1 ≤ w → w < 32 → ew_L s w = F w := by
  intro w w1 w2
  rw [h w w1 w2, decide_eq_true (by omega)]
  rfl
theorem ew_prod_in (x y : Int32) {len : Nat} (hl : len ≤ 4) {post : Int32 → Prop} {J : Int32 → Int32 → Prop} (hJ : ∀ s, ew_I (ew_G 1 (ew_L x) (ew_L y)) (2 ^ (len + 1)) s → J s (nI (len + 1))) : ∀ n bits s, bits + n = 2 ^ len + 1 → bits ≤ 2 ^ len → ew_I (ew_G 1 (ew_L x) (ew_L y)) (2 ^ len + bits) s → wY_products_14 post J x y (nI len) d R C st lc ln pn n s (nI bits) := by
  have h16 := ew_p16 hl
  have hp := Nat.two_pow_pos len
  intro n
  induction n with
  | zero => intro bits s a b; omega
  | succ n ih =>
    intro bits s a b hI
    refine pk_le (2 ^ len) bits (fun z => nm_r (nI_1 len) ?_) (fun z => ?_) (hx := ew_one (by omega))
    · have e : bits = 2 ^ len := by omega
      subst e
      refine hJ s ?_
      rw [Nat.pow_succ, Nat.mul_two]
      exact hI
    · refine ew_spl (least := 0) x y hl z (by omega) (fun g => ?_) (fun g => ?_)
      · refine br_f (by decide) (ew_wo hl (nm_e (nm_r (nI_1 bits) ?_)))
        exact ih (bits + 1) _ (by omega) (by omega) (ew_I1 (c := 2 ^ len + bits) (by omega) (by omega) hI g)
      · refine br_t rfl (nm_r (nI_1 bits) ?_)
        exact ih (bits + 1) _ (by omega) (by omega) (ew_I0 hI g)
theorem ew_prod_out (x y : Int32) {post : Int32 → Prop} (hp : ∀ r, (∀ w, 1 ≤ w → w < 32 → ew_L r w = ew_G 1 (ew_L x) (ew_L y) w) → post r) : ∀ n len s, len + n = 6 → len ≤ 5 → ew_I (ew_G 1 (ew_L x) (ew_L y)) (2 ^ len) s → wY_products_5 post x y d R C st lc ln pn n s (nI len) := by
  intro n
  induction n with
  | zero => intro len s a b; omega
  | succ n ih =>
    intro len s a b hI
    refine pk_lt 4 len (fun z => ?_) (fun z => ?_)
    · have e : len = 5 := by omega
      subst e
      exact hp s (ew_I32 hI)
    · exact ⟨2 ^ len + 1, ew_prod_in x y z (fun s' h' => ih (len + 1) s' (by omega) (by omega) h') (2 ^ len + 1) 0 s (by omega) (Nat.zero_le _) hI⟩
theorem ew_prod (x y : Int32) {post : Int32 → Prop} (hp : ∀ r, (∀ w, 1 ≤ w → w < 32 → ew_L r w = ew_G 1 (ew_L x) (ew_L y) w) → post r) : wpY_products post (d, R, C, st, lc, ln, pn) x y := by
  refine ⟨6, ew_prod_out x y hp 6 0 0 rfl (by omega) (fun w w1 w2 => ?_)⟩
  show bt 0 _ = _
  rw [b_0, decide_eq_false (by omega)]
  rfl
theorem ew_ch_in (x : Int32) {len : Nat} (hl : len ≤ 4) (hl1 : 1 ≤ len) {post : Int32 → Prop} {J : Int32 → Int32 → Prop} (hJ : ∀ s, ew_I (ew_st (ew_L x) 4) (2 ^ (len + 1)) s → J s (nI (len + 1))) : ∀ n bits s, bits + n = 2 ^ len + 1 → bits ≤ 2 ^ len → ew_I (ew_st (ew_L x) 4) (2 ^ len + bits) s → wY_chains_12 post J x (nI len) d R C st lc ln pn n s (nI bits) := by
  have h16 := ew_p16 hl
  have hp := Nat.two_pow_pos len
  have h2 : 2 ^ 1 ≤ 2 ^ len := Nat.pow_le_pow_right (by decide) hl1
  intro n
  induction n with
  | zero => intro bits s a b; omega
  | succ n ih =>
    intro bits s a b hI
    refine pk_le (2 ^ len) bits (fun z => nm_r (nI_1 len) ?_) (fun z => ?_) (hx := ew_one (by omega))
    · have e : bits = 2 ^ len := by omega
      subst e
      refine hJ s ?_
      rw [Nat.pow_succ, Nat.mul_two]
      exact hI
    · have hg : ew_G (2 ^ 1) (ew_L x) (ew_L s) (2 ^ len + bits) = ew_st (ew_L x) 4 (2 ^ len + bits) := by
        rw [← ew_fix (ew_L x) (w := 2 ^ len + bits) (by omega) (by omega)]
        refine ew_G_congr (fun _ _ _ => rfl) (fun q q1 q2 => ?_)
        have hq := Nat.two_pow_pos q
        have hm := Nat.mod_lt (2 ^ len + bits) hq
        rw [hI _ (by omega) (by omega), decide_eq_true (by omega)]
        rfl
      refine ew_spl (least := 1) x s hl z (by omega) (fun g => ?_) (fun g => ?_)
      · refine br_f (by decide) (ew_wo hl (nm_e (nm_r (nI_1 bits) ?_)))
        exact ih (bits + 1) _ (by omega) (by omega) (ew_I1 (c := 2 ^ len + bits) (by omega) (by omega) hI (hg ▸ g))
      · refine br_t rfl (nm_r (nI_1 bits) ?_)
        exact ih (bits + 1) _ (by omega) (by omega) (ew_I0 hI (hg ▸ g))
theorem ew_ch_out (x : Int32) {post : Int32 → Prop} (hp : ∀ r, (∀ w, 1 ≤ w → w < 32 → ew_L r w = ew_st (ew_L x) 4 w) → post r) : ∀ n len s, len + n = 6 → 1 ≤ len → len ≤ 5 → ew_I (ew_st (ew_L x) 4) (2 ^ len) s → wY_chains_4 post x d R C st lc ln pn n s (nI len) := by
  intro n
  induction n with
  | zero => intro len s a _ b; omega
  | succ n ih =>
    intro len s a b1 b hI
    refine pk_lt 4 len (fun z => ?_) (fun z => ?_)
    · have e : len = 5 := by omega
      subst e
      exact hp s (ew_I32 hI)
    · exact ⟨2 ^ len + 1, ew_ch_in x z b1 (fun s' h' => ih (len + 1) s' (by omega) (by omega) (by omega) h') (2 ^ len + 1) 0 s (by omega) (Nat.zero_le _) hI⟩
theorem ew_ch (x : Int32) {post : Int32 → Prop} (hp : ∀ r, (∀ w, 1 ≤ w → w < 32 → ew_L r w = ew_st (ew_L x) 4 w) → post r) : wpY_chains post (d, R, C, st, lc, ln, pn) x := by
  refine ⟨5, ew_ch_out x hp 5 1 1 rfl (by omega) (by omega) (fun w w1 w2 => ?_)⟩
  have hb : ∀ w, w < 32 → bt 1 w = decide (w = 0) := by decide +kernel
  show bt 1 (w - 1) = _
  rw [hb (w - 1) (by omega)]
  by_cases e : w = 1
  · subst e; rw [ew_t0]; rfl
  · rw [decide_eq_false (by omega), decide_eq_false (by omega)]; rfl
theorem ew_mi_t : ∀ len, len < 5 → ∀ bits, bits < 2 ^ len → ew_rr 0 bits len < 2 ^ len ∧ 2 ^ len + ew_rr 0 bits len = ew_rv (2 ^ len + bits) := by decide +kernel
theorem ew_mid_l {bits len : Nat} (hc : bits < 32) (hl : len ≤ 4) {post : Int32 → Prop} (hp : post (nI (ew_rr 0 bits len))) : ∀ n i, i + n = len + 1 → i ≤ len → wY_mirrored_5 post (nI len) (nI bits) d R C st lc ln pn n (nI (ew_rr 0 bits i)) (nI i) := by
  intro n
  induction n with
  | zero => intro i h1 h2; omega
  | succ n ih =>
    intro i h1 h2
    refine pk_le len i (fun z => ?_) (fun z => ?_)
    · have e : i = len := by omega
      subst e
      exact hp
    · have hd : bits / 2 ^ i ≤ bits := Nat.div_le_self _ _
      refine nm_r (e' := nI (ew_rr 0 bits (i + 1))) ?_ (nm_r (nI_1 i) (ih (i + 1) (by omega) (by omega)))
      rw [ew_shr (by omega) (by omega), ew_and1 (by omega)]
      show nI _ * nI 2 + _ = _
      rw [pk_mul, nI_add]
      rfl
theorem ew_mid {bits len : Nat} (hl : len ≤ 4) (hb : bits < 2 ^ len) {post : Int32 → Prop} (hp : post (nI (ew_rr 0 bits len))) : wpY_mirrored post (d, R, C, st, lc, ln, pn) (nI len) (nI bits) := by
  have h16 := ew_p16 hl
  exact ⟨len + 1, ew_mid_l (by omega) hl hp (len + 1) 0 (by omega) (by omega)⟩
theorem ew_mi_in (x : Int32) {len : Nat} (hl : len ≤ 4) {post : Int32 → Prop} {J : Int32 → Int32 → Prop} (hJ : ∀ s, ew_I (fun w => ew_L x (ew_rv w)) (2 ^ (len + 1)) s → J s (nI (len + 1))) : ∀ n bits s, bits + n = 2 ^ len + 1 → bits ≤ 2 ^ len → ew_I (fun w => ew_L x (ew_rv w)) (2 ^ len + bits) s → wY_mirrors_12 post J x (nI len) d R C st lc ln pn n s (nI bits) := by
  have h16 := ew_p16 hl
  have hp := Nat.two_pow_pos len
  intro n
  induction n with
  | zero => intro bits s a b; omega
  | succ n ih =>
    intro bits s a b hI
    refine pk_le (2 ^ len) bits (fun z => nm_r (nI_1 len) ?_) (fun z => ?_) (hx := ew_one (by omega))
    · have e : bits = 2 ^ len := by omega
      subst e
      refine hJ s ?_
      rw [Nat.pow_succ, Nat.mul_two]
      exact hI
    · obtain ⟨m1, m2⟩ := ew_mi_t len (by omega) bits z
      refine ew_mid hl z ?_
      refine ew_ho x hl m1 (fun g => ?_) (fun g => ?_)
      · refine br_f (by decide) (ew_wo hl (nm_e (nm_r (nI_1 bits) ?_)))
        exact ih (bits + 1) _ (by omega) (by omega) (ew_I1 (c := 2 ^ len + bits) (by omega) (by omega) hI (by rw [m2] at g; exact g))
      · refine br_t rfl (nm_r (nI_1 bits) ?_)
        exact ih (bits + 1) _ (by omega) (by omega) (ew_I0 hI (by rw [m2] at g; exact g))
theorem ew_mi_out (x : Int32) {post : Int32 → Prop} (hp : ∀ r, (∀ w, 1 ≤ w → w < 32 → ew_L r w = ew_L x (ew_rv w)) → post r) : ∀ n len s, len + n = 6 → len ≤ 5 → ew_I (fun w => ew_L x (ew_rv w)) (2 ^ len) s → wY_mirrors_4 post x d R C st lc ln pn n s (nI len) := by
  intro n
  induction n with
  | zero => intro len s a b; omega
  | succ n ih =>
    intro len s a b hI
    refine pk_lt 4 len (fun z => ?_) (fun z => ?_)
    · have e : len = 5 := by omega
      subst e
      exact hp s (ew_I32 hI)
    · exact ⟨2 ^ len + 1, ew_mi_in x z (fun s' h' => ih (len + 1) s' (by omega) (by omega) h') (2 ^ len + 1) 0 s (by omega) (Nat.zero_le _) hI⟩
theorem ew_mi (x : Int32) {post : Int32 → Prop} (hp : ∀ r, (∀ w, 1 ≤ w → w < 32 → ew_L r w = ew_L x (ew_rv w)) → post r) : wpY_mirrors post (d, R, C, st, lc, ln, pn) x := by
  refine ⟨6, ew_mi_out x hp 6 0 0 rfl (by omega) (fun w w1 w2 => ?_)⟩
  show bt 0 _ = _
  rw [b_0, decide_eq_false (by omega)]
  rfl
end
/-! a language of X and one of Y that say the same -/
def ew_Lg (x y : Int32) : Prop := ∀ w, 1 ≤ w → w < 32 → bt x w = ew_L y w
theorem ew_Lg_or {x y x' y' : Int32} (h : ew_Lg x y) (h' : ew_Lg x' y') : ew_Lg (x ||| x') (y ||| y') := by
  intro w w1 w2
  show _ = bt _ _
  rw [b_or, b_or, h w w1 w2, h' w w1 w2]
  rfl
theorem ew_Lg_G {m : Nat} (hm : 1 ≤ m) {x y x' y' : Int32} (h : ew_Lg x y) (h' : ew_Lg x' y') {w : Nat} (hw : w < 32) : ew_G m (bt x) (bt x') w = ew_G m (ew_L y) (ew_L y') w := by
  refine ew_G_congr (fun s s1 s2 => ?_) (fun s s1 s2 => ?_)
  · have h1 : 1 * 2 ^ s ≤ m * 2 ^ s := Nat.mul_le_mul_right _ hm
    exact h _ ((Nat.le_div_iff_mul_le (Nat.two_pow_pos s)).mpr (by omega)) (Nat.lt_of_le_of_lt (Nat.div_le_self _ _) hw)
  · have hq := Nat.two_pow_pos s
    have hm := Nat.mod_lt w hq
    have := ew_p16 s1
    exact h' _ (by omega) (by omega)
theorem ew_st_congr {f g : Nat → Bool} (h : ∀ w, 1 ≤ w → w < 32 → f w = g w) : ∀ k w, 1 ≤ w → w < 32 → ew_st f k w = ew_st g k w := by
  intro k
  induction k with
  | zero => intro w _ _; rfl
  | succ k ih =>
    intro w w1 w2
    rw [ew_tS, ew_tS, ih w w1 w2]
    refine congrArg _ (ew_G_congr (fun s s1 s2 => ?_) (fun s s1 s2 => ?_))
    · exact ih _ ((Nat.le_div_iff_mul_le (Nat.two_pow_pos s)).mpr s2) (Nat.lt_of_le_of_lt (Nat.div_le_self _ _) w2)
    · have hq := Nat.two_pow_pos s
      have hm := Nat.mod_lt w hq
      have := ew_p16 s1
      exact h _ (by omega) (by omega)
theorem ew_Lg_c {x y : Int32} (h : (List.range 31).all (fun i => bt x (i + 1) == bt y i) = true) : ew_Lg x y := by
  intro w w1 w2
  rw [List.all_eq_true] at h
  have := h (w - 1) (List.mem_range.mpr (by omega))
  rw [beq_iff_eq, show w - 1 + 1 = w by omega] at this
  exact this
theorem ew_Lg_0 : ew_Lg 0 0 := ew_Lg_c (by decide +kernel)
theorem ew_Lg_all : ew_Lg (-2) 2147483647 := ew_Lg_c (by decide +kernel)
theorem ew_Lg_1 : ew_Lg 2 1 := ew_Lg_c (by decide +kernel)
theorem ew_Lg_2 : ew_Lg 4 2 := ew_Lg_c (by decide +kernel)
theorem ew_Lg_4 : ew_Lg 8 4 := ew_Lg_c (by decide +kernel)
theorem ew_Lg_6 : ew_Lg 12 6 := ew_Lg_c (by decide +kernel)
/-- cat, star, reverse: both sides end in languages that say the same -/
theorem ew_cat2 {a b a' b' : Int32} (ha : ew_Lg a a') (hb : ew_Lg b b') {d R C : Int32} {st lc ln pn : Nat → Int32} {P : Int32 → Int32 → Prop} (h : ∀ r r', ew_Lg r r' → P r r') : wpX_joinLanguages (fun r => wpY_products (fun r' => P r r') (d, R, C, st, lc, ln, pn) a' b') a b :=
  ew_join a b (fun r hr => ew_prod a' b' (fun r' hr' => h r r' (fun w w1 w2 => by rw [hr w w2, hr' w w1 w2]; exact ew_Lg_G (Nat.le_refl 1) ha hb w2)))
end
section
/-! lines, words and pins of both sides -/
def ew_len (R C line : Nat) : Nat := if line < R then C else R
def ew_cell (R C line i : Nat) : Nat := if line < R then line * C + i else i * C + (line - R)
def ew_cy (R line i : Nat) : Nat := if line < R then line * 4 + i else i * 4 + (line - R)
def ew_dg (R C n cell : Nat) : Nat := n / 2 ^ (R * C - 1 - cell) % 2
def ew_wd (g : Nat → Nat) : Nat → Nat
  | 0 => 0
  | k + 1 => ew_wd g k * 2 + g k
theorem ew_wd_lt {g : Nat → Nat} (hg : ∀ i, g i < 2) : ∀ k, ew_wd g k < 2 ^ k
  | 0 => Nat.zero_lt_one
  | k + 1 => by
    have h1 := ew_wd_lt hg k
    have h2 := hg k
    rw [Nat.pow_succ]
    show ew_wd g k * 2 + g k < _
    omega
theorem ew_wd_dg {g : Nat → Nat} (hg : ∀ i, g i < 2) : ∀ k i, i < k → ew_wd g k / 2 ^ (k - 1 - i) % 2 = g i
  | 0 => fun i h => by omega
  | k + 1 => fun i h => by
    show (ew_wd g k * 2 + g k) / 2 ^ (k + 1 - 1 - i) % 2 = g i
    have h2 := hg k
    by_cases e : i = k
    · subst e
      rw [show i + 1 - 1 - i = 0 by omega, Nat.pow_zero, Nat.div_one]
      omega
    · rw [show k + 1 - 1 - i = 1 + (k - 1 - i) by omega, Nat.pow_add, ← Nat.div_div_eq_div_mul, show (ew_wd g k * 2 + g k) / 2 ^ 1 = ew_wd g k by omega]
      exact ew_wd_dg hg k i (by omega)
theorem ew_dg_lt (R C n cell : Nat) : ew_dg R C n cell < 2 := Nat.mod_lt _ (by decide)
section
variable {R C : Nat} (hR1 : 1 ≤ R) (hR : R ≤ 3) (hC1 : 1 ≤ C) (hC : C ≤ 4)
theorem ew_RC (hR : R ≤ 3) (hC : C ≤ 4) : R * C ≤ 12 := Nat.mul_le_mul hR hC
theorem ew_rc {r c : Nat} (h1 : r < R) (h2 : c < C) : r * C + c < R * C := by
  have h : (r + 1) * C ≤ R * C := Nat.mul_le_mul_right _ h1
  rw [Nat.add_mul, Nat.one_mul] at h
  omega
theorem ew_len_in (hR1 : 1 ≤ R) (hR : R ≤ 3) (hC1 : 1 ≤ C) (hC : C ≤ 4) (line : Nat) : 1 ≤ ew_len R C line ∧ ew_len R C line ≤ 4 := by
  unfold ew_len
  split <;> omega
theorem ew_cell_lt {line i : Nat} (hl : line < R + C) (hi : i < ew_len R C line) : ew_cell R C line i < R * C := by
  unfold ew_len at hi
  unfold ew_cell
  by_cases h : line < R
  · rw [if_pos h] at hi ⊢
    exact ew_rc h hi
  · rw [if_neg h] at hi ⊢
    exact ew_rc hi (by omega)
theorem ew_cy_lt (hR : R ≤ 3) (hC : C ≤ 4) {line i : Nat} (hl : line < R + C) (hi : i < ew_len R C line) : ew_cy R line i < 12 := by
  unfold ew_len at hi
  unfold ew_cy
  by_cases h : line < R
  · rw [if_pos h] at hi ⊢
    omega
  · rw [if_neg h] at hi ⊢
    omega
theorem ew_lat {n cell : Nat} (hR : R ≤ 3) (hC : C ≤ 4) (hn : n < 2 ^ 31) (hc : cell < R * C) : (nI n >>> ((((nI R * nI C) - 1) - nI cell) &&& 31)) &&& 1 = nI (ew_dg R C n cell) := by
  have h := ew_RC hR hC
  have h2 : n / 2 ^ (R * C - 1 - cell) ≤ n := Nat.div_le_self _ _
  rw [pk_mul, show nI (R * C) - 1 = nI (R * C - 1) from pk_sub (b := 1) (by omega), pk_sub (by omega), ew_shr hn (by omega), ew_and1 (by omega)]
  rfl
section
variable {D : Int32} {LL PX SL SK : Nat → Int32}
theorem ew_xll (hR : R ≤ 3) {line : Nat} (hl : line < 8) {post : Int32 → Prop} (h : post (nI (ew_len R C line))) : wpX_lineLength post (nI R, nI C, D, LL, PX, SL, SK) (nI line) := by
  unfold ew_len at h
  refine pk_le R line (fun z => ?_) (fun z => ?_)
  · rw [if_neg (by omega)] at h; exact h
  · rw [if_pos z] at h; exact h
theorem ew_xlc (hR : R ≤ 3) {line i : Nat} (hl : line < 8) {post : Int32 → Prop} (h : post (nI (ew_cell R C line i))) : wpX_lineCell post (nI R, nI C, D, LL, PX, SL, SK) (nI line) (nI i) := by
  unfold ew_cell at h
  refine pk_le R line (fun z => ?_) (fun z => ?_)
  · rw [if_neg (by omega)] at h
    rw [pk_mul, pk_sub z, nI_add]; exact h
  · rw [if_pos z] at h
    rw [pk_mul, nI_add]; exact h
theorem ew_xla (hR : R ≤ 3) (hC : C ≤ 4) {n cell : Nat} (hn : n < 2 ^ 31) (hc : cell < R * C) {post : Int32 → Prop} (h : post (nI (ew_dg R C n cell))) : wpX_letterAt post (nI R, nI C, D, LL, PX, SL, SK) (nI n) (nI cell) := by
  unfold wpX_letterAt
  dsimp only
  rw [ew_lat hR hC hn hc]
  exact h
/-- the word that number n writes into a line -/
def ew_ws (R C n line : Nat) : Nat := ew_wd (fun i => ew_dg R C n (ew_cell R C line i)) (ew_len R C line)
theorem ew_xlw_l (hR : R ≤ 3) (hC : C ≤ 4) {n line : Nat} (hn : n < 2 ^ 31) (hl : line < R + C) {post : Int32 → Prop} (h : post (nI (ew_ws R C n line))) : ∀ m i, i + m = ew_len R C line + 1 → i ≤ ew_len R C line → wX_lineWord_12 post (nI line) (nI n) (nI (ew_len R C line)) (nI R) (nI C) D LL PX SL SK m (nI (ew_wd (fun i => ew_dg R C n (ew_cell R C line i)) i)) (nI i) := by
  have hb : ew_len R C line ≤ 4 := by unfold ew_len; split <;> omega
  intro m
  induction m with
  | zero => intro i a b; omega
  | succ m ih =>
    intro i a b
    refine pk_le (ew_len R C line) i (fun z => ?_) (fun z => ?_)
    · have e : i = ew_len R C line := by omega
      rw [e]; exact h
    · refine ew_xlc hR (by omega) ?_
      refine ew_xla hR hC hn (ew_cell_lt hl z) ?_
      refine nm_r (e' := nI (ew_wd (fun i => ew_dg R C n (ew_cell R C line i)) (i + 1))) ?_ (nm_r (nI_1 i) (ih (i + 1) (by omega) (by omega)))
      show nI _ * nI 2 + _ = _
      rw [pk_mul, nI_add]
      rfl
theorem ew_xlw (hR : R ≤ 3) (hC : C ≤ 4) {n line : Nat} (hn : n < 2 ^ 31) (hl : line < R + C) {post : Int32 → Prop} (h : post (nI (ew_ws R C n line))) : wpX_lineWord post (nI R, nI C, D, LL, PX, SL, SK) (nI line) (nI n) := by
  unfold wpX_lineWord
  dsimp only
  refine ew_xll hR (by omega) ⟨ew_len R C line + 1, ?_⟩
  exact ew_xlw_l hR hC hn hl h (ew_len R C line + 1) 0 (by omega) (by omega)
/-- word w keeps the pins of a line, X's and Y's -/
def ew_kx (R C : Nat) (PX : Nat → Int32) (line w : Nat) : Prop := ∀ i, i < ew_len R C line → PX (ew_cell R C line i) = 2 ∨ PX (ew_cell R C line i) = nI (w / 2 ^ (ew_len R C line - 1 - i) % 2)
def ew_ky (R C : Nat) (pn : Nat → Int32) (line w : Nat) : Prop := ∀ i, i < ew_len R C line → pn (ew_cy R line i) = 2 ∨ pn (ew_cy R line i) = nI (w / 2 ^ (ew_len R C line - 1 - i) % 2)
def ew_wf (R C : Nat) (LL PX : Nat → Int32) (line w : Nat) : Prop := ew_kx R C PX line w ∧ bt (LL line) (2 ^ ew_len R C line + w) = true
theorem ew_sub1 {len i : Nat} (h : i < len) : (nI len - 1) - nI i = nI (len - 1 - i) := by
  rw [show nI len - 1 = nI (len - 1) from pk_sub (b := 1) (by omega), pk_sub (by omega)]
theorem ew_bitw {len i w : Nat} (hl : len ≤ 4) (h : i < len) (hw : w < 16) : (nI w >>> (((nI len - 1) - nI i) &&& 31)) &&& 1 = nI (w / 2 ^ (len - 1 - i) % 2) := by
  have h2 : w / 2 ^ (len - 1 - i) ≤ w := Nat.div_le_self _ _
  rw [ew_sub1 h, ew_shr (by omega) (by omega), ew_and1 (by omega)]
theorem ew_xwf_l (hR : R ≤ 3) (hC : C ≤ 4) {line w : Nat} (hl : line < R + C) (hw : w < 2 ^ ew_len R C line) {post : Int32 → Prop} (h1 : ew_wf R C LL PX line w → post 1) (h0 : ¬ ew_wf R C LL PX line w → post 0) : ∀ m i, i + m = ew_len R C line + 1 → i ≤ ew_len R C line → (∀ j, j < i → PX (ew_cell R C line j) = 2 ∨ PX (ew_cell R C line j) = nI (w / 2 ^ (ew_len R C line - 1 - j) % 2)) → wX_wordFits_9 post (nI line) (nI w) (nI (ew_len R C line)) (nI R) (nI C) D LL PX SL SK m (nI i) := by
  have hb : ew_len R C line ≤ 4 := by unfold ew_len; split <;> omega
  have h16 := ew_p16 hb
  have h12 := ew_RC hR hC
  intro m
  induction m with
  | zero => intro i a b; omega
  | succ m ih =>
    intro i a b hI
    refine pk_le (ew_len R C line) i (fun z => ⟨vp_in_nI (by omega) (by omega), ?_⟩) (fun z => ?_)
    · have e : i = ew_len R C line := by omega
      subst e
      rw [nI_clamp (by omega), ew_one (by omega), nI_add]
      exact ew_hw _ (by omega) (fun g => ⟨rfl, h1 ⟨hI, g⟩⟩) (fun g => ⟨rfl, h0 (fun k => by rw [k.2] at g; exact absurd g (by decide))⟩)
    · have hc := ew_cell_lt hl z
      refine ew_xlc hR (by omega) ⟨vp_in_nI (by omega) (by omega), ?_⟩
      refine nm_r (congrArg PX (nI_clamp (by omega))) (nm_r (ew_bitw hb z (by omega)) ?_)
      have nx : PX (ew_cell R C line i) = 2 ∨ PX (ew_cell R C line i) = nI (w / 2 ^ (ew_len R C line - 1 - i) % 2) → ∀ y, y = nI i + 1 → wX_wordFits_9 post (nI line) (nI w) (nI (ew_len R C line)) (nI R) (nI C) D LL PX SL SK m y := by
        intro g y hy
        rw [hy, nI_1]
        exact ih (i + 1) (by omega) (by omega) (lt_s hI g)
      refine br_c (fun g => nx (Or.inl g)) (fun g => br_c (fun g2 => nx (Or.inr g2)) (fun g2 => h0 (fun k => ?_)))
      exact (k.1 i z).elim g g2
theorem ew_xwf (hR : R ≤ 3) (hC : C ≤ 4) {line w : Nat} (hl : line < R + C) (hw : w < 2 ^ ew_len R C line) {post : Int32 → Prop} (h1 : ew_wf R C LL PX line w → post 1) (h0 : ¬ ew_wf R C LL PX line w → post 0) : wpX_wordFits post (nI R, nI C, D, LL, PX, SL, SK) (nI line) (nI w) := by
  unfold wpX_wordFits
  dsimp only
  refine ew_xll hR (by omega) ⟨ew_len R C line + 1, ?_⟩
  exact ew_xwf_l hR hC hl hw h1 h0 (ew_len R C line + 1) 0 (by omega) (by omega) (fun j hj => by omega)
/-- number n is a filling, by X -/
def ew_fx (R C : Nat) (LL PX : Nat → Int32) (n : Nat) : Prop := ∀ line, line < R + C → ew_wf R C LL PX line (ew_ws R C n line)
theorem ew_ws_lt (n line : Nat) : ew_ws R C n line < 2 ^ ew_len R C line := ew_wd_lt (fun i => ew_dg_lt R C n _) _
theorem ew_xfi_l (hR : R ≤ 3) (hC : C ≤ 4) {n : Nat} (hn : n < 2 ^ 31) {post : Int32 → Prop} (h1 : ew_fx R C LL PX n → post 1) (h0 : ¬ ew_fx R C LL PX n → post 0) : ∀ m i, i + m = R + C + 1 → i ≤ R + C → (∀ j, j < i → ew_wf R C LL PX j (ew_ws R C n j)) → wX_isFilling_12 post (nI n) (nI (R + C)) (nI R) (nI C) D LL PX SL SK m (nI i) := by
  intro m
  induction m with
  | zero => intro i a b; omega
  | succ m ih =>
    intro i a b hI
    refine pk_le (R + C) i (fun z => ?_) (fun z => ?_)
    · have e : i = R + C := by omega
      subst e
      exact h1 hI
    · refine ew_xlw hR hC hn z ?_
      refine ew_xwf hR hC z (ew_ws_lt n i) (fun g => ?_) (fun g => ?_)
      · exact br_f (by decide) (nm_r (nI_1 i) (ih (i + 1) (by omega) (by omega) (lt_s hI g)))
      · exact br_t rfl (h0 (fun k => g (k i z)))
theorem ew_xfi (hR : R ≤ 3) (hC : C ≤ 4) {n : Nat} (hn : n < 2 ^ 31) {post : Int32 → Prop} (h1 : ew_fx R C LL PX n → post 1) (h0 : ¬ ew_fx R C LL PX n → post 0) : wpX_isFilling post (nI R, nI C, D, LL, PX, SL, SK) (nI n) :=
  nm_r (nI_add R C) ⟨R + C + 1, ew_xfi_l hR hC hn h1 h0 (R + C + 1) 0 (by omega) (by omega) (fun j hj => by omega)⟩
end
section
variable {d : Int32} {st lc ln pn : Nat → Int32}
theorem ew_yll (hR : R ≤ 3) {line : Nat} (hl : line < 8) {post : Int32 → Prop} (h : post (nI (ew_len R C line))) : wpY_lengthOf post (d, nI R, nI C, st, lc, ln, pn) (nI line) := by
  unfold ew_len at h
  refine pk_le R line (fun z => ?_) (fun z => ?_)
  · rw [if_neg (by omega)] at h; exact h
  · rw [if_pos z] at h; exact h
theorem ew_yco (hR : R ≤ 3) (hC : C ≤ 4) {n r c : Nat} (hn : n < 2 ^ 31) (hr : r < R) (hc : c < C) {post : Int32 → Prop} (h : post (nI (ew_dg R C n (r * C + c)))) : wpY_cellOf post (d, nI R, nI C, st, lc, ln, pn) (nI n) (nI r) (nI c) := by
  unfold wpY_cellOf
  dsimp only
  rw [pk_mul r C, nI_add, ew_lat hR hC hn (ew_rc hr hc)]
  exact h
theorem ew_ywo_l (hR : R ≤ 3) (hC : C ≤ 4) {n line : Nat} (hn : n < 2 ^ 31) (hl : line < R + C) {post : Int32 → Prop} (h : post (nI (ew_ws R C n line))) : ∀ m i, i + m = ew_len R C line + 1 → i ≤ ew_len R C line → wY_wordOf_12 post (nI n) (nI line) (nI (ew_len R C line)) d (nI R) (nI C) st lc ln pn m (nI (ew_wd (fun i => ew_dg R C n (ew_cell R C line i)) i)) (nI i) := by
  have hb : ew_len R C line ≤ 4 := by unfold ew_len; split <;> omega
  intro m
  induction m with
  | zero => intro i a b; omega
  | succ m ih =>
    intro i a b
    refine pk_le (ew_len R C line) i (fun z => ?_) (fun z => ?_)
    · have e : i = ew_len R C line := by omega
      rw [e]; exact h
    · have nx : wY_wordOf_50 post (wY_wordOf_12 post (nI n) (nI line) (nI (ew_len R C line)) d (nI R) (nI C) st lc ln pn m) (nI n) (nI line) (nI (ew_len R C line)) (nI (ew_wd (fun i => ew_dg R C n (ew_cell R C line i)) i)) (nI i) (nI (ew_dg R C n (ew_cell R C line i))) d (nI R) (nI C) st lc ln pn := by
        unfold wY_wordOf_50
        refine nm_r (e' := nI (ew_wd (fun i => ew_dg R C n (ew_cell R C line i)) (i + 1))) ?_ (nm_r (nI_1 i) (ih (i + 1) (by omega) (by omega)))
        show nI _ * nI 2 + _ = _
        rw [pk_mul, nI_add]
        rfl
      have hz : i < if line < R then C else R := z
      refine pk_le R line (fun y => ?_) (fun y => ?_)
      · rw [if_neg (by omega)] at hz
        rw [pk_sub y]
        refine ew_yco hR hC hn hz (by omega) ?_
        rw [show i * C + (line - R) = ew_cell R C line i from (if_neg (by omega)).symm]
        exact nx
      · rw [if_pos y] at hz
        refine ew_yco hR hC hn y hz ?_
        rw [show line * C + i = ew_cell R C line i from (if_pos y).symm]
        exact nx
theorem ew_ywo (hR : R ≤ 3) (hC : C ≤ 4) {n line : Nat} (hn : n < 2 ^ 31) (hl : line < R + C) {post : Int32 → Prop} (h : post (nI (ew_ws R C n line))) : wpY_wordOf post (d, nI R, nI C, st, lc, ln, pn) (nI n) (nI line) := by
  unfold wpY_wordOf
  dsimp only
  refine ew_yll hR (by omega) ⟨ew_len R C line + 1, ?_⟩
  exact ew_ywo_l hR hC hn hl h (ew_len R C line + 1) 0 (by omega) (by omega)
/-- number n keeps Y's pins; its lines' words are in Y's languages -/
def ew_pk (R C : Nat) (pn : Nat → Int32) (n : Nat) : Prop := ∀ r, r < R → ∀ c, c < C → pn (r * 4 + c) = 2 ∨ pn (r * 4 + c) = nI (ew_dg R C n (r * C + c))
def ew_lk (R C : Nat) (ln : Nat → Int32) (n : Nat) : Prop := ∀ line, line < R + C → ew_L (ln line) (2 ^ ew_len R C line + ew_ws R C n line) = true
theorem ew_ypk_in (hR : R ≤ 3) (hC : C ≤ 4) {n r : Nat} (hn : n < 2 ^ 31) (hr : r < R) {post : Int32 → Prop} {J : Int32 → Prop} (hJ : (∀ c, c < C → pn (r * 4 + c) = 2 ∨ pn (r * 4 + c) = nI (ew_dg R C n (r * C + c))) → J (nI (r + 1))) (h0 : ¬ ew_pk R C pn n → post 0) : ∀ m i, i + m = C + 1 → i ≤ C → (∀ c, c < i → pn (r * 4 + c) = 2 ∨ pn (r * 4 + c) = nI (ew_dg R C n (r * C + c))) → wY_pinsKept_12 post J (nI n) (nI r) d (nI R) (nI C) st lc ln pn m (nI i) := by
  intro m
  induction m with
  | zero => intro i a b; omega
  | succ m ih =>
    intro i a b hI
    refine pk_le C i (fun z => nm_r (nI_1 r) ?_) (fun z => ?_)
    · have e : i = C := by omega
      subst e
      exact hJ hI
    · have e4 : nI r * 4 + nI i = nI (r * 4 + i) := by
        show nI r * nI 4 + nI i = _
        rw [pk_mul, nI_add]
      rw [e4, nI_clamp (by omega)]
      have nx : pn (r * 4 + i) = 2 ∨ pn (r * 4 + i) = nI (ew_dg R C n (r * C + i)) → ∀ y, y = nI i + 1 → wY_pinsKept_12 post J (nI n) (nI r) d (nI R) (nI C) st lc ln pn m y := by
        intro g y hy
        rw [hy, nI_1]
        exact ih (i + 1) (by omega) (by omega) (lt_s hI g)
      refine ⟨vp_in_nI (by omega) (by omega), nm_e (br_c (fun g => nx (Or.inl g)) (fun g => ?_))⟩
      refine ew_yco hR hC hn hr z (br_c (fun g2 => nx (Or.inr g2)) (fun g2 => h0 (fun k => ?_)))
      exact (k r hr i z).elim g g2
theorem ew_ypk_out (hR : R ≤ 3) (hC : C ≤ 4) {n : Nat} (hn : n < 2 ^ 31) {post : Int32 → Prop} (h1 : ew_pk R C pn n → post 1) (h0 : ¬ ew_pk R C pn n → post 0) : ∀ m r, r + m = R + 1 → r ≤ R → (∀ q, q < r → ∀ c, c < C → pn (q * 4 + c) = 2 ∨ pn (q * 4 + c) = nI (ew_dg R C n (q * C + c))) → wY_pinsKept_2 post (nI n) d (nI R) (nI C) st lc ln pn m (nI r) := by
  intro m
  induction m with
  | zero => intro i a b; omega
  | succ m ih =>
    intro r a b hI
    refine pk_le R r (fun z => ?_) (fun z => ?_)
    · have e : r = R := by omega
      subst e
      exact h1 hI
    · exact ⟨C + 1, ew_ypk_in hR hC hn z (fun g => ih (r + 1) (by omega) (by omega) (lt_s hI g)) h0 (C + 1) 0 (by omega) (by omega) (fun c hc => by omega)⟩
theorem ew_ypk (hR : R ≤ 3) (hC : C ≤ 4) {n : Nat} (hn : n < 2 ^ 31) {post : Int32 → Prop} (h1 : ew_pk R C pn n → post 1) (h0 : ¬ ew_pk R C pn n → post 0) : wpY_pinsKept post (d, nI R, nI C, st, lc, ln, pn) (nI n) :=
  ⟨R + 1, ew_ypk_out hR hC hn h1 h0 (R + 1) 0 (by omega) (by omega) (fun q hq => by omega)⟩
theorem ew_yfi_l (hR : R ≤ 3) (hC : C ≤ 4) {n : Nat} (hn : n < 2 ^ 31) {post : Int32 → Prop} (h1 : ew_lk R C ln n → post 1) (h0 : ¬ ew_lk R C ln n → post 0) : ∀ m i, i + m = R + C + 1 → i ≤ R + C → (∀ line, line < i → ew_L (ln line) (2 ^ ew_len R C line + ew_ws R C n line) = true) → wY_fits_12 post (nI n) d (nI R) (nI C) st lc ln pn m (nI i) := by
  intro m
  induction m with
  | zero => intro i a b; omega
  | succ m ih =>
    intro i a b hI
    have hb : ew_len R C i ≤ 4 := by unfold ew_len; split <;> omega
    refine pk_le (R + C) i (fun z => ?_) (fun z => ?_) (hx := nI_add R C)
    · have e : i = R + C := by omega
      subst e
      exact h1 hI
    · refine ew_ywo hR hC hn z ?_
      refine ew_yll hR (by omega) ⟨vp_in_nI (by omega) (by omega), ?_⟩
      rw [nI_clamp (by omega)]
      refine ew_ho _ hb (ew_ws_lt n i) (fun g => ?_) (fun g => ?_)
      · exact br_f (by decide) (nm_r (nI_1 i) (ih (i + 1) (by omega) (by omega) (lt_s hI g)))
      · exact br_t rfl (h0 (fun k => by rw [k i z] at g; exact absurd g (by decide)))
theorem ew_yfi (hR : R ≤ 3) (hC : C ≤ 4) {n : Nat} (hn : n < 2 ^ 31) {post : Int32 → Prop} (h1 : ew_pk R C pn n ∧ ew_lk R C ln n → post 1) (h0 : ¬ (ew_pk R C pn n ∧ ew_lk R C ln n) → post 0) : wpY_fits post (d, nI R, nI C, st, lc, ln, pn) (nI n) := by
  unfold wpY_fits
  dsimp only
  refine ew_ypk hR hC hn (fun g => ?_) (fun g => ?_)
  · exact br_f (by decide) ⟨R + C + 1, ew_yfi_l hR hC hn (fun k => h1 ⟨g, k⟩) (fun k => h0 (fun q => k q.2)) (R + C + 1) 0 (by omega) (by omega) (fun j hj => by omega)⟩
  · exact br_t rfl (h0 (fun q => g q.1))
theorem ew_ywk_l (hR : R ≤ 3) (hC : C ≤ 4) {line w : Nat} (hl : line < R + C) (hw : w < 16) {post : Int32 → Prop} (h1 : ew_ky R C pn line w → post 1) (h0 : ¬ ew_ky R C pn line w → post 0) : ∀ m i, i + m = ew_len R C line + 1 → i ≤ ew_len R C line → (∀ j, j < i → pn (ew_cy R line j) = 2 ∨ pn (ew_cy R line j) = nI (w / 2 ^ (ew_len R C line - 1 - j) % 2)) → wY_wordKeepsPins_3 post (nI line) (nI (ew_len R C line)) (nI w) d (nI R) (nI C) st lc ln pn m (nI i) := by
  have hb : ew_len R C line ≤ 4 := by unfold ew_len; split <;> omega
  intro m
  induction m with
  | zero => intro i a b; omega
  | succ m ih =>
    intro i a b hI
    refine pk_le (ew_len R C line) i (fun z => ?_) (fun z => ?_)
    · have e : i = ew_len R C line := by omega
      subst e
      exact h1 hI
    · have hc := ew_cy_lt hR hC hl z
      have nx : wY_wordKeepsPins_47 post (wY_wordKeepsPins_3 post (nI line) (nI (ew_len R C line)) (nI w) d (nI R) (nI C) st lc ln pn m) (nI line) (nI (ew_len R C line)) (nI w) (nI i) (pn (ew_cy R line i)) d (nI R) (nI C) st lc ln pn := by
        unfold wY_wordKeepsPins_47
        rw [ew_bitw hb z hw]
        have nx : pn (ew_cy R line i) = 2 ∨ pn (ew_cy R line i) = nI (w / 2 ^ (ew_len R C line - 1 - i) % 2) → ∀ y, y = nI i + 1 → wY_wordKeepsPins_3 post (nI line) (nI (ew_len R C line)) (nI w) d (nI R) (nI C) st lc ln pn m y := by
          intro g y hy
          rw [hy, nI_1]
          exact ih (i + 1) (by omega) (by omega) (lt_s hI g)
        refine br_c (fun g => nx (Or.inl g)) (fun g => br_c (fun g2 => nx (Or.inr g2)) (fun g2 => h0 (fun k => ?_)))
        exact (k i z).elim g g2
      refine pk_le R line (fun y => ?_) (fun y => ?_)
      · have e4 : nI i * 4 + nI line - nI R = nI (ew_cy R line i) := by
          show nI i * nI 4 + nI line - nI R = _
          rw [pk_mul, nI_add, pk_sub (by omega)]
          unfold ew_cy
          rw [if_neg (by omega)]
          exact congrArg nI (by omega)
        rw [e4, nI_clamp (by omega)]
        exact ⟨vp_in_nI (by omega) (by omega), nx⟩
      · have e4 : nI line * 4 + nI i = nI (ew_cy R line i) := by
          show nI line * nI 4 + nI i = _
          rw [pk_mul, nI_add]
          unfold ew_cy
          rw [if_pos y]
        rw [e4, nI_clamp (by omega)]
        exact ⟨vp_in_nI (by omega) (by omega), nx⟩
theorem ew_ywk (hR : R ≤ 3) (hC : C ≤ 4) {line w : Nat} (hl : line < R + C) (hw : w < 16) {post : Int32 → Prop} (h1 : ew_ky R C pn line w → post 1) (h0 : ¬ ew_ky R C pn line w → post 0) : wpY_wordKeepsPins post (d, nI R, nI C, st, lc, ln, pn) (nI line) (nI (ew_len R C line)) (nI w) :=
  ⟨ew_len R C line + 1, ew_ywk_l hR hC hl hw h1 h0 (ew_len R C line + 1) 0 (by omega) (by omega) (fun j hj => by omega)⟩
end
/-! both sides' pins and lines say the same -/
def ew_pins (R C : Nat) (PX pn : Nat → Int32) : Prop := ∀ r, r < R → ∀ c, c < C → PX (r * C + c) = pn (r * 4 + c)
theorem ew_pc {PX pn : Nat → Int32} (hp : ew_pins R C PX pn) {line i : Nat} (hl : line < R + C) (hi : i < ew_len R C line) : PX (ew_cell R C line i) = pn (ew_cy R line i) := by
  unfold ew_len at hi
  unfold ew_cell ew_cy
  by_cases h : line < R
  · rw [if_pos h] at hi
    rw [if_pos h, if_pos h]
    exact hp line h i hi
  · rw [if_neg h] at hi
    rw [if_neg h, if_neg h]
    exact hp i hi (line - R) (by omega)
theorem ew_kxy {PX pn : Nat → Int32} (hp : ew_pins R C PX pn) {line w : Nat} (hl : line < R + C) : ew_kx R C PX line w ↔ ew_ky R C pn line w := by
  unfold ew_kx ew_ky
  constructor
  · intro h i hi
    rw [← ew_pc hp hl hi]
    exact h i hi
  · intro h i hi
    rw [ew_pc hp hl hi]
    exact h i hi
theorem ew_lb (hR1 : 1 ≤ R) (hR : R ≤ 3) (hC1 : 1 ≤ C) (hC : C ≤ 4) {LL ln : Nat → Int32} (hL : ∀ i, i < 7 → ew_Lg (LL i) (ln i)) {line w : Nat} (hl : line < R + C) (hw : w < 2 ^ ew_len R C line) : bt (LL line) (2 ^ ew_len R C line + w) = ew_L (ln line) (2 ^ ew_len R C line + w) := by
  have h16 := ew_p16 (ew_len_in hR1 hR hC1 hC line).2
  have hp := Nat.two_pow_pos (ew_len R C line)
  exact hL line (by omega) _ (by omega) (by omega)
theorem ew_fxy (hR1 : 1 ≤ R) (hR : R ≤ 3) (hC1 : 1 ≤ C) (hC : C ≤ 4) {LL ln PX pn : Nat → Int32} (hL : ∀ i, i < 7 → ew_Lg (LL i) (ln i)) (hp : ew_pins R C PX pn) (n : Nat) : ew_fx R C LL PX n ↔ (ew_pk R C pn n ∧ ew_lk R C ln n) := by
  have hd : ∀ line i, i < ew_len R C line → ew_ws R C n line / 2 ^ (ew_len R C line - 1 - i) % 2 = ew_dg R C n (ew_cell R C line i) := fun line i hi => ew_wd_dg (g := fun i => ew_dg R C n (ew_cell R C line i)) (fun i => ew_dg_lt R C n _) (ew_len R C line) i hi
  constructor
  · intro h
    refine ⟨fun r hr c hc => ?_, fun line hl => ?_⟩
    · have hi : c < ew_len R C r := by unfold ew_len; rw [if_pos hr]; exact hc
      have := (h r (by omega)).1 c hi
      rw [hd r c hi] at this
      unfold ew_cell at this
      rw [if_pos hr, hp r hr c hc] at this
      exact this
    · rw [← ew_lb hR1 hR hC1 hC hL hl (ew_ws_lt n line)]
      exact (h line hl).2
  · intro ⟨h1, h2⟩ line hl
    refine ⟨fun i hi => ?_, ?_⟩
    · rw [hd line i hi]
      have hi' : i < if line < R then C else R := hi
      unfold ew_cell
      by_cases h : line < R
      · rw [if_pos h] at hi'
        rw [if_pos h, hp line h i hi']
        exact h1 line h i hi'
      · rw [if_neg h] at hi'
        rw [if_neg h, hp i hi' (line - R) (by omega)]
        exact h1 i hi' (line - R) (by omega)
    · rw [ew_lb hR1 hR hC1 hC hL hl (ew_ws_lt n line)]
      exact h2 line hl
end
end
section
/-! the loops over numbers and words -/
def ew_cnt (fit : Nat → Bool) : Nat → Nat
  | 0 => 0
  | k + 1 => if fit k = true then ew_cnt fit k + 1 else ew_cnt fit k
theorem ew_cnt_1 {fit : Nat → Bool} {k : Nat} (h : fit k = true) : nI (ew_cnt fit k) + 1 = nI (ew_cnt fit (k + 1)) := by
  rw [nI_1]
  exact congrArg nI (if_pos h).symm
theorem ew_cnt_0 {fit : Nat → Bool} {k : Nat} (h : fit k = false) : ew_cnt fit (k + 1) = ew_cnt fit k := if_neg (by rw [h]; decide)
def ew_hX (fit : Nat → Bool) (N : Nat) (u : SX) : Prop := ∀ n, n < N → ∀ post : Int32 → Prop, (fit n = true → post 1) → (fit n = false → post 0) → wpX_isFilling post u (nI n)
def ew_hY (fit : Nat → Bool) (N : Nat) (v : SY) : Prop := ∀ n, n < N → ∀ post : Int32 → Prop, (fit n = true → post 1) → (fit n = false → post 0) → wpY_fits post v (nI n)
theorem ew_fitE {R C : Nat} (hR1 : 1 ≤ R) (hR : R ≤ 3) (hC1 : 1 ≤ C) (hC : C ≤ 4) {LL ln PX pn : Nat → Int32} (hL : ∀ i, i < 7 → ew_Lg (LL i) (ln i)) (hp : ew_pins R C PX pn) (D d : Int32) (SL SK st lc : Nat → Int32) {N : Nat} (hN : N ≤ 4096) : ∃ fit : Nat → Bool, ew_hX fit N (nI R, nI C, D, LL, PX, SL, SK) ∧ ew_hY fit N (d, nI R, nI C, st, lc, ln, pn) := by
  refine ⟨fun n => @decide (ew_fx R C LL PX n) (Classical.propDecidable _), fun n hn post h1 h0 => ?_, fun n hn post h1 h0 => ?_⟩
  · exact ew_xfi hR hC (by omega) (fun g => h1 (@decide_eq_true _ (Classical.propDecidable _) g)) (fun g => h0 (@decide_eq_false _ (Classical.propDecidable _) g))
  · have e := ew_fxy hR1 hR hC1 hC hL hp n
    exact ew_yfi hR hC (by omega) (fun g => h1 (@decide_eq_true _ (Classical.propDecidable _) (e.mpr g))) (fun g => h0 (@decide_eq_false _ (Classical.propDecidable _) (fun k => g (e.mp k))))
section
variable {r c D : Int32} {LL PX SL SK : Nat → Int32} {fit : Nat → Bool} {N : Nat}
theorem ew_xct_l (hX : ew_hX fit N (r, c, D, LL, PX, SL, SK)) {E : Nat} (hE : E ≤ N) {x1 : Int32} (hx : ∀ i, i ≤ E → (x1 ≤ nI i ↔ E ≤ i)) {post : Int32 → Prop} (h : post (nI (ew_cnt fit E))) : ∀ m i, i + m = E + 1 → i ≤ E → wX_countFillings_4 post x1 r c D LL PX SL SK m (nI (ew_cnt fit i)) (nI i) := by
  intro m
  induction m with
  | zero => intro i a b; omega
  | succ m ih =>
    intro i a b
    by_cases z : E ≤ i
    · refine br_t ((hx i b).mpr z) ?_
      rw [show i = E by omega]
      exact h
    · refine br_f (fun k => z ((hx i b).mp k)) (hX i (by omega) _ (fun g => ?_) (fun g => ?_))
      · exact br_f (by decide) (nm_r (ew_cnt_1 g) (nm_r (nI_1 i) (ih (i + 1) (by omega) (by omega))))
      · refine br_t rfl (nm_r (nI_1 i) ?_)
        have := ih (i + 1) (by omega) (by omega)
        rw [ew_cnt_0 g] at this
        exact this
theorem ew_xct (hX : ew_hX fit N (r, c, D, LL, PX, SL, SK)) {E : Nat} (hE : E ≤ N) {x1 : Int32} (hx : ∀ i, i ≤ E → (x1 ≤ nI i ↔ E ≤ i)) {post : Int32 → Prop} (h : post (nI (ew_cnt fit E))) : wpX_countFillings post (r, c, D, LL, PX, SL, SK) x1 :=
  ⟨E + 1, ew_xct_l hX hE hx h (E + 1) 0 (by omega) (by omega)⟩
end
section
variable {r c D : Int32} {LL PX SL SK : Nat → Int32} {d r' c' : Int32} {st lc ln pn : Nat → Int32} {fit : Nat → Bool} {N : Nat}
theorem ew_yct_l (hY : ew_hY fit N (d, r', c', st, lc, ln, pn)) (hN : N ≤ 4096) (hB : (1 : Int32) <<< ((r' * c') &&& 31) = nI N) {post : Int32 → Prop} (h : post (nI (ew_cnt fit N))) : ∀ m i, i + m = N + 1 → i ≤ N → wY_fillings_4 post d r' c' st lc ln pn m (nI (ew_cnt fit i)) (nI i) := by
  intro m
  induction m with
  | zero => intro i a b; omega
  | succ m ih =>
    intro i a b
    refine pk_le N i (fun z => ?_) (fun z => ?_) (hx := hB)
    · rw [show i = N by omega]
      exact h
    · refine hY i z _ (fun g => ?_) (fun g => ?_)
      · exact br_f (by decide) (nm_r (ew_cnt_1 g) (nm_r (nI_1 i) (ih (i + 1) (by omega) (by omega))))
      · refine br_t rfl (nm_r (nI_1 i) ?_)
        have := ih (i + 1) (by omega) (by omega)
        rw [ew_cnt_0 g] at this
        exact this
theorem ew_ybe_l (hY : ew_hY fit N (d, r', c', st, lc, ln, pn)) (hN : N ≤ 4096) (hB : (1 : Int32) <<< ((r' * c') &&& 31) = nI N) {x1 : Int32} {b : Nat} (hx : ∀ i, i < 5000 → (x1 ≤ nI i ↔ b ≤ i)) {post : Int32 → Prop} (h : post (nI (ew_cnt fit (min b N)))) : ∀ m i, i + m = N + 1 → i ≤ N → wY_below_4 post x1 d r' c' st lc ln pn m (nI (ew_cnt fit (min b i))) (nI i) := by
  intro m
  induction m with
  | zero => intro i a e; omega
  | succ m ih =>
    intro i a e
    refine pk_le N i (fun z => ?_) (fun z => ?_) (hx := hB)
    · rw [show i = N by omega]
      exact h
    · have k := ih (i + 1) (by omega) (by omega)
      by_cases y : b ≤ i
      · refine br_t ((hx i (by omega)).mpr y) (nm_r (nI_1 i) ?_)
        rw [show min b (i + 1) = min b i by omega] at k
        exact k
      · rw [show min b (i + 1) = i + 1 by omega] at k
        rw [show min b i = i by omega]
        refine br_f (fun q => y ((hx i (by omega)).mp q)) (hY i z _ (fun g => ?_) (fun g => ?_))
        · exact br_f (by decide) (nm_r (ew_cnt_1 g) (nm_r (nI_1 i) k))
        · refine br_t rfl (nm_r (nI_1 i) ?_)
          rw [ew_cnt_0 g] at k
          exact k
theorem ew_fil (hX : ew_hX fit N (r, c, D, LL, PX, SL, SK)) (hY : ew_hY fit N (d, r', c', st, lc, ln, pn)) (hN : N ≤ 4096) (hB : (1 : Int32) <<< ((r' * c') &&& 31) = nI N) (k : Int32) : ∀ m i (a : Int32), i + m = N + 1 → i ≤ N → ∃ res, (∀ post : Int32 → Prop, post res → wX_filling_16 post k (nI N) r c D LL PX SL SK m a (nI i)) ∧ (∀ post : Int32 → Prop, post res → wY_filling_10 post k d r' c' st lc ln pn m a (nI i)) := by
  intro m
  induction m with
  | zero => intro i a h1 h2; omega
  | succ m ih =>
    intro i a h1 h2
    by_cases z : N ≤ i
    · exact ⟨-4, fun post h => pk_le N i (fun _ => h) (fun y => by omega), fun post h => pk_le N i (fun _ => h) (fun y => by omega) (hx := hB)⟩
    · cases e : fit i with
      | false =>
        obtain ⟨res, j1, j2⟩ := ih (i + 1) a (by omega) (by omega)
        refine ⟨res, fun post h => pk_le N i (fun y => by omega) (fun y => ?_), fun post h => pk_le N i (fun y => by omega) (fun y => ?_) (hx := hB)⟩
        · exact hX i y _ (fun g => by rw [e] at g; exact absurd g (by decide)) (fun g => br_t rfl (nm_r (nI_1 i) (j1 post h)))
        · exact hY i y _ (fun g => by rw [e] at g; exact absurd g (by decide)) (fun g => br_t rfl (nm_r (nI_1 i) (j2 post h)))
      | true =>
        by_cases q : a = k
        · refine ⟨nI i, fun post h => pk_le N i (fun y => by omega) (fun y => ?_), fun post h => pk_le N i (fun y => by omega) (fun y => ?_) (hx := hB)⟩
          · exact hX i y _ (fun g => br_f (by decide) (br_t q h)) (fun g => by rw [e] at g; exact absurd g (by decide))
          · exact hY i y _ (fun g => br_f (by decide) (br_t q h)) (fun g => by rw [e] at g; exact absurd g (by decide))
        · obtain ⟨res, j1, j2⟩ := ih (i + 1) (a + 1) (by omega) (by omega)
          refine ⟨res, fun post h => pk_le N i (fun y => by omega) (fun y => ?_), fun post h => pk_le N i (fun y => by omega) (fun y => ?_) (hx := hB)⟩
          · exact hX i y _ (fun g => br_f (by decide) (br_f q (nm_e (nm_r (nI_1 i) (j1 post h))))) (fun g => by rw [e] at g; exact absurd g (by decide))
          · exact hY i y _ (fun g => br_f (by decide) (br_f q (nm_e (nm_r (nI_1 i) (j2 post h))))) (fun g => by rw [e] at g; exact absurd g (by decide))
end
/-! forced -/
def ew_bI (b : Bool) : Int32 := if b then 1 else 0
def ew_fd (z o : Bool) : Int32 := if z then 0 else if o then 1 else -4
def ew_fv (z o : Bool) : Int32 := if z && o then 2 else ew_fd z o
section
variable {d r' c' : Int32} {st lc ln pn : Nat → Int32}
theorem ew_f61 {post : Int32 → Prop} {J : Int32 → Int32 → Int32 → Prop} {x1 x2 x5 : Int32} (z o s : Bool) (h : J (ew_bI (z || !s)) (ew_bI (o || s)) (x5 + 1)) : wY_forced_61 post J x1 x2 (ew_bI z) (ew_bI o) x5 (ew_bI s) d r' c' st lc ln pn := by
  unfold wY_forced_61 wY_forced_73 wY_forced_78
  cases z <;> cases o <;> cases s <;> simp [ew_bI] <;> exact h
theorem ew_fend {post : Int32 → Prop} (z o : Bool) (h : post (ew_fv z o)) : ((ew_bI z = 0 → (((ew_bI o = 0 → (post (-4))) ∧ (¬ ew_bI o = 0 → (wY_forced_113 post (ew_bI z) (ew_bI o) d r' c' st lc ln pn))))) ∧ (¬ ew_bI z = 0 → (wY_forced_113 post (ew_bI z) (ew_bI o) d r' c' st lc ln pn))) := by
  unfold wY_forced_113 wY_forced_126
  cases z <;> cases o <;> simp [ew_bI] <;> exact h
theorem ew_dgB (n : Nat) (h : n < 2) : nI n = ew_bI (decide (n = 1)) := by
  have : n = 0 ∨ n = 1 := by omega
  rcases this with rfl | rfl <;> rfl
end
section
variable {R C : Nat} {D d : Int32} {LL PX SL SK st lc ln pn : Nat → Int32} {fit : Nat → Bool} {N : Nat}
theorem ew_yst (hR : R ≤ 3) (hC : C ≤ 4) (hN : N ≤ 4096) (hY : ew_hY fit N (d, nI R, nI C, st, lc, ln, pn)) (hB : (1 : Int32) <<< ((nI R * nI C) &&& 31) = nI N) {p q : Nat} (hp : p < R) (hq : q < C) {m i : Nat} (hi : i < N) (z o : Bool) {post : Int32 → Prop} (h1 : fit i = true → wY_forced_19 post (nI p) (nI q) d (nI R) (nI C) st lc ln pn m (ew_bI (z || !(decide (ew_dg R C i (p * C + q) = 1)))) (ew_bI (o || (decide (ew_dg R C i (p * C + q) = 1)))) (nI (i + 1))) (h0 : fit i = false → wY_forced_19 post (nI p) (nI q) d (nI R) (nI C) st lc ln pn m (ew_bI z) (ew_bI o) (nI (i + 1))) : wY_forced_19 post (nI p) (nI q) d (nI R) (nI C) st lc ln pn (m + 1) (ew_bI z) (ew_bI o) (nI i) := by
  refine pk_le N i (fun y => by omega) (fun y => ?_) (hx := hB)
  refine hY i y _ (fun g => ?_) (fun g => br_t rfl (nm_r (nI_1 i) (h0 g)))
  refine br_f (by decide) (ew_yco hR hC (by omega) hp hq ?_)
  have k := h1 g
  rw [ew_dgB _ (ew_dg_lt R C i (p * C + q))]
  rw [← nI_1] at k
  generalize decide (ew_dg R C i (p * C + q) = 1) = s at k ⊢
  cases s
  · exact br_f (by decide) (ew_f61 z o false k)
  · exact br_t rfl (ew_f61 z o true k)
theorem ew_y11 (hR : R ≤ 3) (hC : C ≤ 4) (hN : N ≤ 4096) (hY : ew_hY fit N (d, nI R, nI C, st, lc, ln, pn)) (hB : (1 : Int32) <<< ((nI R * nI C) &&& 31) = nI N) {p q : Nat} (hp : p < R) (hq : q < C) {post : Int32 → Prop} (h : post 2) : ∀ m i, i + m = N + 1 → i ≤ N → wY_forced_19 post (nI p) (nI q) d (nI R) (nI C) st lc ln pn m (ew_bI true) (ew_bI true) (nI i) := by
  intro m
  induction m with
  | zero => intro i a b; omega
  | succ m ih =>
    intro i a b
    by_cases z : N ≤ i
    · exact pk_le N i (fun _ => ew_fend true true h) (fun y => by omega) (hx := hB)
    · have k := ih (i + 1) (by omega) (by omega)
      exact ew_yst hR hC hN hY hB hp hq (by omega) true true (fun _ => by rw [Bool.true_or, Bool.true_or]; exact k) (fun _ => k)
theorem ew_for (hR : R ≤ 3) (hC : C ≤ 4) (hN : N ≤ 4096) (hX : ew_hX fit N (nI R, nI C, D, LL, PX, SL, SK)) (hY : ew_hY fit N (d, nI R, nI C, st, lc, ln, pn)) (hB : (1 : Int32) <<< ((nI R * nI C) &&& 31) = nI N) {p q : Nat} (hp : p < R) (hq : q < C) : ∀ m i (z o : Bool), (z && o) = false → i + m = N + 1 → i ≤ N → ∃ res, (∀ post : Int32 → Prop, post res → wX_forced_33 post (nI (p * C + q)) (nI N) (nI R) (nI C) D LL PX SL SK m (ew_fd z o) (nI i)) ∧ (∀ post : Int32 → Prop, post res → wY_forced_19 post (nI p) (nI q) d (nI R) (nI C) st lc ln pn m (ew_bI z) (ew_bI o) (nI i)) := by
  intro m
  induction m with
  | zero => intro i z o _ a b; omega
  | succ m ih =>
    intro i z o hzo a b
    by_cases y : N ≤ i
    · refine ⟨ew_fd z o, fun post h => pk_le N i (fun _ => h) (fun y => by omega), fun post h => pk_le N i (fun _ => ew_fend z o ?_) (fun y => by omega) (hx := hB)⟩
      unfold ew_fv
      rw [hzo]
      exact h
    · cases e : fit i with
      | false =>
        obtain ⟨res, j1, j2⟩ := ih (i + 1) z o hzo (by omega) (by omega)
        refine ⟨res, fun post h => pk_le N i (fun y => by omega) (fun y => ?_), fun post h => ?_⟩
        · exact hX i y _ (fun g => by rw [e] at g; exact absurd g (by decide)) (fun g => br_t rfl (nm_r (nI_1 i) (j1 post h)))
        · exact ew_yst hR hC hN hY hB hp hq (by omega) z o (fun g => by rw [e] at g; exact absurd g (by decide)) (fun _ => j2 post h)
      | true =>
        have hs := ew_dgB _ (ew_dg_lt R C i (p * C + q))
        have xs : ∀ (post : Int32 → Prop) (f : Int32), ((f = (-4) → ∀ x6 : Int32, x6 = nI i + 1 → wX_forced_33 post (nI (p * C + q)) (nI N) (nI R) (nI C) D LL PX SL SK m (ew_bI (decide (ew_dg R C i (p * C + q) = 1))) x6) ∧ (¬ f = (-4) → (f = ew_bI (decide (ew_dg R C i (p * C + q) = 1)) → ∀ x6 : Int32, x6 = nI i + 1 → wX_forced_33 post (nI (p * C + q)) (nI N) (nI R) (nI C) D LL PX SL SK m f x6) ∧ (¬ f = ew_bI (decide (ew_dg R C i (p * C + q) = 1)) → post 2))) → wX_forced_33 post (nI (p * C + q)) (nI N) (nI R) (nI C) D LL PX SL SK (m + 1) f (nI i) := by
          intro post f h
          refine pk_le N i (fun y => by omega) (fun y => ?_)
          refine hX i y _ (fun g => br_f (by decide) ?_) (fun g => by rw [e] at g; exact absurd g (by decide))
          refine ew_xla hR hC (by omega) (ew_rc hp hq) ?_
          rw [hs]
          exact h
        have ys : ∀ (post : Int32 → Prop), wY_forced_19 post (nI p) (nI q) d (nI R) (nI C) st lc ln pn m (ew_bI (z || !(decide (ew_dg R C i (p * C + q) = 1)))) (ew_bI (o || (decide (ew_dg R C i (p * C + q) = 1)))) (nI (i + 1)) → wY_forced_19 post (nI p) (nI q) d (nI R) (nI C) st lc ln pn (m + 1) (ew_bI z) (ew_bI o) (nI i) := fun post h => ew_yst hR hC hN hY hB hp hq (by omega) z o (fun _ => h) (fun g => by rw [e] at g; exact absurd g (by decide))
        generalize decide (ew_dg R C i (p * C + q) = 1) = s at xs ys
        have y2 : ∀ post : Int32 → Prop, post 2 → wY_forced_19 post (nI p) (nI q) d (nI R) (nI C) st lc ln pn m (ew_bI true) (ew_bI true) (nI (i + 1)) := fun post h => ew_y11 hR hC hN hY hB hp hq h m (i + 1) (by omega) (by omega)
        have nx : ∀ (z' o' : Bool), (z' && o') = false → ∃ res, (∀ post : Int32 → Prop, post res → wX_forced_33 post (nI (p * C + q)) (nI N) (nI R) (nI C) D LL PX SL SK m (ew_fd z' o') (nI (i + 1))) ∧ (∀ post : Int32 → Prop, post res → wY_forced_19 post (nI p) (nI q) d (nI R) (nI C) st lc ln pn m (ew_bI z') (ew_bI o') (nI (i + 1))) := fun z' o' h => ih (i + 1) z' o' h (by omega) (by omega)
        cases z <;> cases o <;> cases s
        · obtain ⟨res, j1, j2⟩ := nx true false rfl
          exact ⟨res, fun post h => xs post _ (br_t rfl (nm_r (nI_1 i) (j1 post h))), fun post h => ys post (j2 post h)⟩
        · obtain ⟨res, j1, j2⟩ := nx false true rfl
          exact ⟨res, fun post h => xs post _ (br_t rfl (nm_r (nI_1 i) (j1 post h))), fun post h => ys post (j2 post h)⟩
        · exact ⟨2, fun post h => xs post _ (br_f (by decide) (br_f (by decide) h)), fun post h => ys post (y2 post h)⟩
        · obtain ⟨res, j1, j2⟩ := nx false true rfl
          exact ⟨res, fun post h => xs post _ (br_f (by decide) (br_t rfl (nm_r (nI_1 i) (j1 post h)))), fun post h => ys post (j2 post h)⟩
        · obtain ⟨res, j1, j2⟩ := nx true false rfl
          exact ⟨res, fun post h => xs post _ (br_f (by decide) (br_t rfl (nm_r (nI_1 i) (j1 post h)))), fun post h => ys post (j2 post h)⟩
        · exact ⟨2, fun post h => xs post _ (br_f (by decide) (br_f (by decide) h)), fun post h => ys post (y2 post h)⟩
        · exact absurd hzo (by decide)
        · exact absurd hzo (by decide)
/-! lineWords -/
theorem ew_xlws_l (hR : R ≤ 3) (hC : C ≤ 4) {line : Nat} (hl : line < R + C) {post : Int32 → Prop} (hf : ∀ w, fit w = true ↔ ew_wf R C LL PX line w) (h : post (nI (ew_cnt fit (2 ^ ew_len R C line)))) : ∀ m i, i + m = 2 ^ ew_len R C line + 1 → i ≤ 2 ^ ew_len R C line → wX_lineWords_23 post (nI line) (nI (2 ^ ew_len R C line)) (nI R) (nI C) D LL PX SL SK m (nI (ew_cnt fit i)) (nI i) := by
  have hb : ew_len R C line ≤ 4 := by unfold ew_len; split <;> omega
  have h16 := ew_p16 hb
  intro m
  induction m with
  | zero => intro i a b; omega
  | succ m ih =>
    intro i a b
    refine pk_le (2 ^ ew_len R C line) i (fun z => ?_) (fun z => ?_)
    · rw [show i = 2 ^ ew_len R C line by omega]
      exact h
    · refine ew_xwf hR hC hl z (fun g => ?_) (fun g => ?_)
      · exact br_f (by decide) (nm_r (ew_cnt_1 ((hf i).mpr g)) (nm_r (nI_1 i) (ih (i + 1) (by omega) (by omega))))
      · refine br_t rfl (nm_r (nI_1 i) ?_)
        have := ih (i + 1) (by omega) (by omega)
        rw [ew_cnt_0 (ew_bf (fun k => g ((hf i).mp k)))] at this
        exact this
theorem ew_ylws_l (hR : R ≤ 3) (hC : C ≤ 4) {line : Nat} (hl : line < R + C) {post : Int32 → Prop} (hf : ∀ w, w < 2 ^ ew_len R C line → (fit w = true ↔ (ew_L (ln line) (2 ^ ew_len R C line + w) = true ∧ ew_ky R C pn line w))) (h : post (nI (ew_cnt fit (2 ^ ew_len R C line)))) : ∀ m i, i + m = 2 ^ ew_len R C line + 1 → i ≤ 2 ^ ew_len R C line → wY_lineWords_21 post (nI line) (nI (ew_len R C line)) d (nI R) (nI C) st lc ln pn m (nI (ew_cnt fit i)) (nI i) := by
  have hb : ew_len R C line ≤ 4 := by unfold ew_len; split <;> omega
  have h16 := ew_p16 hb
  intro m
  induction m with
  | zero => intro i a b; omega
  | succ m ih =>
    intro i a b
    refine pk_le (2 ^ ew_len R C line) i (fun z => ?_) (fun z => ⟨vp_in_nI (by omega) (by omega), ?_⟩) (hx := ew_one (by omega))
    · rw [show i = 2 ^ ew_len R C line by omega]
      exact h
    · have k := ih (i + 1) (by omega) (by omega)
      rw [nI_clamp (by omega)]
      have k0 : fit i = false → ∀ y, y = nI i + 1 → wY_lineWords_21 post (nI line) (nI (ew_len R C line)) d (nI R) (nI C) st lc ln pn m (nI (ew_cnt fit i)) y := by
        intro g y hy
        rw [hy, nI_1, ← ew_cnt_0 g]
        exact k
      refine ew_ho _ hb z (fun g => br_f (by decide) ?_) (fun g => br_t rfl ?_)
      · refine ew_ywk hR hC hl (by omega) (fun g2 => br_f (by decide) ?_) (fun g2 => br_t rfl ?_)
        · exact nm_r (ew_cnt_1 ((hf i z).mpr ⟨g, g2⟩)) (nm_r (nI_1 i) k)
        · exact k0 (ew_bf (fun q => g2 ((hf i z).mp q).2))
      · exact k0 (ew_bf (fun q => by rw [((hf i z).mp q).1] at g; exact absurd g (by decide)))
end
end
section
/-! the relation, the stack and its letters, the start -/
def ew_sum (m : Nat → Nat) : Nat → Nat
  | 0 => 0
  | k + 1 => ew_sum m k + m k
theorem ew_sum_c {m m' : Nat → Nat} : ∀ k, (∀ i, i < k → m i = m' i) → ew_sum m k = ew_sum m' k
  | 0 => fun _ => rfl
  | k + 1 => fun h => by
    show ew_sum m k + m k = ew_sum m' k + m' k
    rw [ew_sum_c k (fun i hi => h i (by omega)), h k (by omega)]
/-- rows, columns and depth; lines, stack, pins that say the same; one array of letter counts, 8 at most in sum -/
def ew_S (R C D : Nat) (LL PX SL K st ln pn : Nat → Int32) : Prop := (1 ≤ R ∧ R ≤ 3) ∧ (1 ≤ C ∧ C ≤ 4) ∧ D ≤ 6 ∧ (∀ i, i < 7 → ew_Lg (LL i) (ln i)) ∧ (∀ i, i < 6 → ew_Lg (SL i) (st i)) ∧ ew_pins R C PX pn ∧ ∃ m : Nat → Nat, (∀ i, i < 6 → K i = nI (m i)) ∧ ew_sum m D ≤ 8
def i_Rel (_ : Nat) (u : SX) (v : SY) : Prop := ∃ (R C D : Nat) (LL PX SL K st ln pn : Nat → Int32), u = (nI R, nI C, nI D, LL, PX, SL, K) ∧ v = (nI D, nI R, nI C, st, K, ln, pn) ∧ ew_S R C D LL PX SL K st ln pn
theorem i_up {k : Nat} {u : SX} {v : SY} (h : i_Rel k u v) : i_Rel (k + 4) u v := h
section
variable {R C D : Nat} {LL PX SL K st ln pn : Nat → Int32}
theorem ew_mk {k : Nat} (h : ew_S R C D LL PX SL K st ln pn) : i_Rel k (nI R, nI C, nI D, LL, PX, SL, K) (nI D, nI R, nI C, st, K, ln, pn) := ⟨R, C, D, LL, PX, SL, K, st, ln, pn, rfl, rfl, h⟩
theorem ew_S_push (h : ew_S R C D LL PX SL K st ln pn) (hD : D < 6) {x y : Int32} (hx : ew_Lg x y) {c : Nat} (hc : ∀ m : Nat → Nat, (∀ i, i < 6 → K i = nI (m i)) → ew_sum m D ≤ 8 → ew_sum m D + c ≤ 8) : ew_S R C (D + 1) LL PX (upd SL D x) (upd K D (nI c)) (upd st D y) ln pn := by
  obtain ⟨h1, h2, h3, h4, h5, h6, m, h7, h8⟩ := h
  refine ⟨h1, h2, by omega, h4, fun i hi => ?_, h6, fun i => if i = D then c else m i, fun i hi => ?_, ?_⟩
  · by_cases e : i = D
    · subst e; rw [pk_us, pk_us]; exact hx
    · rw [pk_un e, pk_un e]; exact h5 i hi
  · by_cases e : i = D
    · subst e; rw [pk_us]; dsimp only; rw [if_pos rfl]
    · rw [pk_un e]; dsimp only; rw [if_neg e]; exact h7 i hi
  · show ew_sum (fun i => if i = D then c else m i) D + (if D = D then c else m D) ≤ 8
    rw [if_pos rfl, ew_sum_c (m' := m) D (fun i hi => if_neg (by omega))]
    exact hc m h7 h8
theorem ew_S_top (h : ew_S R C D LL PX SL K st ln pn) {E : Nat} {x y : Int32} (hx : ew_Lg x y) : ew_S R C D LL PX (upd SL E x) K (upd st E y) ln pn := by
  obtain ⟨h1, h2, h3, h4, h5, h6, h7⟩ := h
  refine ⟨h1, h2, h3, h4, fun i hi => ?_, h6, h7⟩
  by_cases e : i = E
  · subst e; rw [pk_us, pk_us]; exact hx
  · rw [pk_un e, pk_un e]; exact h5 i hi
theorem ew_S_pair {E : Nat} (h : ew_S R C (E + 2) LL PX SL K st ln pn) {x y : Int32} (hx : ew_Lg x y) : ew_S R C (E + 1) LL PX (upd SL E x) (upd K E (K E + K (E + 1))) (upd st E y) ln pn := by
  obtain ⟨h1, h2, h3, h4, h5, h6, m, h7, h8⟩ := h
  refine ⟨h1, h2, by omega, h4, fun i hi => ?_, h6, fun i => if i = E then m E + m (E + 1) else m i, fun i hi => ?_, ?_⟩
  · by_cases e : i = E
    · subst e; rw [pk_us, pk_us]; exact hx
    · rw [pk_un e, pk_un e]; exact h5 i hi
  · by_cases e : i = E
    · subst e; rw [pk_us]; dsimp only; rw [if_pos rfl, h7 i (by omega), h7 (i + 1) (by omega), nI_add]
    · rw [pk_un e]; dsimp only; rw [if_neg e]; exact h7 i hi
  · show ew_sum (fun i => if i = E then m E + m (E + 1) else m i) E + (if E = E then m E + m (E + 1) else m E) ≤ 8
    rw [if_pos rfl, ew_sum_c (m' := m) E (fun i hi => if_neg (by omega))]
    have : ew_sum m E + m E + m (E + 1) ≤ 8 := h8
    omega
theorem ew_S_pop (h : ew_S R C (D + 1) LL PX SL K st ln pn) {line : Nat} (hl : line < 7) : ew_S R C D (upd LL line (SL D)) PX SL K st (upd ln line (st D)) pn := by
  obtain ⟨h1, h2, h3, h4, h5, h6, m, h7, h8⟩ := h
  refine ⟨h1, h2, by omega, fun i hi => ?_, h5, h6, m, h7, ?_⟩
  · by_cases e : i = line
    · subst e; rw [pk_us, pk_us]; exact h5 D (by omega)
    · rw [pk_un e, pk_un e]; exact h4 i hi
  · have : ew_sum m D + m D ≤ 8 := h8
    omega
theorem ew_S_free (h : ew_S R C D LL PX SL K st ln pn) {line : Nat} : ew_S R C D (upd LL line (-2)) PX SL K st (upd ln line 2147483647) pn := by
  obtain ⟨h1, h2, h3, h4, h5⟩ := h
  refine ⟨h1, h2, h3, fun i hi => ?_, h5⟩
  by_cases e : i = line
  · subst e; rw [pk_us, pk_us]; exact ew_Lg_all
  · rw [pk_un e, pk_un e]; exact h4 i hi
theorem ew_rc_inj {C r c r' c' : Nat} (h1 : c < C) (h2 : c' < C) (h : r * C + c = r' * C + c') : r = r' ∧ c = c' := by
  have hp : 0 < C := by omega
  have a : (r * C + c) / C = r := by rw [Nat.mul_comm, Nat.mul_add_div hp, Nat.div_eq_of_lt h1]; rfl
  have b : (r' * C + c') / C = r' := by rw [Nat.mul_comm, Nat.mul_add_div hp, Nat.div_eq_of_lt h2]; rfl
  have e : r = r' := by rw [← a, ← b, h]
  subst e
  exact ⟨rfl, by omega⟩
theorem ew_S_pin (h : ew_S R C D LL PX SL K st ln pn) {p q : Nat} (hp : p < R) (hq : q < C) (x : Int32) : ew_S R C D LL (upd PX (p * C + q) x) SL K st ln (upd pn (p * 4 + q) x) := by
  obtain ⟨h1, h2, h3, h4, h5, h6, h7⟩ := h
  refine ⟨h1, h2, h3, h4, h5, fun r hr c hc => ?_, h7⟩
  by_cases e : r = p ∧ c = q
  · obtain ⟨rfl, rfl⟩ := e
    rw [pk_us, pk_us]
  · rw [pk_un (fun k => e (ew_rc_inj hc hq k)), pk_un (fun k => e ⟨by omega, by omega⟩)]
    exact h6 r hr c hc
theorem ew_xle {r c : Int32} {m : Nat → Nat} (hD : D ≤ 6) (hm : ∀ i, i < 6 → K i = nI (m i)) {post : Int32 → Prop} (h : post (nI (ew_sum m D))) : wpX_letters post (r, c, nI D, LL, PX, SL, K) := by
  have : ∀ n i, i + n = D + 1 → i ≤ D → wX_letters_4 post r c (nI D) LL PX SL K n (nI (ew_sum m i)) (nI i) := by
    intro n
    induction n with
    | zero => intro i a b; omega
    | succ n ih =>
      intro i a b
      refine pk_le D i (fun z => ?_) (fun z => ⟨vp_in_nI (by omega) (by omega), ?_⟩)
      · rw [show i = D by omega]; exact h
      · refine nm_r (e' := nI (ew_sum m (i + 1))) ?_ (nm_r (nI_1 i) (ih (i + 1) (by omega) (by omega)))
        rw [nI_clamp (by omega), hm i (by omega), nI_add]
        rfl
  exact ⟨D + 1, this (D + 1) 0 (by omega) (by omega)⟩
theorem ew_yle {r c : Int32} {m : Nat → Nat} (hD : D ≤ 6) (hm : ∀ i, i < 6 → K i = nI (m i)) {post : Int32 → Prop} (h : post (nI (ew_sum m D))) : wpY_letters post (nI D, r, c, st, K, ln, pn) := by
  have : ∀ n i, i + n = D + 1 → i ≤ D → wY_letters_4 post (nI D) r c st K ln pn n (nI (ew_sum m i)) (nI i) := by
    intro n
    induction n with
    | zero => intro i a b; omega
    | succ n ih =>
      intro i a b
      refine pk_le D i (fun z => ?_) (fun z => ⟨vp_in_nI (by omega) (by omega), ?_⟩)
      · rw [show i = D by omega]; exact h
      · refine nm_r (e' := nI (ew_sum m (i + 1))) ?_ (nm_r (nI_1 i) (ih (i + 1) (by omega) (by omega)))
        rw [nI_clamp (by omega), hm i (by omega), nI_add]
        rfl
  exact ⟨D + 1, this (D + 1) 0 (by omega) (by omega)⟩
theorem ew_xpu {r c : Int32} (hD : D < 6) {x : Int32} {q : Int32} {post : Int32 → SX → Prop} (h : post (nI (D + 1)) (r, c, nI (D + 1), LL, PX, upd SL D x, upd K D q)) : wpX_push post (r, c, nI D, LL, PX, SL, K) x q := by
  unfold wpX_push
  dsimp only
  rw [nI_clamp (by omega)]
  exact ⟨vp_in_nI hD (by omega), nm_e ⟨vp_in_nI hD (by omega), nm_e (nm_r (nI_1 D) h)⟩⟩
theorem ew_ypu {r c : Int32} (hD : D < 6) {x : Int32} {q : Int32} {post : Int32 → SY → Prop} (h : post (nI (D + 1)) (nI (D + 1), r, c, upd st D x, upd K D q, ln, pn)) : wpY_push post (nI D, r, c, st, K, ln, pn) x q := by
  unfold wpY_push
  dsimp only
  rw [nI_clamp (by omega)]
  exact ⟨vp_in_nI hD (by omega), nm_e ⟨vp_in_nI hD (by omega), nm_e (nm_r (nI_1 D) h)⟩⟩
theorem ew_m1 (E : Nat) : nI (E + 1) - 1 = nI E := nI_pred E
theorem ew_m2 (E : Nat) : nI (E + 2) - 2 = nI E := pk_sub (b := 2) (by omega)
theorem ew_m21 (E : Nat) : nI (E + 2) - 1 = nI (E + 1) := nI_pred (E + 1)
theorem ew_xrt {E : Nat} {r c : Int32} (hE : E + 2 ≤ 6) {x : Int32} {post : Int32 → SX → Prop} (h : post (nI (E + 1)) (r, c, nI (E + 1), LL, PX, upd SL E x, upd K E (K E + K (E + 1)))) : wpX_replaceTopTwo post (r, c, nI (E + 2), LL, PX, SL, K) x := by
  unfold wpX_replaceTopTwo
  dsimp only
  refine nm_r (ew_m21 E) ?_
  rw [ew_m1, nI_clamp (by omega), nI_clamp (by omega)]
  have v0 : vp_in (nI E) 6 := vp_in_nI (by omega) (by omega)
  have v1 : vp_in (nI (E + 1)) 6 := vp_in_nI (by omega) (by omega)
  exact ⟨v0, nm_e ⟨v0, v1, v0, nm_e h⟩⟩
theorem ew_ypa {E : Nat} {r c : Int32} (hE : E + 2 ≤ 6) {x : Int32} {post : Int32 → SY → Prop} (h : post (nI (E + 1)) (nI (E + 1), r, c, upd st E x, upd K E (K E + K (E + 1)), ln, pn)) : wpY_pair post (nI (E + 2), r, c, st, K, ln, pn) x := by
  unfold wpY_pair
  dsimp only
  rw [ew_m21, ew_m2, nI_clamp (by omega), nI_clamp (by omega)]
  have v0 : vp_in (nI E) 6 := vp_in_nI (by omega) (by omega)
  have v1 : vp_in (nI (E + 1)) 6 := vp_in_nI (by omega) (by omega)
  exact ⟨v0, nm_e ⟨v0, v1, v0, nm_e (nm_e h)⟩⟩
end
/-! the start -/
theorem ew_x83 {r c s : Int32} {LL SL SK : Nat → Int32} {post : SX → Prop} (h : ∀ PX, (∀ j, j < 12 → PX j = 2) → post (r, c, s, LL, PX, SL, SK)) : ∀ n i PX, i + n = 13 → i ≤ 12 → (∀ j, j < i → PX j = 2) → wX_init_83 post r c s n (nI i) LL PX SL SK := by
  intro n
  induction n with
  | zero => intro i PX a b; omega
  | succ n ih =>
    intro i PX a b hI
    refine pk_le 12 i (fun z => ?_) (fun z => ⟨vp_in_nI z (by omega), ?_⟩)
    · have e : i = 12 := by omega
      subst e
      exact h PX hI
    · rw [nI_clamp (by omega)]
      refine nm_e (nm_r (nI_1 i) (ih (i + 1) _ (by omega) (by omega) (lt_s (fun j hj => ?_) pk_us)))
      rw [pk_un (by omega)]; exact hI j hj
theorem ew_x61 {r c s : Int32} {PX SL SK : Nat → Int32} {post : SX → Prop} (h : ∀ LL PX, (∀ j, j < 7 → LL j = -2) → (∀ j, j < 12 → PX j = 2) → post (r, c, s, LL, PX, SL, SK)) : ∀ n i LL, i + n = 8 → i ≤ 7 → (∀ j, j < i → LL j = -2) → wX_init_61 post r c s n (nI i) LL PX SL SK := by
  intro n
  induction n with
  | zero => intro i LL a b; omega
  | succ n ih =>
    intro i LL a b hI
    refine pk_le 7 i (fun z => ?_) (fun z => ⟨vp_in_nI z (by omega), ?_⟩)
    · have e : i = 7 := by omega
      subst e
      exact ⟨13, ew_x83 (fun PX hP => h LL PX hI hP) 13 0 PX rfl (by omega) (fun j hj => by omega)⟩
    · rw [nI_clamp (by omega)]
      refine nm_e (nm_r (nI_1 i) (ih (i + 1) _ (by omega) (by omega) (lt_s (fun j hj => ?_) pk_us)))
      rw [pk_un (by omega)]; exact hI j hj
theorem ew_y106 {r c s : Int32} {st lc ln : Nat → Int32} {post : SY → Prop} (h : ∀ pn, (∀ j, j < 12 → pn j = 2) → post (s, r, c, st, lc, ln, pn)) : ∀ n i pn, i + n = 13 → i ≤ 12 → (∀ j, j < i → pn j = 2) → wY_init_106 post s r c n (nI i) st lc ln pn := by
  intro n
  induction n with
  | zero => intro i PX a b; omega
  | succ n ih =>
    intro i pn a b hI
    refine pk_le 12 i (fun z => ?_) (fun z => ⟨vp_in_nI z (by omega), ?_⟩)
    · have e : i = 12 := by omega
      subst e
      exact h pn hI
    · rw [nI_clamp (by omega)]
      refine nm_e (nm_r (nI_1 i) (ih (i + 1) _ (by omega) (by omega) (lt_s (fun j hj => ?_) pk_us)))
      rw [pk_un (by omega)]; exact hI j hj
theorem ew_y84 {r c s : Int32} {st lc pn : Nat → Int32} {post : SY → Prop} (h : ∀ ln pn, (∀ j, j < 7 → ln j = 2147483647) → (∀ j, j < 12 → pn j = 2) → post (s, r, c, st, lc, ln, pn)) : ∀ n i ln, i + n = 8 → i ≤ 7 → (∀ j, j < i → ln j = 2147483647) → wY_init_84 post s r c n (nI i) st lc ln pn := by
  intro n
  induction n with
  | zero => intro i LL a b; omega
  | succ n ih =>
    intro i ln a b hI
    refine pk_le 7 i (fun z => ?_) (fun z => ⟨vp_in_nI z (by omega), ?_⟩)
    · have e : i = 7 := by omega
      subst e
      exact ⟨13, ew_y106 (fun pn hP => h ln pn hI hP) 13 0 pn rfl (by omega) (fun j hj => by omega)⟩
    · rw [nI_clamp (by omega)]
      refine nm_e (nm_r (nI_1 i) (ih (i + 1) _ (by omega) (by omega) (lt_s (fun j hj => ?_) pk_us)))
      rw [pk_un (by omega)]; exact hI j hj
theorem ew_clm (p : Int32) {M : Nat} (hM1 : 1 ≤ M) (hM : M < 2 ^ 31) : ∃ R, 1 ≤ R ∧ R ≤ M ∧ ((1 ≤ p ∧ p ≤ nI M ∧ p = nI R) ∨ (1 ≤ p ∧ ¬ p ≤ nI M ∧ R = M) ∨ (¬ 1 ≤ p ∧ R = 1)) := by
  by_cases h1 : 1 ≤ p
  · by_cases h2 : p ≤ nI M
    · obtain ⟨j, hj, rfl⟩ := nI_of (x := p) (fun k => absurd (Int32.lt_of_le_of_lt h1 k) (by decide))
      have a : 1 ≤ j := (nI_leI (a := 1) (by omega) hj).mp h1
      have b : j ≤ M := (nI_leI hj hM).mp h2
      exact ⟨j, a, b, Or.inl ⟨h1, h2, rfl⟩⟩
    · exact ⟨M, hM1, Nat.le_refl _, Or.inr (Or.inl ⟨h1, h2, rfl⟩)⟩
  · exact ⟨1, Nat.le_refl _, hM1, Or.inr (Or.inr ⟨h1, rfl⟩)⟩
theorem i_vc0 (k0 : Int32) (k1 : Int32) : wpX_init (fun u => wpY_init (fun v => i_Rel 2 u v) k0 k1) k0 k1 := by
  obtain ⟨R, r1, r2, hR⟩ := ew_clm k0 (M := 3) (by omega) (by omega)
  obtain ⟨C, c1, c2, hC⟩ := ew_clm k1 (M := 4) (by omega) (by omega)
  have fin : ∀ LL PX ln pn : Nat → Int32, (∀ j, j < 7 → LL j = -2) → (∀ j, j < 12 → PX j = 2) → (∀ j, j < 7 → ln j = 2147483647) → (∀ j, j < 12 → pn j = 2) → i_Rel 2 (nI R, nI C, 0, LL, PX, fun _ => 0, fun _ => 0) (0, nI R, nI C, fun _ => 0, fun _ => 0, ln, pn) := by
    intro LL PX ln pn h1 h2 h3 h4
    refine ⟨R, C, 0, LL, PX, fun _ => 0, fun _ => 0, fun _ => 0, ln, pn, rfl, rfl, ⟨r1, r2⟩, ⟨c1, c2⟩, by omega, fun i hi => ?_, fun i hi => ew_Lg_0, fun r hr c hc => ?_, fun _ => 0, fun _ _ => rfl, by decide⟩
    · rw [h1 i hi, h3 i hi]; exact ew_Lg_all
    · have := ew_rc hr hc
      have := ew_RC r2 c2
      rw [h2 _ (by omega), h4 _ (by omega)]
  have yin : ∀ LL PX : Nat → Int32, (∀ j, j < 7 → LL j = -2) → (∀ j, j < 12 → PX j = 2) → wpY_init (fun v => i_Rel 2 (nI R, nI C, 0, LL, PX, fun _ => 0, fun _ => 0) v) k0 k1 := by
    intro LL PX h1 h2
    have y84 : ∃ n84, wY_init_84 (fun v => i_Rel 2 (nI R, nI C, 0, LL, PX, fun _ => 0, fun _ => 0) v) 0 (nI R) (nI C) n84 0 (fun _ => 0) (fun _ => 0) (fun _ => 0) (fun _ => 0) := ⟨8, ew_y84 (fun ln pn h3 h4 => fin LL PX ln pn h1 h2 h3 h4) 8 0 _ rfl (by omega) (fun j hj => by omega)⟩
    have y56 : wY_init_56 (fun v => i_Rel 2 (nI R, nI C, 0, LL, PX, fun _ => 0, fun _ => 0) v) k1 (nI R) 0 0 0 (fun _ => 0) (fun _ => 0) (fun _ => 0) (fun _ => 0) := by
      unfold wY_init_56
      rcases hC with ⟨a, b, e⟩ | ⟨a, b, e⟩ | ⟨a, e⟩
      · refine br_t a (br_t b ?_)
        rw [← e] at y84; rw [← e]; exact y84
      · refine br_t a (br_f b ?_)
        rw [e] at y84; rw [e]; exact y84
      · refine br_f a ?_
        rw [e] at y84; rw [e]; exact y84
    unfold wpY_init
    rcases hR with ⟨a, b, e⟩ | ⟨a, b, e⟩ | ⟨a, e⟩
    · refine br_t a (br_t b ?_)
      rw [← e] at y56; rw [← e]; exact y56
    · refine br_t a (br_f b ?_)
      rw [e] at y56; rw [e]; exact y56
    · refine br_f a ?_
      rw [e] at y56; rw [e]; exact y56
  have x61 : ∃ n61, wX_init_61 (fun u => wpY_init (fun v => i_Rel 2 u v) k0 k1) (nI R) (nI C) 0 n61 0 (fun _ => 0) (fun _ => 0) (fun _ => 0) (fun _ => 0) := ⟨8, ew_x61 (fun LL PX h1 h2 => yin LL PX h1 h2) 8 0 _ rfl (by omega) (fun j hj => by omega)⟩
  have cl : ∀ (p : Int32) (M Q : Nat) (post : Int32 → Prop), ((1 ≤ p ∧ p ≤ nI M ∧ p = nI Q) ∨ (1 ≤ p ∧ ¬ p ≤ nI M ∧ Q = M) ∨ (¬ 1 ≤ p ∧ Q = 1)) → post (nI Q) → wpX_clamp post p (nI M) := by
    intro p M Q post h hp
    unfold wpX_clamp
    rcases h with ⟨a, b, e⟩ | ⟨a, b, e⟩ | ⟨a, e⟩
    · refine br_t a (br_t b ?_)
      rw [e]; exact hp
    · refine br_t a (br_f b ?_)
      rw [← e]; exact hp
    · refine br_f a ?_
      rw [e] at hp; exact hp
  unfold wpX_init
  exact cl k0 3 R _ hR (cl k1 4 C _ hC x61)
end
section
/-! lines and cells that are there, or not -/
section
variable {R C : Nat} {D d : Int32} {LL PX SL SK st lc ln pn : Nat → Int32}
theorem ew_xh0 {x : Int32} (h : x < 0 ∨ nI (R + C) ≤ x) {post : Int32 → Prop} (hp : post 0) : wpX_hasLine post (nI R, nI C, D, LL, PX, SL, SK) x := by
  refine br_c (fun _ => hp) (fun a => br_c (fun _ => hp) (fun b => ?_))
  rw [nI_add] at b
  exact (h.elim a b).elim
theorem ew_xh1 (hR : R ≤ 3) (hC : C ≤ 4) {j : Nat} (h : j < R + C) {post : Int32 → Prop} (hp : post 1) : wpX_hasLine post (nI R, nI C, D, LL, PX, SL, SK) (nI j) := by
  refine br_f (nI_pos (by omega)) (br_f ?_ hp)
  rw [nI_add]
  exact nI_ge h (by omega)
theorem ew_yh0 {x : Int32} (h : x < 0 ∨ nI (R + C) ≤ x) {post : Int32 → Prop} (hp : post 0) : wpY_isLine post (d, nI R, nI C, st, lc, ln, pn) x := by
  refine br_c (fun _ => hp) (fun a => br_c (fun _ => hp) (fun b => ?_))
  rw [nI_add] at b
  exact (h.elim a b).elim
theorem ew_yh1 (hR : R ≤ 3) (hC : C ≤ 4) {j : Nat} (h : j < R + C) {post : Int32 → Prop} (hp : post 1) : wpY_isLine post (d, nI R, nI C, st, lc, ln, pn) (nI j) := by
  refine br_f (nI_pos (by omega)) (br_f ?_ hp)
  rw [nI_add]
  exact nI_ge h (by omega)
theorem ew_lix (hR : R ≤ 3) (hC : C ≤ 4) (x : Int32) : (x < 0 ∨ nI (R + C) ≤ x) ∨ ∃ j, j < R + C ∧ x = nI j := by
  rcases pk_ix x (n := R + C) (by omega) with a | a | a
  · exact Or.inl (Or.inl a)
  · exact Or.inl (Or.inr a)
  · exact Or.inr a
theorem ew_xc0 {x y : Int32} (h : x < 0 ∨ nI R ≤ x ∨ y < 0 ∨ nI C ≤ y) {post : Int32 → Prop} (hp : post 0) : wpX_hasCell post (nI R, nI C, D, LL, PX, SL, SK) x y :=
  br_c (fun _ => hp) (fun a => br_c (fun _ => hp) (fun b => br_c (fun _ => hp) (fun c => br_c (fun _ => hp) (fun e => (h.elim a (fun h => h.elim b (fun h => h.elim c e))).elim))))
theorem ew_xc1 (hR : R ≤ 3) (hC : C ≤ 4) {p q : Nat} (h1 : p < R) (h2 : q < C) {post : Int32 → Prop} (hp : post 1) : wpX_hasCell post (nI R, nI C, D, LL, PX, SL, SK) (nI p) (nI q) :=
  br_f (nI_pos (by omega)) (br_f (nI_ge h1 (by omega)) (br_f (nI_pos (by omega)) (br_f (nI_ge h2 (by omega)) hp)))
theorem ew_yc0 {x y : Int32} (h : x < 0 ∨ nI R ≤ x ∨ y < 0 ∨ nI C ≤ y) {post : Int32 → Prop} (hp : post 0) : wpY_isCell post (d, nI R, nI C, st, lc, ln, pn) x y :=
  br_c (fun _ => hp) (fun a => br_c (fun _ => hp) (fun b => br_c (fun _ => hp) (fun c => br_c (fun _ => hp) (fun e => (h.elim a (fun h => h.elim b (fun h => h.elim c e))).elim))))
theorem ew_yc1 (hR : R ≤ 3) (hC : C ≤ 4) {p q : Nat} (h1 : p < R) (h2 : q < C) {post : Int32 → Prop} (hp : post 1) : wpY_isCell post (d, nI R, nI C, st, lc, ln, pn) (nI p) (nI q) :=
  br_f (nI_pos (by omega)) (br_f (nI_ge h1 (by omega)) (br_f (nI_pos (by omega)) (br_f (nI_ge h2 (by omega)) hp)))
theorem ew_cix (hR : R ≤ 3) (hC : C ≤ 4) (x y : Int32) : (x < 0 ∨ nI R ≤ x ∨ y < 0 ∨ nI C ≤ y) ∨ ∃ p q, p < R ∧ q < C ∧ x = nI p ∧ y = nI q := by
  rcases pk_ix x (n := R) (by omega) with a | a | ⟨p, hp, ex⟩
  · exact Or.inl (Or.inl a)
  · exact Or.inl (Or.inr (Or.inl a))
  · rcases pk_ix y (n := C) (by omega) with a | a | ⟨q, hq, ey⟩
    · exact Or.inl (Or.inr (Or.inr (Or.inl a)))
    · exact Or.inl (Or.inr (Or.inr (Or.inr a)))
    · exact Or.inr ⟨p, q, hp, hq, ex, ey⟩
end
theorem ew_num {R C : Nat} (hR : R ≤ 3) (hC : C ≤ 4) : (1 : Int32) <<< ((nI R * nI C) &&& 31) = nI (2 ^ (R * C)) ∧ 2 ^ (R * C) ≤ 4096 := by
  have h := ew_RC hR hC
  refine ⟨by rw [pk_mul, ew_one (by omega)], (Nat.pow_le_pow_right (by decide) h : 2 ^ (R * C) ≤ 2 ^ 12)⟩
theorem ew_clle (x : Int32) {i : Nat} (hi : i < 2 ^ 31) : x ≤ nI i ↔ x.toNatClampNeg ≤ i := by
  have e : x.toNatClampNeg = x.toInt.toNat := rfl
  rw [Int32.le_iff_toInt_le, nI_toInt hi, e]
  omega
/-! what is owed -/
theorem i_vc_letter {k : Nat} {u : SX} {v : SY} (I : i_Rel k u v) (hk : k + 4 ≤ 2050) (v1 : Int32) : wpX_letter (fun r u' => wpY_letter (fun r' v' => r' = r ∧ i_Rel (k + 4) u' v') v v1) u v1 := by
  obtain ⟨R, C, D, LL, PX, SL, K, st, ln, pn, rfl, rfl, h⟩ := I
  have h' := h
  obtain ⟨⟨r1, r2⟩, ⟨c1, c2⟩, hD, hL, hS, hP, m, hm, h8⟩ := h'
  unfold wpX_letter wpY_letter
  dsimp only
  by_cases a : v1 < 0
  · exact br_t a (br_t a ⟨rfl, ew_mk h⟩)
  refine br_f a ?_
  by_cases b : v1 ≤ 2
  · refine br_t b ?_
    by_cases e : D = 6
    · subst e
      exact br_t (by decide) (br_f a (br_t b (br_t rfl ⟨rfl, ew_mk h⟩)))
    · have d6 : ¬ (6 : Int32) ≤ nI D := nI_ge (b := 6) (by omega) (by decide)
      have d6' : ¬ nI D = 6 := fun q => e ((nI_eq (b := 6) (by omega) (by omega)).mp q)
      refine br_f d6 (ew_xle hD hm ?_)
      by_cases s : ew_sum m D = 8
      · rw [s]
        refine br_f (by decide) (br_f a (br_t b (br_f d6' (ew_yle hD hm (br_t ?_ ⟨rfl, ew_mk h⟩)))))
        rw [s]; rfl
      · refine br_t (nI_lt (b := 8) (by omega) (by decide)) ?_
        have s8 : ¬ nI (ew_sum m D) = 8 := fun q => s ((nI_eq (b := 8) (by omega) (by omega)).mp q)
        have hc : ∀ m : Nat → Nat, (∀ i, i < 6 → K i = nI (m i)) → ew_sum m D ≤ 8 → ew_sum m D + 1 ≤ 8 := by
          intro m' hm' hs'
          have : ∀ j, j ≤ D → nI (ew_sum m' j) = nI (ew_sum m j) := by
            intro j
            induction j with
            | zero => intro _; rfl
            | succ j ih =>
              intro hj
              show nI (ew_sum m' j + m' j) = nI (ew_sum m j + m j)
              rw [← nI_add, ← nI_add, ih (by omega), ← hm' j (by omega), ← hm j (by omega)]
          have := (nI_eq (by omega) (by omega)).mp (this D (Nat.le_refl _))
          omega
        by_cases z0 : v1 = 0
        · exact br_t z0 (ew_xpu (by omega) (br_f a (br_t b (br_f d6' (ew_yle hD hm (br_f s8 (br_t z0 (ew_ypu (by omega) ⟨rfl, ew_mk (ew_S_push h (by omega) ew_Lg_2 hc)⟩))))))))
        · by_cases z1 : v1 = 1
          · exact br_f z0 (br_t z1 (ew_xpu (by omega) (br_f a (br_t b (br_f d6' (ew_yle hD hm (br_f s8 (br_f z0 (br_t z1 (ew_ypu (by omega) ⟨rfl, ew_mk (ew_S_push h (by omega) ew_Lg_4 hc)⟩))))))))))
          · exact br_f z0 (br_f z1 (ew_xpu (by omega) (br_f a (br_t b (br_f d6' (ew_yle hD hm (br_f s8 (br_f z0 (br_f z1 (ew_ypu (by omega) ⟨rfl, ew_mk (ew_S_push h (by omega) ew_Lg_6 hc)⟩))))))))))
  · exact br_f b (br_f a (br_f b ⟨rfl, ew_mk h⟩))
theorem i_vc_unit {k : Nat} {u : SX} {v : SY} (I : i_Rel k u v) (hk : k + 4 ≤ 2050) : wpX_unit (fun r u' => wpY_unit (fun r' v' => r' = r ∧ i_Rel (k + 4) u' v') v) u := by
  obtain ⟨R, C, D, LL, PX, SL, K, st, ln, pn, rfl, rfl, h⟩ := I
  have hD := h.2.2.1
  unfold wpX_unit wpY_unit
  dsimp only
  by_cases e : D = 6
  · subst e
    exact br_f (by decide) (br_t rfl ⟨rfl, ew_mk h⟩)
  · have d6' : ¬ nI D = 6 := fun q => e ((nI_eq (b := 6) (by omega) (by omega)).mp q)
    exact br_t (nI_lt (b := 6) (by omega) (by decide)) (ew_xpu (by omega) (br_f d6' (ew_ypu (by omega) ⟨rfl, ew_mk (ew_S_push (c := 0) h (by omega) ew_Lg_1 (fun _ _ q => q))⟩)))
theorem i_vc_cat {k : Nat} {u : SX} {v : SY} (I : i_Rel k u v) (hk : k + 4 ≤ 2050) : wpX_cat (fun r u' => wpY_cat (fun r' v' => r' = r ∧ i_Rel (k + 4) u' v') v) u := by
  obtain ⟨R, C, D, LL, PX, SL, K, st, ln, pn, rfl, rfl, h⟩ := I
  have h' := h
  obtain ⟨_, _, hD, hL, hS, _⟩ := h'
  unfold wpX_cat wpY_cat
  dsimp only
  by_cases e : D < 2
  · have d2 : ¬ (2 : Int32) ≤ nI D := nI_ge (b := 2) e (by decide)
    exact br_f d2 (br_f d2 ⟨rfl, ew_mk h⟩)
  · obtain ⟨E, rfl⟩ : ∃ E, D = E + 2 := ⟨D - 2, by omega⟩
    have d2 : (2 : Int32) ≤ nI (E + 2) := nI_le (a := 2) (by omega) (by omega)
    have v0 : vp_in (nI E) 6 := vp_in_nI (by omega) (by omega)
    have w1 : vp_in (nI (E + 1)) 6 := vp_in_nI (by omega) (by omega)
    rw [ew_m2, ew_m21, nI_clamp (n := E) (by omega), nI_clamp (n := E + 1) (by omega)]
    refine br_t d2 ⟨v0, w1, ew_join _ _ (fun r hr => ew_xrt hD ?_)⟩
    refine br_t d2 ⟨v0, w1, ew_prod _ _ (fun r' hr' => ew_ypa hD ⟨rfl, ew_mk (ew_S_pair h ?_)⟩)⟩
    intro w q1 q2
    rw [hr w q2, hr' w q1 q2]
    exact ew_Lg_G (Nat.le_refl 1) (hS E (by omega)) (hS (E + 1) (by omega)) q2
theorem i_vc_alt {k : Nat} {u : SX} {v : SY} (I : i_Rel k u v) (hk : k + 4 ≤ 2050) : wpX_alt (fun r u' => wpY_alt (fun r' v' => r' = r ∧ i_Rel (k + 4) u' v') v) u := by
  obtain ⟨R, C, D, LL, PX, SL, K, st, ln, pn, rfl, rfl, h⟩ := I
  have h' := h
  obtain ⟨_, _, hD, hL, hS, _⟩ := h'
  unfold wpX_alt wpY_alt
  dsimp only
  by_cases e : D < 2
  · have d2 : ¬ (2 : Int32) ≤ nI D := nI_ge (b := 2) e (by decide)
    exact br_f d2 (br_f d2 ⟨rfl, ew_mk h⟩)
  · obtain ⟨E, rfl⟩ : ∃ E, D = E + 2 := ⟨D - 2, by omega⟩
    have d2 : (2 : Int32) ≤ nI (E + 2) := nI_le (a := 2) (by omega) (by omega)
    have v0 : vp_in (nI E) 6 := vp_in_nI (by omega) (by omega)
    have w1 : vp_in (nI (E + 1)) 6 := vp_in_nI (by omega) (by omega)
    rw [ew_m2, ew_m21, nI_clamp (n := E) (by omega), nI_clamp (n := E + 1) (by omega)]
    refine br_t d2 ⟨v0, w1, ew_xrt hD ?_⟩
    exact br_t d2 ⟨v0, w1, ew_ypa hD ⟨rfl, ew_mk (ew_S_pair h (ew_Lg_or (hS E (by omega)) (hS (E + 1) (by omega))))⟩⟩
theorem i_vc_star {k : Nat} {u : SX} {v : SY} (I : i_Rel k u v) (hk : k + 4 ≤ 2050) : wpX_star (fun r u' => wpY_star (fun r' v' => r' = r ∧ i_Rel (k + 4) u' v') v) u := by
  obtain ⟨R, C, D, LL, PX, SL, K, st, ln, pn, rfl, rfl, h⟩ := I
  have h' := h
  obtain ⟨_, _, hD, hL, hS, _⟩ := h'
  unfold wpX_star wpY_star
  dsimp only
  by_cases e : D = 0
  · subst e
    exact br_f (by decide) (br_t rfl ⟨rfl, ew_mk h⟩)
  · obtain ⟨E, rfl⟩ : ∃ E, D = E + 1 := ⟨D - 1, by omega⟩
    have d1 : (1 : Int32) ≤ nI (E + 1) := nI_le (a := 1) (by omega) (by omega)
    have d0 : ¬ nI (E + 1) = 0 := nI_ne0 (by omega) (by omega)
    have v0 : vp_in (nI E) 6 := vp_in_nI (by omega) (by omega)
    rw [ew_m1, nI_clamp (n := E) (by omega)]
    refine br_t d1 ⟨v0, ew_rep _ (fun r hr => ⟨v0, nm_e ?_⟩)⟩
    refine br_f d0 ⟨v0, ew_ch _ (fun r' hr' => ⟨v0, nm_e ⟨rfl, ew_mk (ew_S_top h ?_)⟩⟩)⟩
    intro w q1 q2
    rw [hr w q1 q2, hr' w q1 q2]
    exact ew_st_congr (hS E (by omega)) 4 w q1 q2
theorem i_vc_reverse {k : Nat} {u : SX} {v : SY} (I : i_Rel k u v) (hk : k + 4 ≤ 2050) : wpX_reverse (fun r u' => wpY_reverse (fun r' v' => r' = r ∧ i_Rel (k + 4) u' v') v) u := by
  obtain ⟨R, C, D, LL, PX, SL, K, st, ln, pn, rfl, rfl, h⟩ := I
  have h' := h
  obtain ⟨_, _, hD, hL, hS, _⟩ := h'
  unfold wpX_reverse wpY_reverse
  dsimp only
  by_cases e : D = 0
  · subst e
    exact br_f (by decide) (br_t rfl ⟨rfl, ew_mk h⟩)
  · obtain ⟨E, rfl⟩ : ∃ E, D = E + 1 := ⟨D - 1, by omega⟩
    have d1 : (1 : Int32) ≤ nI (E + 1) := nI_le (a := 1) (by omega) (by omega)
    have d0 : ¬ nI (E + 1) = 0 := nI_ne0 (by omega) (by omega)
    have v0 : vp_in (nI E) 6 := vp_in_nI (by omega) (by omega)
    rw [ew_m1, nI_clamp (n := E) (by omega)]
    refine br_t d1 ⟨v0, ew_rev _ (fun r hr => ⟨v0, nm_e ?_⟩)⟩
    refine br_f d0 ⟨v0, ew_mi _ (fun r' hr' => ⟨v0, nm_e ⟨rfl, ew_mk (ew_S_top h ?_)⟩⟩)⟩
    intro w q1 q2
    obtain ⟨a1, a2, _⟩ := ew_rv_in w q2 q1
    rw [hr w q1 q2, hr' w q1 q2]
    exact hS E (by omega) _ a2 a1
theorem i_vc_setLine {k : Nat} {u : SX} {v : SY} (I : i_Rel k u v) (hk : k + 4 ≤ 2050) (v1 : Int32) : wpX_setLine (fun r u' => wpY_setLine (fun r' v' => r' = r ∧ i_Rel (k + 4) u' v') v v1) u v1 := by
  obtain ⟨R, C, D, LL, PX, SL, K, st, ln, pn, rfl, rfl, h⟩ := I
  have h' := h
  obtain ⟨⟨r1, r2⟩, ⟨c1, c2⟩, hD, hL, hS, _⟩ := h'
  unfold wpX_setLine wpY_setLine
  dsimp only
  rcases ew_lix r2 c2 v1 with a | ⟨j, hj, rfl⟩
  · exact ew_xh0 a (br_t rfl (ew_yh0 a (br_t rfl ⟨rfl, ew_mk h⟩)))
  · refine ew_xh1 r2 c2 hj (br_f (by decide) ?_)
    by_cases e : D = 0
    · subst e
      exact br_f (by decide) (ew_yh1 r2 c2 hj (br_f (by decide) (br_t rfl ⟨rfl, ew_mk h⟩)))
    · obtain ⟨E, rfl⟩ : ∃ E, D = E + 1 := ⟨D - 1, by omega⟩
      have d1 : (1 : Int32) ≤ nI (E + 1) := nI_le (a := 1) (by omega) (by omega)
      have d0 : ¬ nI (E + 1) = 0 := nI_ne0 (by omega) (by omega)
      have v0 : vp_in (nI E) 6 := vp_in_nI (by omega) (by omega)
      have vj : vp_in (nI j) 7 := vp_in_nI (by omega) (by omega)
      refine br_t d1 (nm_r (ew_m1 E) ⟨v0, vj, nm_e (ew_yh1 r2 c2 hj (br_f (by decide) (br_f d0 (nm_r (ew_m1 E) ⟨v0, vj, nm_e ⟨rfl, ?_⟩⟩))))⟩)
      rw [nI_clamp (n := E) (by omega), nI_clamp (n := j) (by omega)]
      exact ew_mk (ew_S_pop h (by omega))
theorem i_vc_depth {k : Nat} {u : SX} {v : SY} (I : i_Rel k u v) (hk : k + 4 ≤ 2050) : wpX_depth (fun r => wpY_depth (fun r' => r' = r ∧ i_Rel (k + 4) u v) v) u := by
  obtain ⟨R, C, D, LL, PX, SL, K, st, ln, pn, rfl, rfl, h⟩ := I
  exact ⟨rfl, ew_mk h⟩
theorem i_vc_letters {k : Nat} {u : SX} {v : SY} (I : i_Rel k u v) (hk : k + 4 ≤ 2050) : wpX_letters (fun r => wpY_letters (fun r' => r' = r ∧ i_Rel (k + 4) u v) v) u := by
  obtain ⟨R, C, D, LL, PX, SL, K, st, ln, pn, rfl, rfl, h⟩ := I
  have h' := h
  obtain ⟨⟨r1, r2⟩, ⟨c1, c2⟩, hD, hL, hS, hP, m, hm, h8⟩ := h'
  exact ew_xle hD hm (ew_yle hD hm ⟨rfl, ew_mk h⟩)
theorem i_vc_freeLine {k : Nat} {u : SX} {v : SY} (I : i_Rel k u v) (hk : k + 4 ≤ 2050) (v1 : Int32) : wpX_freeLine (fun r u' => wpY_freeLine (fun r' v' => r' = r ∧ i_Rel (k + 4) u' v') v v1) u v1 := by
  obtain ⟨R, C, D, LL, PX, SL, K, st, ln, pn, rfl, rfl, h⟩ := I
  have h' := h
  obtain ⟨⟨r1, r2⟩, ⟨c1, c2⟩, _⟩ := h'
  unfold wpX_freeLine wpY_freeLine
  dsimp only
  rcases ew_lix r2 c2 v1 with a | ⟨j, hj, rfl⟩
  · exact ew_xh0 a (br_t rfl (ew_yh0 a (br_t rfl ⟨rfl, ew_mk h⟩)))
  · have vj : vp_in (nI j) 7 := vp_in_nI (by omega) (by omega)
    refine ew_xh1 r2 c2 hj (br_f (by decide) ⟨vj, nm_e (ew_yh1 r2 c2 hj (br_f (by decide) ⟨vj, nm_e ⟨rfl, ew_mk (ew_S_free h)⟩⟩))⟩)
theorem i_vc_pin {k : Nat} {u : SX} {v : SY} (I : i_Rel k u v) (hk : k + 4 ≤ 2050) (v1 : Int32) (v2 : Int32) (v3 : Int32) : wpX_pin (fun r u' => wpY_pin (fun r' v' => r' = r ∧ i_Rel (k + 4) u' v') v v1 v2 v3) u v1 v2 v3 := by
  obtain ⟨R, C, D, LL, PX, SL, K, st, ln, pn, rfl, rfl, h⟩ := I
  have h' := h
  obtain ⟨⟨r1, r2⟩, ⟨c1, c2⟩, hD, hL, hS, hP, _⟩ := h'
  unfold wpX_pin wpY_pin
  dsimp only
  rcases ew_cix r2 c2 v1 v2 with a | ⟨p, q, hp, hq, rfl, rfl⟩
  · exact ew_xc0 a (br_t rfl (ew_yc0 a (br_t rfl ⟨rfl, ew_mk h⟩)))
  · refine ew_xc1 r2 c2 hp hq (br_f (by decide) ?_)
    by_cases a : v3 < 0
    · exact br_t a (ew_yc1 r2 c2 hp hq (br_f (by decide) (br_t a ⟨rfl, ew_mk h⟩)))
    · by_cases b : v3 ≤ 2
      · have l1 := ew_rc hp hq
        have l2 := ew_RC r2 c2
        have vx : vp_in (nI (p * C + q)) 12 := vp_in_nI (by omega) (by omega)
        have vy : vp_in (nI (p * 4 + q)) 12 := vp_in_nI (by omega) (by omega)
        have e4 : nI p * 4 + nI q = nI (p * 4 + q) := by
          show nI p * nI 4 + nI q = _
          rw [pk_mul, nI_add]
        refine br_f a (br_t b (nm_r (e' := nI (p * C + q)) (by rw [pk_mul, nI_add]) ?_))
        rw [nI_clamp (n := p * C + q) (by omega)]
        refine ⟨vx, nm_e ⟨vx, nm_e (ew_yc1 r2 c2 hp hq (br_f (by decide) (br_f a (br_t b ?_))))⟩⟩
        rw [e4, nI_clamp (n := p * 4 + q) (by omega)]
        exact ⟨vy, nm_e ⟨vy, nm_e ⟨(hP p hp q hq).symm, ew_mk (ew_S_pin h hp hq v3)⟩⟩⟩
      · exact br_f a (br_f b (ew_yc1 r2 c2 hp hq (br_f (by decide) (br_f a (br_f b ⟨rfl, ew_mk h⟩)))))
theorem i_vc_pinned {k : Nat} {u : SX} {v : SY} (I : i_Rel k u v) (hk : k + 4 ≤ 2050) (v1 : Int32) (v2 : Int32) : wpX_pinned (fun r => wpY_pinned (fun r' => r' = r ∧ i_Rel (k + 4) u v) v v1 v2) u v1 v2 := by
  obtain ⟨R, C, D, LL, PX, SL, K, st, ln, pn, rfl, rfl, h⟩ := I
  have h' := h
  obtain ⟨⟨r1, r2⟩, ⟨c1, c2⟩, hD, hL, hS, hP, _⟩ := h'
  unfold wpX_pinned wpY_pinned
  dsimp only
  rcases ew_cix r2 c2 v1 v2 with a | ⟨p, q, hp, hq, rfl, rfl⟩
  · exact ew_xc0 a (br_t rfl (ew_yc0 a (br_t rfl ⟨rfl, ew_mk h⟩)))
  · have l1 := ew_rc hp hq
    have l2 := ew_RC r2 c2
    have vx : vp_in (nI (p * C + q)) 12 := vp_in_nI (by omega) (by omega)
    have vy : vp_in (nI (p * 4 + q)) 12 := vp_in_nI (by omega) (by omega)
    have e4 : nI p * 4 + nI q = nI (p * 4 + q) := by
      show nI p * nI 4 + nI q = _
      rw [pk_mul, nI_add]
    have eC : nI p * nI C + nI q = nI (p * C + q) := by rw [pk_mul, nI_add]
    rw [eC, e4, nI_clamp (n := p * C + q) (by omega), nI_clamp (n := p * 4 + q) (by omega)]
    exact ew_xc1 r2 c2 hp hq (br_f (by decide) ⟨vx, ew_yc1 r2 c2 hp hq (br_f (by decide) ⟨vy, (hP p hp q hq).symm, ew_mk h⟩)⟩)
theorem i_vc_fillings {k : Nat} {u : SX} {v : SY} (I : i_Rel k u v) (hk : k + 4 ≤ 2050) : wpX_fillings (fun r => wpY_fillings (fun r' => r' = r ∧ i_Rel (k + 4) u v) v) u := by
  obtain ⟨R, C, D, LL, PX, SL, K, st, ln, pn, rfl, rfl, h⟩ := I
  have h' := h
  obtain ⟨⟨r1, r2⟩, ⟨c1, c2⟩, hD, hL, hS, hP, _⟩ := h'
  obtain ⟨hB, hN⟩ := ew_num r2 c2
  obtain ⟨fit, hX, hY⟩ := ew_fitE r1 r2 c1 c2 hL hP (nI D) (nI D) SL K st K hN
  unfold wpX_fillings wpX_numbers wpY_fillings
  dsimp only
  rw [hB]
  refine ew_xct hX (Nat.le_refl _) (fun i hi => nI_leI (by omega) (by omega)) ?_
  exact ⟨2 ^ (R * C) + 1, ew_yct_l hY hN hB ⟨rfl, ew_mk h⟩ (2 ^ (R * C) + 1) 0 (by omega) (Nat.zero_le _)⟩
theorem i_vc_filling {k : Nat} {u : SX} {v : SY} (I : i_Rel k u v) (hk : k + 4 ≤ 2050) (v1 : Int32) : wpX_filling (fun r => wpY_filling (fun r' => r' = r ∧ i_Rel (k + 4) u v) v v1) u v1 := by
  obtain ⟨R, C, D, LL, PX, SL, K, st, ln, pn, rfl, rfl, h⟩ := I
  have h' := h
  obtain ⟨⟨r1, r2⟩, ⟨c1, c2⟩, hD, hL, hS, hP, _⟩ := h'
  obtain ⟨hB, hN⟩ := ew_num r2 c2
  obtain ⟨fit, hX, hY⟩ := ew_fitE r1 r2 c1 c2 hL hP (nI D) (nI D) SL K st K hN
  unfold wpX_filling wpX_numbers wpY_filling
  dsimp only
  rw [hB]
  obtain ⟨res, j1, j2⟩ := ew_fil hX hY hN hB v1 (2 ^ (R * C) + 1) 0 0 (by omega) (Nat.zero_le _)
  by_cases a : 0 ≤ v1
  · exact br_t a ⟨2 ^ (R * C) + 1, j1 _ (br_t a ⟨2 ^ (R * C) + 1, j2 _ ⟨rfl, ew_mk h⟩⟩)⟩
  · exact br_f a (br_f a ⟨rfl, ew_mk h⟩)
theorem i_vc_below {k : Nat} {u : SX} {v : SY} (I : i_Rel k u v) (hk : k + 4 ≤ 2050) (v1 : Int32) : wpX_below (fun r => wpY_below (fun r' => r' = r ∧ i_Rel (k + 4) u v) v v1) u v1 := by
  obtain ⟨R, C, D, LL, PX, SL, K, st, ln, pn, rfl, rfl, h⟩ := I
  have h' := h
  obtain ⟨⟨r1, r2⟩, ⟨c1, c2⟩, hD, hL, hS, hP, _⟩ := h'
  obtain ⟨hB, hN⟩ := ew_num r2 c2
  obtain ⟨fit, hX, hY⟩ := ew_fitE r1 r2 c1 c2 hL hP (nI D) (nI D) SL K st K hN
  unfold wpX_below wpX_numbers wX_below_16 wpY_below
  dsimp only
  rw [hB]
  have hN0 := Nat.two_pow_pos (R * C)
  have yp : ∀ res : Int32, res = nI (ew_cnt fit (min v1.toNatClampNeg (2 ^ (R * C)))) → ∃ n4, wY_below_4 (fun r' => r' = res ∧ i_Rel (k + 4) (nI R, nI C, nI D, LL, PX, SL, K) (nI D, nI R, nI C, st, K, ln, pn)) v1 (nI D) (nI R) (nI C) st K ln pn n4 0 0 := by
    intro res er
    have := ew_ybe_l hY hN hB (x1 := v1) (b := v1.toNatClampNeg) (fun i hi => ew_clle v1 (by omega)) (post := fun r' => r' = res ∧ i_Rel (k + 4) (nI R, nI C, nI D, LL, PX, SL, K) (nI D, nI R, nI C, st, K, ln, pn)) ⟨er.symm, ew_mk h⟩ (2 ^ (R * C) + 1) 0 (by omega) (Nat.zero_le _)
    rw [Nat.min_zero] at this
    exact ⟨_, this⟩
  by_cases a : nI (2 ^ (R * C)) ≤ v1
  · refine br_t a (ew_xct hX (Nat.le_refl _) (fun i hi => nI_leI (by omega) (by omega)) (yp _ ?_))
    have hb : 2 ^ (R * C) ≤ v1.toNatClampNeg := by
      have e : v1.toNatClampNeg = v1.toInt.toNat := rfl
      rw [Int32.le_iff_toInt_le, nI_toInt (by omega)] at a
      omega
    rw [show min v1.toNatClampNeg (2 ^ (R * C)) = 2 ^ (R * C) from Nat.min_eq_right hb]
  · have hb : v1.toNatClampNeg ≤ 2 ^ (R * C) := by
      have e : v1.toNatClampNeg = v1.toInt.toNat := rfl
      rw [Int32.le_iff_toInt_le, nI_toInt (by omega)] at a
      omega
    refine br_f a (ew_xct hX hb (fun i hi => ew_clle v1 (by omega)) (yp _ ?_))
    rw [show min v1.toNatClampNeg (2 ^ (R * C)) = v1.toNatClampNeg from Nat.min_eq_left hb]
theorem i_vc_forced {k : Nat} {u : SX} {v : SY} (I : i_Rel k u v) (hk : k + 4 ≤ 2050) (v1 : Int32) (v2 : Int32) : wpX_forced (fun r => wpY_forced (fun r' => r' = r ∧ i_Rel (k + 4) u v) v v1 v2) u v1 v2 := by
  obtain ⟨R, C, D, LL, PX, SL, K, st, ln, pn, rfl, rfl, h⟩ := I
  have h' := h
  obtain ⟨⟨r1, r2⟩, ⟨c1, c2⟩, hD, hL, hS, hP, _⟩ := h'
  obtain ⟨hB, hN⟩ := ew_num r2 c2
  obtain ⟨fit, hX, hY⟩ := ew_fitE r1 r2 c1 c2 hL hP (nI D) (nI D) SL K st K hN
  unfold wpX_forced wpX_numbers wpY_forced
  dsimp only
  rw [hB]
  rcases ew_cix r2 c2 v1 v2 with a | ⟨p, q, hp, hq, rfl, rfl⟩
  · exact ew_xc0 a (br_t rfl (ew_yc0 a (br_t rfl ⟨rfl, ew_mk h⟩)))
  · obtain ⟨res, j1, j2⟩ := ew_for r2 c2 hN hX hY hB hp hq (2 ^ (R * C) + 1) 0 false false rfl (by omega) (Nat.zero_le _)
    refine ew_xc1 r2 c2 hp hq (br_f (by decide) (nm_r (e' := nI (p * C + q)) (by rw [pk_mul, nI_add]) ⟨2 ^ (R * C) + 1, j1 _ ?_⟩))
    exact ew_yc1 r2 c2 hp hq (br_f (by decide) ⟨2 ^ (R * C) + 1, j2 _ ⟨rfl, ew_mk h⟩⟩)
theorem i_vc_lineWords {k : Nat} {u : SX} {v : SY} (I : i_Rel k u v) (hk : k + 4 ≤ 2050) (v1 : Int32) : wpX_lineWords (fun r => wpY_lineWords (fun r' => r' = r ∧ i_Rel (k + 4) u v) v v1) u v1 := by
  obtain ⟨R, C, D, LL, PX, SL, K, st, ln, pn, rfl, rfl, h⟩ := I
  have h' := h
  obtain ⟨⟨r1, r2⟩, ⟨c1, c2⟩, hD, hL, hS, hP, _⟩ := h'
  unfold wpX_lineWords wpY_lineWords
  dsimp only
  rcases ew_lix r2 c2 v1 with a | ⟨j, hj, rfl⟩
  · exact ew_xh0 a (br_t rfl (ew_yh0 a (br_t rfl ⟨rfl, ew_mk h⟩)))
  · have hb := (ew_len_in r1 r2 c1 c2 j).2
    have hf : ∀ w, (@decide (ew_wf R C LL PX j w) (Classical.propDecidable _)) = true ↔ ew_wf R C LL PX j w := fun w => @decide_eq_true_iff _ (Classical.propDecidable _)
    refine ew_xh1 r2 c2 hj (br_f (by decide) (ew_xll r2 (by omega) (nm_r (ew_one (by omega)) ⟨2 ^ ew_len R C j + 1, ?_⟩)))
    refine ew_xlws_l (fit := fun w => @decide (ew_wf R C LL PX j w) (Classical.propDecidable _)) r2 c2 hj hf ?_ (2 ^ ew_len R C j + 1) 0 (by omega) (Nat.zero_le _)
    refine ew_yh1 r2 c2 hj (br_f (by decide) (ew_yll r2 (by omega) ⟨2 ^ ew_len R C j + 1, ?_⟩))
    refine ew_ylws_l (fit := fun w => @decide (ew_wf R C LL PX j w) (Classical.propDecidable _)) r2 c2 hj (fun w hw => ?_) ⟨rfl, ew_mk h⟩ (2 ^ ew_len R C j + 1) 0 (by omega) (Nat.zero_le _)
    rw [hf w]
    unfold ew_wf
    rw [ew_kxy hP hj, ew_lb r1 r2 c1 c2 hL hj hw]
    exact And.comm
end
