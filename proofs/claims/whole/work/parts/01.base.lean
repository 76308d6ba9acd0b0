/-! pasted from kit/rows: pk_ and the bt family -/
theorem pk_us {f : Nat → Int32} {k : Nat} {x : Int32} : upd f k x k = x := if_pos rfl
theorem pk_un {f : Nat → Int32} {k j : Nat} {x : Int32} (h : j ≠ k) : upd f k x j = f j := if_neg h
theorem pk_sub {a b : Nat} (h : b ≤ a) : nI a - nI b = nI (a - b) := by
  obtain ⟨c, rfl⟩ : ∃ c, a = c + b := ⟨a - b, by omega⟩
  rw [← nI_add, Int32.add_sub_cancel, Nat.add_sub_cancel]
theorem pk_m1 (n : Nat) : nI (n + 1) + (-1) = nI n := by
  rw [← nI_1, Int32.add_assoc, show (1 : Int32) + (-1) = 0 from rfl, Int32.add_zero]
theorem pk_mul (a b : Nat) : nI a * nI b = nI (a * b) := (Int32.ofNat_mul a b).symm
theorem pk_div {a d : Nat} (ha : a < 2 ^ 31) (h0 : 0 < d) (hd : d < 2 ^ 31) : nI a / nI d = nI (a / d) := by
  apply Int32.toInt_inj.mp
  rw [lg_idiv_nonneg (by rw [nI_toInt ha]; omega) (by rw [nI_toInt hd]; omega), nI_toInt ha, nI_toInt hd, nI_toInt (Nat.lt_of_le_of_lt (Nat.div_le_self a d) ha)]
  first | rfl | exact (Int.natCast_ediv _ _).symm
theorem pk_rem {a d : Nat} (ha : a < 2 ^ 31) (h0 : 0 < d) (hd : d < 2 ^ 31) : nI a - nI a / nI d * nI d = nI (a % d) := by
  rw [pk_div ha h0 hd, pk_mul, pk_sub (Nat.div_mul_le_self a d)]
  exact congrArg nI (by have := Nat.div_add_mod' a d; omega)
theorem pk_sub_toInt {a b : Nat} (ha : a < 2 ^ 30) (hb : b < 2 ^ 30) : (nI a - nI b).toInt = (a : Int) - b := by
  rw [Int32.toInt_sub, nI_toInt (by omega), nI_toInt (by omega)]
  exact Int.bmod_eq_of_le (by omega) (by omega)
theorem pk_sneg {a b : Nat} (hb : b < 2 ^ 30) (h : a < b) : nI a - nI b < 0 := by
  rw [Int32.lt_iff_toInt_lt, pk_sub_toInt (by omega) hb, show (0 : Int32).toInt = 0 from by decide]
  omega
theorem pk_ix (x : Int32) {n : Nat} (hn : n < 2 ^ 31) : x < 0 ∨ nI n ≤ x ∨ ∃ j : Nat, j < n ∧ x = nI j := by
  by_cases h : x < 0
  · exact Or.inl h
  · obtain ⟨j, hj, rfl⟩ := nI_of h
    by_cases h2 : j < n
    · exact Or.inr (Or.inr ⟨j, h2, rfl⟩)
    · exact Or.inr (Or.inl (nI_le (by omega) hj))
theorem pk_le {x y : Int32} {A B : Prop} (a b : Nat) (f : a ≤ b → A) (g : b < a → B) (hx : x = nI a := by rfl) (hy : y = nI b := by rfl) (ha : a < 2 ^ 31 := by omega) (hb : b < 2 ^ 31 := by omega) : (x ≤ y → A) ∧ (¬ x ≤ y → B) := by
  subst hx hy
  rw [nI_leI ha hb]
  exact ⟨f, fun z => g (by omega)⟩
theorem pk_lt {x y : Int32} {A B : Prop} (a b : Nat) (f : a < b → A) (g : b ≤ a → B) (hx : x = nI a := by rfl) (hy : y = nI b := by rfl) (ha : a < 2 ^ 31 := by omega) (hb : b < 2 ^ 31 := by omega) : (x < y → A) ∧ (¬ x < y → B) := by
  subst hx hy
  rw [nI_ltI ha hb]
  exact ⟨f, fun z => g (by omega)⟩
theorem pk_eq {x y : Int32} {A B : Prop} (a b : Nat) (f : a = b → A) (g : a ≠ b → B) (hx : x = nI a := by rfl) (hy : y = nI b := by rfl) (ha : a < 2 ^ 31 := by omega) (hb : b < 2 ^ 31 := by omega) : (x = y → A) ∧ (¬ x = y → B) := by
  subst hx hy
  rw [nI_eq ha hb]
  exact ⟨f, g⟩
theorem pk_in {x : Int32} (n N : Nat) (h : n < N) (hx : x = nI n := by rfl) (hN : N < 2 ^ 31 := by omega) : vp_in x N := by
  subst hx
  exact vp_in_nI h hN
theorem pk_cl {x : Int32} (n : Nat) (hx : x = nI n := by rfl) (h : n < 2 ^ 31 := by omega) : x.toNatClampNeg = n := by
  subst hx
  exact nI_clamp h
theorem pk_tn {n : Nat} (h : n < 2 ^ 32) : (nI n).toBitVec.toNat = n := Nat.mod_eq_of_lt h
theorem pk_and (x : Int32) {m : Int32} (k : Nat) (hm : m.toBitVec.toNat = 2 ^ k - 1) : x &&& m = nI (x.toBitVec.toNat % 2 ^ k) := by
  apply Int32.toBitVec_inj.mp
  apply BitVec.eq_of_toNat_eq
  rw [Int32.toBitVec_and, BitVec.toNat_and, hm, Nat.and_two_pow_sub_one_eq_mod]
  show _ = (BitVec.ofNat 32 _).toNat
  rw [BitVec.toNat_ofNat]
  exact (Nat.mod_eq_of_lt (Nat.lt_of_le_of_lt (Nat.mod_le _ _) x.toBitVec.isLt)).symm
theorem pk_andN {n : Nat} (h : n < 2 ^ 32) {m : Int32} (k : Nat) (hm : m.toBitVec.toNat = 2 ^ k - 1) : nI n &&& m = nI (n % 2 ^ k) := by
  rw [pk_and _ k hm, pk_tn h]
theorem pk_andE (x : Int32) {m : Int32} (k : Nat) (hm : m.toBitVec.toNat = 2 ^ k - 1) : ∃ j : Nat, j < 2 ^ k ∧ x &&& m = nI j := ⟨_, Nat.mod_lt _ (Nat.two_pow_pos k), pk_and x k hm⟩
theorem pk_andIn (x : Int32) {m : Int32} (k : Nat) (hm : m.toBitVec.toNat = 2 ^ k - 1) (hk : k ≤ 30) : vp_in (x &&& m) (2 ^ k) := by
  obtain ⟨j, hj, e⟩ := pk_andE x k hm
  rw [e]
  exact vp_in_nI hj (Nat.lt_of_le_of_lt (Nat.pow_le_pow_right (by decide) hk) (by decide))
theorem pk_shl (a s : Int32) (k : Nat) (hs : (s.toBitVec.smod 32).toNat = k) : (a <<< s).toBitVec.toNat = a.toBitVec.toNat * 2 ^ k % 2 ^ 32 := by
  show (a.toBitVec <<< (s.toBitVec.smod 32).toNat).toNat = _
  rw [hs, BitVec.toNat_shiftLeft, Nat.shiftLeft_eq]
theorem pk_shlN {n : Nat} (s : Int32) (k : Nat) (hs : (s.toBitVec.smod 32).toNat = k) (h : n * 2 ^ k < 2 ^ 32) : nI n <<< s = nI (n * 2 ^ k) := by
  apply Int32.toBitVec_inj.mp
  apply BitVec.eq_of_toNat_eq
  have hn : n < 2 ^ 32 := Nat.lt_of_le_of_lt (Nat.le_mul_of_pos_right n (Nat.two_pow_pos k)) h
  rw [pk_shl _ _ k hs, pk_tn hn, pk_tn h, Nat.mod_eq_of_lt h]
theorem pk_shr (a s : Int32) (k : Nat) (hs : (s.toBitVec.smod 32).toNat = k) : (a >>> s).toInt = a.toInt >>> k := by
  show (a.toBitVec.sshiftRight (s.toBitVec.smod 32).toNat).toInt = _
  rw [hs, BitVec.toInt_sshiftRight]
  rfl
theorem pk_shrN {n : Nat} (h : n < 2 ^ 31) (s : Int32) (k : Nat) (hs : (s.toBitVec.smod 32).toNat = k) : nI n >>> s = nI (n / 2 ^ k) := by
  apply Int32.toInt_inj.mp
  have h2 : n / 2 ^ k ≤ n := Nat.div_le_self _ _
  rw [pk_shr _ _ k hs, nI_toInt h, nI_toInt (by omega), Int.shiftRight_eq_div_pow]
  rfl
def bt (x : Int32) (i : Nat) : Bool := x.toBitVec.getLsbD i
theorem b_ext {x y : Int32} (h : ∀ i, i < 32 → bt x i = bt y i) : x = y := Int32.toBitVec_inj.mp (BitVec.eq_of_getLsbD_eq (fun i hi => h i hi))
theorem b_or (x y : Int32) (i : Nat) : bt (x ||| y) i = (bt x i || bt y i) := by unfold bt; rw [Int32.toBitVec_or, BitVec.getLsbD_or]
theorem b_and (x y : Int32) (i : Nat) : bt (x &&& y) i = (bt x i && bt y i) := by unfold bt; rw [Int32.toBitVec_and, BitVec.getLsbD_and]
theorem b_xor (x y : Int32) (i : Nat) : bt (x ^^^ y) i = (bt x i ^^ bt y i) := by unfold bt; rw [Int32.toBitVec_xor, BitVec.getLsbD_xor]
theorem b_big {x : Int32} {i : Nat} (h : 32 ≤ i) : bt x i = false := BitVec.getLsbD_of_ge _ _ h
theorem b_255 (i : Nat) : bt 255 i = decide (i < 8) := by
  rcases Nat.lt_or_ge i 32 with h | h
  · exact (by decide +kernel : ∀ i, i < 32 → bt 255 i = decide (i < 8)) i h
  · rw [b_big h, decide_eq_false (by omega)]
theorem b_65535 (i : Nat) : bt 65535 i = decide (i < 16) := by
  rcases Nat.lt_or_ge i 32 with h | h
  · exact (by decide +kernel : ∀ i, i < 32 → bt 65535 i = decide (i < 16)) i h
  · rw [b_big h, decide_eq_false (by omega)]
theorem b_m1 : ∀ i, i < 32 → bt (-1) i = true := by decide +kernel
theorem b_0 (i : Nat) : bt 0 i = false := BitVec.getLsbD_zero
theorem s_l : ∀ n, n < 32 → ((nI n &&& 31).toBitVec.smod 32).toNat = n := by decide +kernel
theorem s_u : ∀ n, n < 32 → (((nI n).toUInt32 &&& Int32.toUInt32 31).toBitVec % 32).toNat = n := by decide +kernel
theorem b_shl (n : Nat) (hn : n < 32) (x : Int32) {i : Nat} (hi : i < 32) : bt (x <<< (nI n &&& 31)) i = (decide (n ≤ i) && bt x (i - n)) := by
  unfold bt
  rw [Int32.toBitVec_shiftLeft]
  show (x.toBitVec <<< ((nI n &&& 31).toBitVec.smod 32).toNat).getLsbD i = _
  rw [s_l n hn, BitVec.getLsbD_shiftLeft]
  rcases Nat.lt_or_ge i n with h | h
  · simp [h, Nat.not_le.mpr h]
  · simp [hi, h, Nat.not_lt.mpr h]
theorem b_ushr (n : Nat) (hn : n < 32) (x : Int32) (i : Nat) : bt ((x.toUInt32 >>> ((nI n).toUInt32 &&& Int32.toUInt32 31)).toInt32) i = bt x (n + i) := by
  show (x.toUInt32 >>> ((nI n).toUInt32 &&& Int32.toUInt32 31)).toBitVec.getLsbD i = x.toUInt32.toBitVec.getLsbD (n + i)
  rw [UInt32.toBitVec_shiftRight]
  show (x.toUInt32.toBitVec >>> (((nI n).toUInt32 &&& Int32.toUInt32 31).toBitVec % 32).toNat).getLsbD i = _
  rw [s_u n hn, BitVec.getLsbD_ushiftRight]
theorem b_sshr (n : Nat) (hn : n < 32) (x : Int32) {i : Nat} (hi : i < 32) : bt (x >>> (nI n &&& 31)) i = if n + i < 32 then bt x (n + i) else bt x 31 := by
  unfold bt
  rw [Int32.toBitVec_shiftRight]
  show (x.toBitVec.sshiftRight ((nI n &&& 31).toBitVec.smod 32).toNat).getLsbD i = _
  rw [s_l n hn, BitVec.getLsbD_sshiftRight, BitVec.msb_eq_getLsbD_last]
  simp [hi]
/-! own rows: numbers and bits -/
theorem ew_p2 {k : Nat} (hk : k < 32) : 2 ^ k < 2 ^ 32 := Nat.pow_lt_pow_right (by decide) hk
theorem ew_p31 {k : Nat} (hk : k < 31) : 2 ^ k < 2 ^ 31 := Nat.pow_lt_pow_right (by decide) hk
theorem ew_shl {n k : Nat} (hk : k < 32) (h : n * 2 ^ k < 2 ^ 32) : nI n <<< (nI k &&& 31) = nI (n * 2 ^ k) := pk_shlN _ k (s_l k hk) h
theorem ew_one {k : Nat} (hk : k < 32) : (1 : Int32) <<< (nI k &&& 31) = nI (2 ^ k) := by
  have h := ew_shl (n := 1) hk (by rw [Nat.one_mul]; exact ew_p2 hk)
  rw [Nat.one_mul] at h
  exact h
theorem ew_shr {n k : Nat} (hn : n < 2 ^ 31) (hk : k < 32) : nI n >>> (nI k &&& 31) = nI (n / 2 ^ k) := pk_shrN hn _ k (s_l k hk)
theorem ew_and1 {n : Nat} (h : n < 2 ^ 32) : nI n &&& 1 = nI (n % 2) := pk_andN h 1 (by decide)
theorem ew_mask {n k : Nat} (h : n < 2 ^ 32) (hk : k < 32) : nI n &&& (nI (2 ^ k) - 1) = nI (n % 2 ^ k) := by
  have e : nI (2 ^ k) - 1 = nI (2 ^ k - 1) := pk_sub (b := 1) (Nat.two_pow_pos k)
  have := ew_p2 hk
  rw [e, pk_andN h k (pk_tn (by omega))]
theorem ew_b1 (y : Int32) : (y &&& 1) = 1 ↔ bt y 0 = true := by
  have e : y &&& 1 = nI (y.toBitVec.toNat % 2) := pk_and y 1 (by decide)
  rw [e]
  show nI _ = nI 1 ↔ _
  rw [nI_eq (by omega) (by omega)]
  simp [bt, BitVec.getLsbD, Nat.testBit_zero]
theorem ew_bit {k : Nat} (hk : k < 32) {i : Nat} (hi : i < 32) : bt ((1 : Int32) <<< (nI k &&& 31)) i = decide (k = i) := by
  rw [b_shl k hk 1 hi]
  have h1 : ∀ j, j < 32 → bt 1 j = decide (j = 0) := by decide +kernel
  rw [h1 (i - k) (by omega)]
  by_cases h : k = i
  · subst h; simp
  · by_cases h2 : k ≤ i
    · simp [h, h2]; omega
    · simp [h, h2]
theorem ew_ub (x : Int32) {c : Nat} (hc : c < 32) : (((x.toUInt32 >>> ((nI c).toUInt32 &&& Int32.toUInt32 31)).toInt32) &&& 1) = 1 ↔ bt x c = true := by
  rw [ew_b1, b_ushr c hc]
  rfl
theorem ew_sb (x : Int32) {c : Nat} (hc : c < 32) : ((x >>> (nI c &&& 31)) &&& 1) = 1 ↔ bt x c = true := by
  rw [ew_b1, b_sshr c hc x (by omega), if_pos (by omega)]
  rfl
theorem ew_exS {Q : Nat → Prop} {i : Nat} (hi : 1 ≤ i) : (∃ h, 1 ≤ h ∧ h < i + 1 ∧ Q h) ↔ ((∃ h, 1 ≤ h ∧ h < i ∧ Q h) ∨ Q i) := by
  constructor
  · intro ⟨h, h1, h2, q⟩
    by_cases e : h = i
    · subst e; exact Or.inr q
    · exact Or.inl ⟨h, h1, by omega, q⟩
  · intro z
    rcases z with ⟨h, h1, h2, q⟩ | q
    · exact ⟨h, h1, by omega, q⟩
    · exact ⟨i, hi, by omega, q⟩
theorem ew_bf {x : Bool} (h : ¬ x = true) : x = false := by cases x <;> first | rfl | exact absurd rfl h
/-! splits of a word, by codes: s letters behind -/
def ew_G (m : Nat) (a b : Nat → Bool) (w : Nat) : Bool := [0, 1, 2, 3, 4].any (fun s => decide (m * 2 ^ s ≤ w) && (a (w / 2 ^ s) && b (2 ^ s + w % 2 ^ s)))
theorem ew_G_iff (m : Nat) (a b : Nat → Bool) (w : Nat) : ew_G m a b w = true ↔ ∃ s, s ≤ 4 ∧ m * 2 ^ s ≤ w ∧ a (w / 2 ^ s) = true ∧ b (2 ^ s + w % 2 ^ s) = true := by
  unfold ew_G
  rw [List.any_eq_true]
  constructor
  · intro ⟨s, hs, h⟩
    rw [Bool.and_eq_true, Bool.and_eq_true, decide_eq_true_eq] at h
    refine ⟨s, ?_, h⟩
    simp at hs
    omega
  · intro ⟨s, hs, h⟩
    refine ⟨s, ?_, ?_⟩
    · simp; omega
    · rw [Bool.and_eq_true, Bool.and_eq_true, decide_eq_true_eq]
      exact h
theorem ew_G_congr {m w : Nat} {a b a' b' : Nat → Bool} (ha : ∀ s, s ≤ 4 → m * 2 ^ s ≤ w → a (w / 2 ^ s) = a' (w / 2 ^ s)) (hb : ∀ s, s ≤ 4 → m * 2 ^ s ≤ w → b (2 ^ s + w % 2 ^ s) = b' (2 ^ s + w % 2 ^ s)) : ew_G m a b w = ew_G m a' b' w := by
  rw [Bool.eq_iff_iff, ew_G_iff, ew_G_iff]
  constructor
  · intro ⟨s, h1, h2, h3, h4⟩
    exact ⟨s, h1, h2, (ha s h1 h2) ▸ h3, (hb s h1 h2) ▸ h4⟩
  · intro ⟨s, h1, h2, h3, h4⟩
    exact ⟨s, h1, h2, (ha s h1 h2).symm ▸ h3, (hb s h1 h2).symm ▸ h4⟩
/-- the length of a code's word -/
def ew_cl (c : Nat) : Nat := if 16 ≤ c then 4 else if 8 ≤ c then 3 else if 4 ≤ c then 2 else if 2 ≤ c then 1 else 0
theorem ew_cl_in : ∀ c, c < 32 → 1 ≤ c → 2 ^ ew_cl c ≤ c ∧ c < 2 ^ (ew_cl c + 1) ∧ ew_cl c ≤ 4 := by decide +kernel
theorem ew_s4 {P : Nat → Prop} (h0 : P 0) (h1 : P 1) (h2 : P 2) (h3 : P 3) (h4 : P 4) {s : Nat} (hs : s ≤ 4) : P s := by
  have : s = 0 ∨ s = 1 ∨ s = 2 ∨ s = 3 ∨ s = 4 := by omega
  rcases this with rfl | rfl | rfl | rfl | rfl <;> assumption
theorem ew_cl_of {c s : Nat} (hs : s ≤ 4) (h1 : 2 ^ s ≤ c) (h2 : c < 2 ^ (s + 1)) : ew_cl c = s := by
  revert h1 h2
  refine ew_s4 (P := fun s => 2 ^ s ≤ c → c < 2 ^ (s + 1) → ew_cl c = s) ?_ ?_ ?_ ?_ ?_ hs <;> intro h1 h2 <;> simp at h1 h2 <;> unfold ew_cl <;> repeat (first | rw [if_pos (by omega)] | rw [if_neg (by omega)])
/-- X's join, by its two loops, is the split -/
theorem ew_join_iff (a b : Nat → Bool) {w : Nat} (hw : w < 32) : (∃ c, 1 ≤ c ∧ c < 32 ∧ b c = true ∧ ∃ h, 1 ≤ h ∧ h < 32 ∧ h * 2 ^ ew_cl c + (c - 2 ^ ew_cl c) = w ∧ a h = true) ↔ ew_G 1 a b w = true := by
  rw [ew_G_iff]
  constructor
  · intro ⟨c, c1, c2, hb, h, h1, h2, e, ha⟩
    obtain ⟨l1, l2, l3⟩ := ew_cl_in c c2 c1
    generalize ew_cl c = s at e l1 l2 l3
    rw [Nat.pow_succ] at l2
    have hp := Nat.two_pow_pos s
    have hd : w / 2 ^ s = h := by
      rw [← e, Nat.mul_comm h, Nat.mul_add_div hp, Nat.div_eq_of_lt (by omega)]; rfl
    have hm : w % 2 ^ s = c - 2 ^ s := by
      rw [← e, Nat.mul_comm h, Nat.mul_add_mod, Nat.mod_eq_of_lt (by omega)]
    have hg : 1 * 2 ^ s ≤ h * 2 ^ s := Nat.mul_le_mul_right _ h1
    refine ⟨s, l3, by omega, by rw [hd]; exact ha, ?_⟩
    rw [hm, show 2 ^ s + (c - 2 ^ s) = c by omega]
    exact hb
  · intro ⟨s, hs, h1, ha, hb⟩
    have hp := Nat.two_pow_pos s
    have hm := Nat.mod_lt w hp
    have hd := Nat.div_add_mod w (2 ^ s)
    have hc : ew_cl (2 ^ s + w % 2 ^ s) = s := ew_cl_of hs (by omega) (by rw [Nat.pow_succ]; omega)
    have hq : 1 ≤ w / 2 ^ s := (Nat.le_div_iff_mul_le hp).mpr h1
    have h16 : 2 ^ s ≤ 2 ^ 4 := Nat.pow_le_pow_right (by decide) hs
    have hlt : 2 ^ s + w % 2 ^ s < 32 := by omega
    refine ⟨2 ^ s + w % 2 ^ s, by omega, hlt, hb, w / 2 ^ s, hq, Nat.lt_of_le_of_lt (Nat.div_le_self _ _) hw, ?_, ha⟩
    rw [hc, Nat.add_sub_cancel_left, Nat.mul_comm]
    exact hd
