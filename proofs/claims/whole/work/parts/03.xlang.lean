/-! X's languages: hasWord, codeLength, appendWord, joinLanguages, repeatLanguage, reverseLanguage -/
theorem ew_hw {post : Int32 → Prop} (x : Int32) {c : Nat} (hc : c < 32) (h1 : bt x c = true → post 1) (h0 : bt x c = false → post 0) : wpX_hasWord post x (nI c) := by
  unfold wpX_hasWord
  rw [ew_ub x hc]
  exact ⟨h1, fun z => h0 (ew_bf z)⟩
def ew_lv (c : Nat) : Nat → Nat
  | 0 => 0
  | i + 1 => if c / 2 ^ i = 0 then ew_lv c i else i
theorem ew_lv_cl : ∀ c, c < 32 → ew_lv c 5 = ew_cl c := by decide +kernel
theorem ew_cdl {post : Int32 → Prop} {c : Nat} (hc : c < 32) (h : post (nI (ew_lv c 5))) : ∀ n i, i + n = 6 → 1 ≤ i → i ≤ 5 → wX_codeLength_4 post (nI c) n (nI (ew_lv c i)) (nI i) := by
  intro n
  induction n with
  | zero => intro i h1 h2 h3; omega
  | succ n ih =>
    intro i h1 h2 h3
    refine pk_lt 4 i (fun z => ?_) (fun z => ?_)
    · have e : i = 5 := by omega
      subst e
      exact h
    · rw [ew_shr (by omega) (by omega)]
      have hd : c / 2 ^ i ≤ c := Nat.div_le_self _ _
      refine pk_le (c / 2 ^ i) 0 (fun y => nm_r (nI_1 i) ?_) (fun y => nm_r (nI_1 i) ?_)
      · have := ih (i + 1) (by omega) (by omega) (by omega)
        rw [show ew_lv c (i + 1) = ew_lv c i from if_pos (Nat.le_zero.mp y)] at this
        exact this
      · have := ih (i + 1) (by omega) (by omega) (by omega)
        rw [show ew_lv c (i + 1) = i from if_neg (Nat.pos_iff_ne_zero.mp y)] at this
        exact this
theorem ew_codeLength {post : Int32 → Prop} {c : Nat} (hc : c < 32) (h : post (nI (ew_cl c))) : wpX_codeLength post (nI c) := by
  rw [← ew_lv_cl c hc] at h
  have := ew_cdl hc h 5 1 rfl (by omega) (by omega)
  rw [show ew_lv c 1 = 0 by unfold ew_lv; split <;> rfl] at this
  exact ⟨5, this⟩
theorem ew_app_l (x : Int32) {len tail : Nat} (hl : len ≤ 4) (ht : tail < 2 ^ len) {post : Int32 → Prop} (hp : ∀ r, (∀ w, w < 32 → (bt r w = true ↔ ∃ h, 1 ≤ h ∧ h < 32 ∧ (h * 2 ^ len + tail = w ∧ bt x h = true))) → post r) : ∀ n i acc, i + n = 33 → 1 ≤ i → i ≤ 32 → (∀ w, w < 32 → (bt acc w = true ↔ ∃ h, 1 ≤ h ∧ h < i ∧ (h * 2 ^ len + tail = w ∧ bt x h = true))) → wX_appendWord_17 post x (nI len) (nI tail) n acc (nI i) := by
  have h16 : 2 ^ len ≤ 2 ^ 4 := Nat.pow_le_pow_right (by decide) hl
  intro n
  induction n with
  | zero => intro i acc h1 h2 h3; omega
  | succ n ih =>
    intro i acc h1 h2 h3 hI
    refine pk_le 32 i (fun z => ?_) (fun z => ?_)
    · have e : i = 32 := by omega
      subst e
      exact hp acc hI
    · have hb : i * 2 ^ len ≤ 32 * 2 ^ 4 := Nat.mul_le_mul (by omega) h16
      refine nm_r (e' := nI (i * 2 ^ len + tail)) (by rw [ew_shl (by omega) (by omega), nI_add]) ?_
      refine pk_le 32 (i * 2 ^ len + tail) (fun y => nm_r (nI_1 i) ?_) (fun y => ?_)
      · refine ih (i + 1) acc (by omega) (by omega) (by omega) (fun w hw => ?_)
        rw [ew_exS h2, hI w hw]
        exact ⟨Or.inl, fun q => q.elim id (fun q => by omega)⟩
      · refine ew_hw x (by omega) (fun b => ?_) (fun b => ?_)
        · refine br_f (by decide) (nm_e (nm_r (nI_1 i) ?_))
          refine ih (i + 1) _ (by omega) (by omega) (by omega) (fun w hw => ?_)
          rw [ew_exS h2, b_or, Bool.or_eq_true, hI w hw, ew_bit (by omega) hw, decide_eq_true_eq]
          exact ⟨fun q => q.imp id (fun q => ⟨q, b⟩), fun q => q.imp id (fun q => q.1)⟩
        · refine br_t rfl (nm_r (nI_1 i) ?_)
          refine ih (i + 1) acc (by omega) (by omega) (by omega) (fun w hw => ?_)
          rw [ew_exS h2, hI w hw]
          exact ⟨Or.inl, fun q => q.elim id (fun q => by rw [b] at q; exact absurd q.2 (by decide))⟩
theorem ew_app (x : Int32) {c : Nat} (h1 : 1 ≤ c) (hc : c < 32) {post : Int32 → Prop} (hp : ∀ r, (∀ w, w < 32 → (bt r w = true ↔ ∃ h, 1 ≤ h ∧ h < 32 ∧ (h * 2 ^ ew_cl c + (c - 2 ^ ew_cl c) = w ∧ bt x h = true))) → post r) : wpX_appendWord post x (nI c) := by
  obtain ⟨l1, l2, l3⟩ := ew_cl_in c hc h1
  rw [Nat.pow_succ] at l2
  unfold wpX_appendWord
  refine ew_codeLength hc ?_
  refine nm_r (e' := nI (c - 2 ^ ew_cl c)) (by rw [ew_one (by omega), pk_sub l1]) ?_
  refine ⟨32, ew_app_l x l3 (by omega) hp 32 1 0 rfl (by omega) (by omega) (fun w hw => ?_)⟩
  rw [b_0]
  exact ⟨fun z => absurd z (by decide), fun ⟨h, a, b, _⟩ => by omega⟩
theorem ew_join_l (a b : Int32) {post : Int32 → Prop} (hp : ∀ r, (∀ w, w < 32 → bt r w = ew_G 1 (bt a) (bt b) w) → post r) : ∀ n i acc, i + n = 33 → 1 ≤ i → i ≤ 32 → (∀ w, w < 32 → (bt acc w = true ↔ ∃ c, 1 ≤ c ∧ c < i ∧ (bt b c = true ∧ ∃ h, 1 ≤ h ∧ h < 32 ∧ (h * 2 ^ ew_cl c + (c - 2 ^ ew_cl c) = w ∧ bt a h = true)))) → wX_joinLanguages_4 post a b n acc (nI i) := by
  intro n
  induction n with
  | zero => intro i acc h1 h2 h3; omega
  | succ n ih =>
    intro i acc h1 h2 h3 hI
    refine pk_le 32 i (fun z => ?_) (fun z => ?_)
    · have e : i = 32 := by omega
      subst e
      refine hp acc (fun w hw => ?_)
      rw [Bool.eq_iff_iff, hI w hw, ew_join_iff _ _ hw]
    · refine ew_hw b (by omega) (fun q => ?_) (fun q => ?_)
      · refine br_f (by decide) ?_
        refine ew_app a h2 (by omega) (fun r hr => nm_e (nm_r (nI_1 i) ?_))
        refine ih (i + 1) _ (by omega) (by omega) (by omega) (fun w hw => ?_)
        rw [ew_exS h2, b_or, Bool.or_eq_true, hI w hw, hr w hw]
        exact ⟨fun y => y.imp id (fun y => ⟨q, y⟩), fun y => y.imp id (fun y => y.2)⟩
      · refine br_t rfl (nm_r (nI_1 i) ?_)
        refine ih (i + 1) acc (by omega) (by omega) (by omega) (fun w hw => ?_)
        rw [ew_exS h2, hI w hw]
        exact ⟨Or.inl, fun y => y.elim id (fun y => by rw [q] at y; exact absurd y.1 (by decide))⟩
theorem ew_join (a b : Int32) {post : Int32 → Prop} (hp : ∀ r, (∀ w, w < 32 → bt r w = ew_G 1 (bt a) (bt b) w) → post r) : wpX_joinLanguages post a b := by
  refine ⟨32, ew_join_l a b hp 32 1 0 rfl (by omega) (by omega) (fun w hw => ?_)⟩
  rw [b_0]
  exact ⟨fun z => absurd z (by decide), fun ⟨h, a, b, _⟩ => by omega⟩
theorem ew_rep_l (x : Int32) {post : Int32 → Prop} (hp : ∀ r, (∀ w, 1 ≤ w → w < 32 → bt r w = ew_st (bt x) 4 w) → post r) : ∀ n i acc, i + n = 5 → i ≤ 4 → (∀ w, 1 ≤ w → w < 32 → bt acc w = ew_st (bt x) i w) → wX_repeatLanguage_4 post x n acc (nI i) := by
  intro n
  induction n with
  | zero => intro i acc h1 h2; omega
  | succ n ih =>
    intro i acc h1 h2 hI
    refine pk_le 4 i (fun z => ?_) (fun z => ?_)
    · have e : i = 4 := by omega
      subst e
      exact hp acc hI
    · refine ew_join acc x (fun r hr => nm_e (nm_r (nI_1 i) ?_))
      refine ih (i + 1) _ (by omega) (by omega) (fun w w1 w2 => ?_)
      rw [b_or, hI w w1 w2, hr w w2, ew_tS]
      refine congrArg _ (ew_G_congr (fun s s1 s2 => ?_) (fun _ _ _ => rfl))
      refine hI _ ?_ (Nat.lt_of_le_of_lt (Nat.div_le_self _ _) w2)
      exact (Nat.le_div_iff_mul_le (Nat.two_pow_pos s)).mpr s2
theorem ew_rep (x : Int32) {post : Int32 → Prop} (hp : ∀ r, (∀ w, 1 ≤ w → w < 32 → bt r w = ew_st (bt x) 4 w) → post r) : wpX_repeatLanguage post x := by
  refine ⟨5, ew_rep_l x hp 5 0 2 rfl (by omega) (fun w _ h2 => ?_)⟩
  exact (by decide +kernel : ∀ w, w < 32 → bt 2 w = decide (w = 1)) w h2
/-- the letters of c from its last, n of them, put behind st -/
def ew_rr (st c : Nat) : Nat → Nat
  | 0 => st
  | n + 1 => ew_rr st c n * 2 + c / 2 ^ n % 2
def ew_rv (c : Nat) : Nat := ew_rr 1 c (ew_cl c)
theorem ew_rv_in : ∀ c, c < 32 → 1 ≤ c → ew_rv c < 32 ∧ 1 ≤ ew_rv c ∧ ew_rv (ew_rv c) = c := by decide +kernel
theorem ew_rr_b : ∀ c, c < 32 → ∀ n, n ≤ 4 → ew_rr 1 c n < 32 ∧ ew_rr 0 c n < 32 := by decide +kernel
theorem ew_rvc_l {c len : Nat} (hc : c < 32) (hl : len ≤ 4) {post : Int32 → Prop} (hp : post (nI (ew_rr 1 c len))) : ∀ n i, i + n = len + 1 → i ≤ len → wX_reverseCode_9 post (nI c) (nI len) n (nI (ew_rr 1 c i)) (nI i) := by
  intro n
  induction n with
  | zero => intro i h1 h2; omega
  | succ n ih =>
    intro i h1 h2
    refine pk_le len i (fun z => ?_) (fun z => ?_)
    · have e : i = len := by omega
      subst e
      exact hp
    · have hd : c / 2 ^ i ≤ c := Nat.div_le_self _ _
      refine nm_r (e' := nI (ew_rr 1 c (i + 1))) ?_ (nm_r (nI_1 i) (ih (i + 1) (by omega) (by omega)))
      rw [ew_shr (by omega) (by omega), ew_and1 (by omega)]
      show nI _ * nI 2 + _ = _
      rw [pk_mul, nI_add]
      rfl
theorem ew_rvc {c : Nat} (h1 : 1 ≤ c) (hc : c < 32) {post : Int32 → Prop} (hp : post (nI (ew_rv c))) : wpX_reverseCode post (nI c) := by
  unfold wpX_reverseCode
  obtain ⟨l1, l2, l3⟩ := ew_cl_in c hc h1
  refine ew_codeLength hc ⟨ew_cl c + 1, ?_⟩
  exact ew_rvc_l hc l3 hp (ew_cl c + 1) 0 (by omega) (by omega)
theorem ew_rev_l (x : Int32) {post : Int32 → Prop} (hp : ∀ r, (∀ w, 1 ≤ w → w < 32 → bt r w = bt x (ew_rv w)) → post r) : ∀ n i acc, i + n = 33 → 1 ≤ i → i ≤ 32 → (∀ w, w < 32 → (bt acc w = true ↔ ∃ c, 1 ≤ c ∧ c < i ∧ (bt x c = true ∧ ew_rv c = w))) → wX_reverseLanguage_4 post x n acc (nI i) := by
  intro n
  induction n with
  | zero => intro i acc h1 h2 h3; omega
  | succ n ih =>
    intro i acc h1 h2 h3 hI
    refine pk_le 32 i (fun z => ?_) (fun z => ?_)
    · have e : i = 32 := by omega
      subst e
      refine hp acc (fun w w1 w2 => ?_)
      rw [Bool.eq_iff_iff, hI w w2]
      obtain ⟨r1, r2, r3⟩ := ew_rv_in w w2 w1
      constructor
      · intro ⟨c, c1, c2, hx, e⟩
        rw [← e, (ew_rv_in c c2 c1).2.2]
        exact hx
      · intro q
        exact ⟨ew_rv w, r2, r1, q, r3⟩
    · refine ew_hw x (by omega) (fun q => ?_) (fun q => ?_)
      · refine br_f (by decide) ?_
        obtain ⟨r1, r2, r3⟩ := ew_rv_in i (by omega) h2
        refine ew_rvc h2 (by omega) (nm_e (nm_r (nI_1 i) ?_))
        refine ih (i + 1) _ (by omega) (by omega) (by omega) (fun w hw => ?_)
        rw [ew_exS h2, b_or, Bool.or_eq_true, hI w hw, ew_bit r1 hw, decide_eq_true_eq]
        exact ⟨fun y => y.imp id (fun y => ⟨q, y⟩), fun y => y.imp id (fun y => y.2)⟩
      · refine br_t rfl (nm_r (nI_1 i) ?_)
        refine ih (i + 1) acc (by omega) (by omega) (by omega) (fun w hw => ?_)
        rw [ew_exS h2, hI w hw]
        exact ⟨Or.inl, fun y => y.elim id (fun y => by rw [q] at y; exact absurd y.1 (by decide))⟩
theorem ew_rev (x : Int32) {post : Int32 → Prop} (hp : ∀ r, (∀ w, 1 ≤ w → w < 32 → bt r w = bt x (ew_rv w)) → post r) : wpX_reverseLanguage post x := by
  refine ⟨32, ew_rev_l x hp 32 1 0 rfl (by omega) (by omega) (fun w hw => ?_)⟩
  rw [b_0]
  exact ⟨fun z => absurd z (by decide), fun ⟨h, a, b, _⟩ => by omega⟩
