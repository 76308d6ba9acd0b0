/-! Y's languages: the word of code c is bit c - 1 -/
def ew_L (y : Int32) : Nat → Bool := fun c => bt y (c - 1)
section
variable {d R C : Int32} {st lc ln pn : Nat → Int32}
theorem ew_ix {len bits : Nat} (hl : len ≤ 4) : (((1 : Int32) <<< (nI len &&& 31)) - 1) + nI bits = nI (2 ^ len + bits - 1) := by
  have hp := Nat.two_pow_pos len
  rw [ew_one (by omega), show nI (2 ^ len) - 1 = nI (2 ^ len - 1) from pk_sub (b := 1) hp, nI_add]
  exact congrArg nI (by omega)
theorem ew_p16 {len : Nat} (hl : len ≤ 4) : 2 ^ len ≤ 16 := (Nat.pow_le_pow_right (by decide) hl : 2 ^ len ≤ 2 ^ 4)
theorem ew_ho {post : Int32 → Prop} (x : Int32) {len bits : Nat} (hl : len ≤ 4) (hb : bits < 2 ^ len) (h1 : ew_L x (2 ^ len + bits) = true → post 1) (h0 : ew_L x (2 ^ len + bits) = false → post 0) : wpY_holds post (d, R, C, st, lc, ln, pn) x (nI len) (nI bits) := by
  have := ew_p16 hl
  unfold wpY_holds
  dsimp only
  rw [ew_ix hl, ew_sb x (by omega)]
  exact ⟨h1, fun z => h0 (ew_bf z)⟩
theorem ew_wo {post : Int32 → Prop} {len bits : Nat} (hl : len ≤ 4) (h : post ((1 : Int32) <<< (nI (2 ^ len + bits - 1) &&& 31))) : wpY_word post (d, R, C, st, lc, ln, pn) (nI len) (nI bits) := by
  unfold wpY_word
  dsimp only
  rw [ew_ix hl]
  exact h
theorem ew_spl_l (x y : Int32) {len bits : Nat} (hl : len ≤ 4) (hb : bits < 2 ^ len) {post : Int32 → Prop} : ∀ n p, p + n = len + 2 → p ≤ len + 1 → (∀ q, p ≤ q → q ≤ len → ew_L x ((2 ^ len + bits) / 2 ^ (len - q)) = true → ew_L y (2 ^ (len - q) + (2 ^ len + bits) % 2 ^ (len - q)) = true → post 1) → ((∀ q, p ≤ q → q ≤ len → ¬ (ew_L x ((2 ^ len + bits) / 2 ^ (len - q)) = true ∧ ew_L y (2 ^ (len - q) + (2 ^ len + bits) % 2 ^ (len - q)) = true)) → post 0) → wY_splits_3 post x y (nI len) (nI bits) d R C st lc ln pn n (nI p) := by
  have h16 := ew_p16 hl
  intro n
  induction n with
  | zero => intro p a b; omega
  | succ n ih =>
    intro p a b h1 h0
    refine pk_lt len p (fun z => ?_) (fun z => ?_)
    · exact h0 (fun q q1 q2 => by omega)
    · refine nm_r (pk_sub z) ?_
      have hs : 2 ^ len = 2 ^ (len - p) * 2 ^ p := by rw [← Nat.pow_add]; exact congrArg _ (by omega)
      have hp := Nat.two_pow_pos (len - p)
      have e1 : (2 ^ len + bits) / 2 ^ (len - p) = 2 ^ p + bits / 2 ^ (len - p) := by
        rw [hs, Nat.mul_add_div hp]
      have e2 : (2 ^ len + bits) % 2 ^ (len - p) = bits % 2 ^ (len - p) := by
        rw [hs, Nat.mul_add_mod]
      have hm := Nat.mod_lt bits hp
      have hd : bits / 2 ^ (len - p) < 2 ^ p := by
        rw [Nat.div_lt_iff_lt_mul hp, Nat.mul_comm, ← hs]; exact hb
      have nx : ∀ r, (ew_L x ((2 ^ len + bits) / 2 ^ (len - p)) = true ∧ ew_L y (2 ^ (len - p) + (2 ^ len + bits) % 2 ^ (len - p)) = true → False) → r = nI (p + 1) → wY_splits_3 post x y (nI len) (nI bits) d R C st lc ln pn n r := by
        intro r hn hr
        rw [hr]
        refine ih (p + 1) (by omega) (by omega) (fun q q1 q2 => h1 q (by omega) q2) (fun k => h0 (fun q q1 q2 => ?_))
        by_cases e : q = p
        · subst e; exact hn
        · exact k q (by omega) q2
      rw [ew_shr (by omega) (by omega), ew_one (by omega), ew_mask (by omega) (by omega)]
      refine ew_ho x (by omega) hd (fun a1 => ?_) (fun a1 => ?_)
      · refine br_f (by decide) ?_
        refine ew_ho y (by omega) hm (fun a2 => ?_) (fun a2 => ?_)
        · exact br_f (by decide) (h1 p (Nat.le_refl _) z (by rw [e1]; exact a1) (by rw [e2]; exact a2))
        · refine br_t rfl (fun r hr => nx r (fun k => ?_) (hr.trans (nI_1 p)))
          rw [e2, a2] at k
          exact absurd k.2 (by decide)
      · refine br_t rfl (fun r hr => nx r (fun k => ?_) (hr.trans (nI_1 p)))
        rw [e1, a1] at k
        exact absurd k.1 (by decide)
theorem ew_spl (x y : Int32) {len bits least : Nat} (hl : len ≤ 4) (hb : bits < 2 ^ len) (hle : least ≤ len + 1) {post : Int32 → Prop} (h1 : ew_G (2 ^ least) (ew_L x) (ew_L y) (2 ^ len + bits) = true → post 1) (h0 : ew_G (2 ^ least) (ew_L x) (ew_L y) (2 ^ len + bits) = false → post 0) : wpY_splits post (d, R, C, st, lc, ln, pn) x y (nI least) (nI len) (nI bits) := by
  refine ⟨len + 2 - least, ew_spl_l x y hl hb (len + 2 - least) least (by omega) hle (fun q q1 q2 a1 a2 => h1 ?_) (fun k => h0 (ew_bf (fun g => ?_)))⟩
  · rw [ew_G_iff]
    refine ⟨len - q, by omega, ?_, a1, a2⟩
    have : 2 ^ (least + (len - q)) ≤ 2 ^ len := Nat.pow_le_pow_right (by decide) (by omega)
    rw [Nat.pow_add] at this
    omega
  · rw [ew_G_iff] at g
    obtain ⟨s, s1, s2, a1, a2⟩ := g
    have hlt : 2 ^ (least + s) < 2 ^ (len + 1) := by
      rw [Nat.pow_add, Nat.pow_succ]; omega
    have hls : least + s < len + 1 := (Nat.pow_lt_pow_iff_right (by decide)).mp hlt
    refine k (len - s) (by omega) (by omega) ?_
    rw [show len - (len - s) = s by omega]
    exact ⟨a1, a2⟩
/-- the words of codes below c are in s as F says, no others -/
def ew_I (F : Nat → Bool) (c : Nat) (s : Int32) : Prop := ∀ w, 1 ≤ w → w < 32 → ew_L s w = (decide (w < c) && F w)
theorem ew_I1 {F : Nat → Bool} {c : Nat} {s : Int32} (h1 : 1 ≤ c) (hc : c < 32) (h : ew_I F c s) (hF : F c = true) : ew_I F (c + 1) (s ||| ((1 : Int32) <<< (nI (c - 1) &&& 31))) := by
  intro w w1 w2
  show bt _ (w - 1) = _
  rw [b_or, ew_bit (by omega) (by omega)]
  have := h w w1 w2
  unfold ew_L at this
  rw [this]
  by_cases e : w = c
  · subst e; simp [hF]
  · have e1 : ¬ c - 1 = w - 1 := by omega
    have e2 : (w < c + 1) ↔ w < c := by omega
    simp [e1, e2]
theorem ew_I0 {F : Nat → Bool} {c : Nat} {s : Int32} (h : ew_I F c s) (hF : F c = false) : ew_I F (c + 1) s := by
  intro w w1 w2
  rw [h w w1 w2]
  by_cases e : w = c
  · subst e; simp [hF]
  · have e2 : (w < c + 1) ↔ w < c := by omega
    simp [e2]
theorem ew_I32 {F : Nat → Bool} {s : Int32} (h : ew_I F (2 ^ 5) s) : ∀ w, 1 ≤ w → w < 32 → ew_L s w = F w := by
  intro w w1 w2
  rw [h w w1 w2, decide_eq_true (by omega)]
  rfl
theorem ew_prod_in (x y : Int32) {len : Nat} (hl : len ≤ 4) {post : Int32 → Prop} {J : Int32 → Int32 → Prop} (hJ : ∀ s, ew_I (ew_G 1 (ew_L x) (ew_L y)) (2 ^ (len + 1)) s → J s (nI (len + 1))) : ∀ n bits s, bits + n = 2 ^ len + 1 → bits ≤ 2 ^ len → ew_I (ew_G 1 (ew_L x) (ew_L y)) (2 ^ len + bits) s → wY_products_14 post J x y (nI len) d R C st lc ln pn n s (nI bits) := by
  have h16 := ew_p16 hl
  have hp := Nat.two_pow_pos len
  intro n
  induction n with
  | zero => intro bits s a b; omega
  | succ n ih =>
    intro bits s a b hI
    refine pk_le (2 ^ len) bits (fun z => nm_r (nI_1 len) ?_) (fun z => ?_) (hx := ew_one (by omega))
    · have e : bits = 2 ^ len := by omega
      subst e
      refine hJ s ?_
      rw [Nat.pow_succ, Nat.mul_two]
      exact hI
    · refine ew_spl (least := 0) x y hl z (by omega) (fun g => ?_) (fun g => ?_)
      · refine br_f (by decide) (ew_wo hl (nm_e (nm_r (nI_1 bits) ?_)))
        exact ih (bits + 1) _ (by omega) (by omega) (ew_I1 (c := 2 ^ len + bits) (by omega) (by omega) hI g)
      · refine br_t rfl (nm_r (nI_1 bits) ?_)
        exact ih (bits + 1) _ (by omega) (by omega) (ew_I0 hI g)
theorem ew_prod_out (x y : Int32) {post : Int32 → Prop} (hp : ∀ r, (∀ w, 1 ≤ w → w < 32 → ew_L r w = ew_G 1 (ew_L x) (ew_L y) w) → post r) : ∀ n len s, len + n = 6 → len ≤ 5 → ew_I (ew_G 1 (ew_L x) (ew_L y)) (2 ^ len) s → wY_products_5 post x y d R C st lc ln pn n s (nI len) := by
  intro n
  induction n with
  | zero => intro len s a b; omega
  | succ n ih =>
    intro len s a b hI
    refine pk_lt 4 len (fun z => ?_) (fun z => ?_)
    · have e : len = 5 := by omega
      subst e
      exact hp s (ew_I32 hI)
    · exact ⟨2 ^ len + 1, ew_prod_in x y z (fun s' h' => ih (len + 1) s' (by omega) (by omega) h') (2 ^ len + 1) 0 s (by omega) (Nat.zero_le _) hI⟩
theorem ew_prod (x y : Int32) {post : Int32 → Prop} (hp : ∀ r, (∀ w, 1 ≤ w → w < 32 → ew_L r w = ew_G 1 (ew_L x) (ew_L y) w) → post r) : wpY_products post (d, R, C, st, lc, ln, pn) x y := by
  refine ⟨6, ew_prod_out x y hp 6 0 0 rfl (by omega) (fun w w1 w2 => ?_)⟩
  show bt 0 _ = _
  rw [b_0, decide_eq_false (by omega)]
  rfl
theorem ew_ch_in (x : Int32) {len : Nat} (hl : len ≤ 4) (hl1 : 1 ≤ len) {post : Int32 → Prop} {J : Int32 → Int32 → Prop} (hJ : ∀ s, ew_I (ew_st (ew_L x) 4) (2 ^ (len + 1)) s → J s (nI (len + 1))) : ∀ n bits s, bits + n = 2 ^ len + 1 → bits ≤ 2 ^ len → ew_I (ew_st (ew_L x) 4) (2 ^ len + bits) s → wY_chains_12 post J x (nI len) d R C st lc ln pn n s (nI bits) := by
  have h16 := ew_p16 hl
  have hp := Nat.two_pow_pos len
  have h2 : 2 ^ 1 ≤ 2 ^ len := Nat.pow_le_pow_right (by decide) hl1
  intro n
  induction n with
  | zero => intro bits s a b; omega
  | succ n ih =>
    intro bits s a b hI
    refine pk_le (2 ^ len) bits (fun z => nm_r (nI_1 len) ?_) (fun z => ?_) (hx := ew_one (by omega))
    · have e : bits = 2 ^ len := by omega
      subst e
      refine hJ s ?_
      rw [Nat.pow_succ, Nat.mul_two]
      exact hI
    · have hg : ew_G (2 ^ 1) (ew_L x) (ew_L s) (2 ^ len + bits) = ew_st (ew_L x) 4 (2 ^ len + bits) := by
        rw [← ew_fix (ew_L x) (w := 2 ^ len + bits) (by omega) (by omega)]
        refine ew_G_congr (fun _ _ _ => rfl) (fun q q1 q2 => ?_)
        have hq := Nat.two_pow_pos q
        have hm := Nat.mod_lt (2 ^ len + bits) hq
        rw [hI _ (by omega) (by omega), decide_eq_true (by omega)]
        rfl
      refine ew_spl (least := 1) x s hl z (by omega) (fun g => ?_) (fun g => ?_)
      · refine br_f (by decide) (ew_wo hl (nm_e (nm_r (nI_1 bits) ?_)))
        exact ih (bits + 1) _ (by omega) (by omega) (ew_I1 (c := 2 ^ len + bits) (by omega) (by omega) hI (hg ▸ g))
      · refine br_t rfl (nm_r (nI_1 bits) ?_)
        exact ih (bits + 1) _ (by omega) (by omega) (ew_I0 hI (hg ▸ g))
theorem ew_ch_out (x : Int32) {post : Int32 → Prop} (hp : ∀ r, (∀ w, 1 ≤ w → w < 32 → ew_L r w = ew_st (ew_L x) 4 w) → post r) : ∀ n len s, len + n = 6 → 1 ≤ len → len ≤ 5 → ew_I (ew_st (ew_L x) 4) (2 ^ len) s → wY_chains_4 post x d R C st lc ln pn n s (nI len) := by
  intro n
  induction n with
  | zero => intro len s a _ b; omega
  | succ n ih =>
    intro len s a b1 b hI
    refine pk_lt 4 len (fun z => ?_) (fun z => ?_)
    · have e : len = 5 := by omega
      subst e
      exact hp s (ew_I32 hI)
    · exact ⟨2 ^ len + 1, ew_ch_in x z b1 (fun s' h' => ih (len + 1) s' (by omega) (by omega) (by omega) h') (2 ^ len + 1) 0 s (by omega) (Nat.zero_le _) hI⟩
theorem ew_ch (x : Int32) {post : Int32 → Prop} (hp : ∀ r, (∀ w, 1 ≤ w → w < 32 → ew_L r w = ew_st (ew_L x) 4 w) → post r) : wpY_chains post (d, R, C, st, lc, ln, pn) x := by
  refine ⟨5, ew_ch_out x hp 5 1 1 rfl (by omega) (by omega) (fun w w1 w2 => ?_)⟩
  have hb : ∀ w, w < 32 → bt 1 w = decide (w = 0) := by decide +kernel
  show bt 1 (w - 1) = _
  rw [hb (w - 1) (by omega)]
  by_cases e : w = 1
  · subst e; rw [ew_t0]; rfl
  · rw [decide_eq_false (by omega), decide_eq_false (by omega)]; rfl
theorem ew_mi_t : ∀ len, len < 5 → ∀ bits, bits < 2 ^ len → ew_rr 0 bits len < 2 ^ len ∧ 2 ^ len + ew_rr 0 bits len = ew_rv (2 ^ len + bits) := by decide +kernel
theorem ew_mid_l {bits len : Nat} (hc : bits < 32) (hl : len ≤ 4) {post : Int32 → Prop} (hp : post (nI (ew_rr 0 bits len))) : ∀ n i, i + n = len + 1 → i ≤ len → wY_mirrored_5 post (nI len) (nI bits) d R C st lc ln pn n (nI (ew_rr 0 bits i)) (nI i) := by
  intro n
  induction n with
  | zero => intro i h1 h2; omega
  | succ n ih =>
    intro i h1 h2
    refine pk_le len i (fun z => ?_) (fun z => ?_)
    · have e : i = len := by omega
      subst e
      exact hp
    · have hd : bits / 2 ^ i ≤ bits := Nat.div_le_self _ _
      refine nm_r (e' := nI (ew_rr 0 bits (i + 1))) ?_ (nm_r (nI_1 i) (ih (i + 1) (by omega) (by omega)))
      rw [ew_shr (by omega) (by omega), ew_and1 (by omega)]
      show nI _ * nI 2 + _ = _
      rw [pk_mul, nI_add]
      rfl
theorem ew_mid {bits len : Nat} (hl : len ≤ 4) (hb : bits < 2 ^ len) {post : Int32 → Prop} (hp : post (nI (ew_rr 0 bits len))) : wpY_mirrored post (d, R, C, st, lc, ln, pn) (nI len) (nI bits) := by
  have h16 := ew_p16 hl
  exact ⟨len + 1, ew_mid_l (by omega) hl hp (len + 1) 0 (by omega) (by omega)⟩
theorem ew_mi_in (x : Int32) {len : Nat} (hl : len ≤ 4) {post : Int32 → Prop} {J : Int32 → Int32 → Prop} (hJ : ∀ s, ew_I (fun w => ew_L x (ew_rv w)) (2 ^ (len + 1)) s → J s (nI (len + 1))) : ∀ n bits s, bits + n = 2 ^ len + 1 → bits ≤ 2 ^ len → ew_I (fun w => ew_L x (ew_rv w)) (2 ^ len + bits) s → wY_mirrors_12 post J x (nI len) d R C st lc ln pn n s (nI bits) := by
  have h16 := ew_p16 hl
  have hp := Nat.two_pow_pos len
  intro n
  induction n with
  | zero => intro bits s a b; omega
  | succ n ih =>
    intro bits s a b hI
    refine pk_le (2 ^ len) bits (fun z => nm_r (nI_1 len) ?_) (fun z => ?_) (hx := ew_one (by omega))
    · have e : bits = 2 ^ len := by omega
      subst e
      refine hJ s ?_
      rw [Nat.pow_succ, Nat.mul_two]
      exact hI
    · obtain ⟨m1, m2⟩ := ew_mi_t len (by omega) bits z
      refine ew_mid hl z ?_
      refine ew_ho x hl m1 (fun g => ?_) (fun g => ?_)
      · refine br_f (by decide) (ew_wo hl (nm_e (nm_r (nI_1 bits) ?_)))
        exact ih (bits + 1) _ (by omega) (by omega) (ew_I1 (c := 2 ^ len + bits) (by omega) (by omega) hI (by rw [m2] at g; exact g))
      · refine br_t rfl (nm_r (nI_1 bits) ?_)
        exact ih (bits + 1) _ (by omega) (by omega) (ew_I0 hI (by rw [m2] at g; exact g))
theorem ew_mi_out (x : Int32) {post : Int32 → Prop} (hp : ∀ r, (∀ w, 1 ≤ w → w < 32 → ew_L r w = ew_L x (ew_rv w)) → post r) : ∀ n len s, len + n = 6 → len ≤ 5 → ew_I (fun w => ew_L x (ew_rv w)) (2 ^ len) s → wY_mirrors_4 post x d R C st lc ln pn n s (nI len) := by
  intro n
  induction n with
  | zero => intro len s a b; omega
  | succ n ih =>
    intro len s a b hI
    refine pk_lt 4 len (fun z => ?_) (fun z => ?_)
    · have e : len = 5 := by omega
      subst e
      exact hp s (ew_I32 hI)
    · exact ⟨2 ^ len + 1, ew_mi_in x z (fun s' h' => ih (len + 1) s' (by omega) (by omega) h') (2 ^ len + 1) 0 s (by omega) (Nat.zero_le _) hI⟩
theorem ew_mi (x : Int32) {post : Int32 → Prop} (hp : ∀ r, (∀ w, 1 ≤ w → w < 32 → ew_L r w = ew_L x (ew_rv w)) → post r) : wpY_mirrors post (d, R, C, st, lc, ln, pn) x := by
  refine ⟨6, ew_mi_out x hp 6 0 0 rfl (by omega) (fun w w1 w2 => ?_)⟩
  show bt 0 _ = _
  rw [b_0, decide_eq_false (by omega)]
  rfl
end
/-! a language of X and one of Y that say the same -/
def ew_Lg (x y : Int32) : Prop := ∀ w, 1 ≤ w → w < 32 → bt x w = ew_L y w
theorem ew_Lg_or {x y x' y' : Int32} (h : ew_Lg x y) (h' : ew_Lg x' y') : ew_Lg (x ||| x') (y ||| y') := by
  intro w w1 w2
  show _ = bt _ _
  rw [b_or, b_or, h w w1 w2, h' w w1 w2]
  rfl
theorem ew_Lg_G {m : Nat} (hm : 1 ≤ m) {x y x' y' : Int32} (h : ew_Lg x y) (h' : ew_Lg x' y') {w : Nat} (hw : w < 32) : ew_G m (bt x) (bt x') w = ew_G m (ew_L y) (ew_L y') w := by
  refine ew_G_congr (fun s s1 s2 => ?_) (fun s s1 s2 => ?_)
  · have h1 : 1 * 2 ^ s ≤ m * 2 ^ s := Nat.mul_le_mul_right _ hm
    exact h _ ((Nat.le_div_iff_mul_le (Nat.two_pow_pos s)).mpr (by omega)) (Nat.lt_of_le_of_lt (Nat.div_le_self _ _) hw)
  · have hq := Nat.two_pow_pos s
    have hm := Nat.mod_lt w hq
    have := ew_p16 s1
    exact h' _ (by omega) (by omega)
theorem ew_st_congr {f g : Nat → Bool} (h : ∀ w, 1 ≤ w → w < 32 → f w = g w) : ∀ k w, 1 ≤ w → w < 32 → ew_st f k w = ew_st g k w := by
  intro k
  induction k with
  | zero => intro w _ _; rfl
  | succ k ih =>
    intro w w1 w2
    rw [ew_tS, ew_tS, ih w w1 w2]
    refine congrArg _ (ew_G_congr (fun s s1 s2 => ?_) (fun s s1 s2 => ?_))
    · exact ih _ ((Nat.le_div_iff_mul_le (Nat.two_pow_pos s)).mpr s2) (Nat.lt_of_le_of_lt (Nat.div_le_self _ _) w2)
    · have hq := Nat.two_pow_pos s
      have hm := Nat.mod_lt w hq
      have := ew_p16 s1
      exact h _ (by omega) (by omega)
theorem ew_Lg_c {x y : Int32} (h : (List.range 31).all (fun i => bt x (i + 1) == bt y i) = true) : ew_Lg x y := by
  intro w w1 w2
  rw [List.all_eq_true] at h
  have := h (w - 1) (List.mem_range.mpr (by omega))
  rw [beq_iff_eq, show w - 1 + 1 = w by omega] at this
  exact this
theorem ew_Lg_0 : ew_Lg 0 0 := ew_Lg_c (by decide +kernel)
theorem ew_Lg_all : ew_Lg (-2) 2147483647 := ew_Lg_c (by decide +kernel)
theorem ew_Lg_1 : ew_Lg 2 1 := ew_Lg_c (by decide +kernel)
theorem ew_Lg_2 : ew_Lg 4 2 := ew_Lg_c (by decide +kernel)
theorem ew_Lg_4 : ew_Lg 8 4 := ew_Lg_c (by decide +kernel)
theorem ew_Lg_6 : ew_Lg 12 6 := ew_Lg_c (by decide +kernel)
/-- cat, star, reverse: both sides end in languages that say the same -/
theorem ew_cat2 {a b a' b' : Int32} (ha : ew_Lg a a') (hb : ew_Lg b b') {d R C : Int32} {st lc ln pn : Nat → Int32} {P : Int32 → Int32 → Prop} (h : ∀ r r', ew_Lg r r' → P r r') : wpX_joinLanguages (fun r => wpY_products (fun r' => P r r') (d, R, C, st, lc, ln, pn) a' b') a b :=
  ew_join a b (fun r hr => ew_prod a' b' (fun r' hr' => h r r' (fun w w1 w2 => by rw [hr w w2, hr' w w1 w2]; exact ew_Lg_G (Nat.le_refl 1) ha hb w2)))
