/-! lines, words and pins of both sides -/
def ew_len (R C line : Nat) : Nat := if line < R then C else R
def ew_cell (R C line i : Nat) : Nat := if line < R then line * C + i else i * C + (line - R)
def ew_cy (R line i : Nat) : Nat := if line < R then line * 4 + i else i * 4 + (line - R)
def ew_dg (R C n cell : Nat) : Nat := n / 2 ^ (R * C - 1 - cell) % 2
def ew_wd (g : Nat → Nat) : Nat → Nat
  | 0 => 0
  | k + 1 => ew_wd g k * 2 + g k
theorem ew_wd_lt {g : Nat → Nat} (hg : ∀ i, g i < 2) : ∀ k, ew_wd g k < 2 ^ k
  | 0 => Nat.zero_lt_one
  | k + 1 => by
    have h1 := ew_wd_lt hg k
    have h2 := hg k
    rw [Nat.pow_succ]
    show ew_wd g k * 2 + g k < _
    omega
theorem ew_wd_dg {g : Nat → Nat} (hg : ∀ i, g i < 2) : ∀ k i, i < k → ew_wd g k / 2 ^ (k - 1 - i) % 2 = g i
  | 0 => fun i h => by omega
  | k + 1 => fun i h => by
    show (ew_wd g k * 2 + g k) / 2 ^ (k + 1 - 1 - i) % 2 = g i
    have h2 := hg k
    by_cases e : i = k
    · subst e
      rw [show i + 1 - 1 - i = 0 by omega, Nat.pow_zero, Nat.div_one]
      omega
    · rw [show k + 1 - 1 - i = 1 + (k - 1 - i) by omega, Nat.pow_add, ← Nat.div_div_eq_div_mul, show (ew_wd g k * 2 + g k) / 2 ^ 1 = ew_wd g k by omega]
      exact ew_wd_dg hg k i (by omega)
theorem ew_dg_lt (R C n cell : Nat) : ew_dg R C n cell < 2 := Nat.mod_lt _ (by decide)
section
variable {R C : Nat} (hR1 : 1 ≤ R) (hR : R ≤ 3) (hC1 : 1 ≤ C) (hC : C ≤ 4)
theorem ew_RC (hR : R ≤ 3) (hC : C ≤ 4) : R * C ≤ 12 := Nat.mul_le_mul hR hC
theorem ew_rc {r c : Nat} (h1 : r < R) (h2 : c < C) : r * C + c < R * C := by
  have h : (r + 1) * C ≤ R * C := Nat.mul_le_mul_right _ h1
  rw [Nat.add_mul, Nat.one_mul] at h
  omega
theorem ew_len_in (hR1 : 1 ≤ R) (hR : R ≤ 3) (hC1 : 1 ≤ C) (hC : C ≤ 4) (line : Nat) : 1 ≤ ew_len R C line ∧ ew_len R C line ≤ 4 := by
  unfold ew_len
  split <;> omega
theorem ew_cell_lt {line i : Nat} (hl : line < R + C) (hi : i < ew_len R C line) : ew_cell R C line i < R * C := by
  unfold ew_len at hi
  unfold ew_cell
  by_cases h : line < R
  · rw [if_pos h] at hi ⊢
    exact ew_rc h hi
  · rw [if_neg h] at hi ⊢
    exact ew_rc hi (by omega)
theorem ew_cy_lt (hR : R ≤ 3) (hC : C ≤ 4) {line i : Nat} (hl : line < R + C) (hi : i < ew_len R C line) : ew_cy R line i < 12 := by
  unfold ew_len at hi
  unfold ew_cy
  by_cases h : line < R
  · rw [if_pos h] at hi ⊢
    omega
  · rw [if_neg h] at hi ⊢
    omega
theorem ew_lat {n cell : Nat} (hR : R ≤ 3) (hC : C ≤ 4) (hn : n < 2 ^ 31) (hc : cell < R * C) : (nI n >>> ((((nI R * nI C) - 1) - nI cell) &&& 31)) &&& 1 = nI (ew_dg R C n cell) := by
  have h := ew_RC hR hC
  have h2 : n / 2 ^ (R * C - 1 - cell) ≤ n := Nat.div_le_self _ _
  rw [pk_mul, show nI (R * C) - 1 = nI (R * C - 1) from pk_sub (b := 1) (by omega), pk_sub (by omega), ew_shr hn (by omega), ew_and1 (by omega)]
  rfl
section
variable {D : Int32} {LL PX SL SK : Nat → Int32}
theorem ew_xll (hR : R ≤ 3) {line : Nat} (hl : line < 8) {post : Int32 → Prop} (h : post (nI (ew_len R C line))) : wpX_lineLength post (nI R, nI C, D, LL, PX, SL, SK) (nI line) := by
  unfold ew_len at h
  refine pk_le R line (fun z => ?_) (fun z => ?_)
  · rw [if_neg (by omega)] at h; exact h
  · rw [if_pos z] at h; exact h
theorem ew_xlc (hR : R ≤ 3) {line i : Nat} (hl : line < 8) {post : Int32 → Prop} (h : post (nI (ew_cell R C line i))) : wpX_lineCell post (nI R, nI C, D, LL, PX, SL, SK) (nI line) (nI i) := by
  unfold ew_cell at h
  refine pk_le R line (fun z => ?_) (fun z => ?_)
  · rw [if_neg (by omega)] at h
    rw [pk_mul, pk_sub z, nI_add]; exact h
  · rw [if_pos z] at h
    rw [pk_mul, nI_add]; exact h
theorem ew_xla (hR : R ≤ 3) (hC : C ≤ 4) {n cell : Nat} (hn : n < 2 ^ 31) (hc : cell < R * C) {post : Int32 → Prop} (h : post (nI (ew_dg R C n cell))) : wpX_letterAt post (nI R, nI C, D, LL, PX, SL, SK) (nI n) (nI cell) := by
  unfold wpX_letterAt
  dsimp only
  rw [ew_lat hR hC hn hc]
  exact h
/-- the word that number n writes into a line -/
def ew_ws (R C n line : Nat) : Nat := ew_wd (fun i => ew_dg R C n (ew_cell R C line i)) (ew_len R C line)
theorem ew_xlw_l (hR : R ≤ 3) (hC : C ≤ 4) {n line : Nat} (hn : n < 2 ^ 31) (hl : line < R + C) {post : Int32 → Prop} (h : post (nI (ew_ws R C n line))) : ∀ m i, i + m = ew_len R C line + 1 → i ≤ ew_len R C line → wX_lineWord_12 post (nI line) (nI n) (nI (ew_len R C line)) (nI R) (nI C) D LL PX SL SK m (nI (ew_wd (fun i => ew_dg R C n (ew_cell R C line i)) i)) (nI i) := by
  have hb : ew_len R C line ≤ 4 := by unfold ew_len; split <;> omega
  intro m
  induction m with
  | zero => intro i a b; omega
  | succ m ih =>
    intro i a b
    refine pk_le (ew_len R C line) i (fun z => ?_) (fun z => ?_)
    · have e : i = ew_len R C line := by omega
      rw [e]; exact h
    · refine ew_xlc hR (by omega) ?_
      refine ew_xla hR hC hn (ew_cell_lt hl z) ?_
      refine nm_r (e' := nI (ew_wd (fun i => ew_dg R C n (ew_cell R C line i)) (i + 1))) ?_ (nm_r (nI_1 i) (ih (i + 1) (by omega) (by omega)))
      show nI _ * nI 2 + _ = _
      rw [pk_mul, nI_add]
      rfl
theorem ew_xlw (hR : R ≤ 3) (hC : C ≤ 4) {n line : Nat} (hn : n < 2 ^ 31) (hl : line < R + C) {post : Int32 → Prop} (h : post (nI (ew_ws R C n line))) : wpX_lineWord post (nI R, nI C, D, LL, PX, SL, SK) (nI line) (nI n) := by
  unfold wpX_lineWord
  dsimp only
  refine ew_xll hR (by omega) ⟨ew_len R C line + 1, ?_⟩
  exact ew_xlw_l hR hC hn hl h (ew_len R C line + 1) 0 (by omega) (by omega)
/-- word w keeps the pins of a line, X's and Y's -/
def ew_kx (R C : Nat) (PX : Nat → Int32) (line w : Nat) : Prop := ∀ i, i < ew_len R C line → PX (ew_cell R C line i) = 2 ∨ PX (ew_cell R C line i) = nI (w / 2 ^ (ew_len R C line - 1 - i) % 2)
def ew_ky (R C : Nat) (pn : Nat → Int32) (line w : Nat) : Prop := ∀ i, i < ew_len R C line → pn (ew_cy R line i) = 2 ∨ pn (ew_cy R line i) = nI (w / 2 ^ (ew_len R C line - 1 - i) % 2)
def ew_wf (R C : Nat) (LL PX : Nat → Int32) (line w : Nat) : Prop := ew_kx R C PX line w ∧ bt (LL line) (2 ^ ew_len R C line + w) = true
theorem ew_sub1 {len i : Nat} (h : i < len) : (nI len - 1) - nI i = nI (len - 1 - i) := by
  rw [show nI len - 1 = nI (len - 1) from pk_sub (b := 1) (by omega), pk_sub (by omega)]
theorem ew_bitw {len i w : Nat} (hl : len ≤ 4) (h : i < len) (hw : w < 16) : (nI w >>> (((nI len - 1) - nI i) &&& 31)) &&& 1 = nI (w / 2 ^ (len - 1 - i) % 2) := by
  have h2 : w / 2 ^ (len - 1 - i) ≤ w := Nat.div_le_self _ _
  rw [ew_sub1 h, ew_shr (by omega) (by omega), ew_and1 (by omega)]
theorem ew_xwf_l (hR : R ≤ 3) (hC : C ≤ 4) {line w : Nat} (hl : line < R + C) (hw : w < 2 ^ ew_len R C line) {post : Int32 → Prop} (h1 : ew_wf R C LL PX line w → post 1) (h0 : ¬ ew_wf R C LL PX line w → post 0) : ∀ m i, i + m = ew_len R C line + 1 → i ≤ ew_len R C line → (∀ j, j < i → PX (ew_cell R C line j) = 2 ∨ PX (ew_cell R C line j) = nI (w / 2 ^ (ew_len R C line - 1 - j) % 2)) → wX_wordFits_9 post (nI line) (nI w) (nI (ew_len R C line)) (nI R) (nI C) D LL PX SL SK m (nI i) := by
  have hb : ew_len R C line ≤ 4 := by unfold ew_len; split <;> omega
  have h16 := ew_p16 hb
  have h12 := ew_RC hR hC
  intro m
  induction m with
  | zero => intro i a b; omega
  | succ m ih =>
    intro i a b hI
    refine pk_le (ew_len R C line) i (fun z => ⟨vp_in_nI (by omega) (by omega), ?_⟩) (fun z => ?_)
    · have e : i = ew_len R C line := by omega
      subst e
      rw [nI_clamp (by omega), ew_one (by omega), nI_add]
      exact ew_hw _ (by omega) (fun g => ⟨rfl, h1 ⟨hI, g⟩⟩) (fun g => ⟨rfl, h0 (fun k => by rw [k.2] at g; exact absurd g (by decide))⟩)
    · have hc := ew_cell_lt hl z
      refine ew_xlc hR (by omega) ⟨vp_in_nI (by omega) (by omega), ?_⟩
      refine nm_r (congrArg PX (nI_clamp (by omega))) (nm_r (ew_bitw hb z (by omega)) ?_)
      have nx : PX (ew_cell R C line i) = 2 ∨ PX (ew_cell R C line i) = nI (w / 2 ^ (ew_len R C line - 1 - i) % 2) → ∀ y, y = nI i + 1 → wX_wordFits_9 post (nI line) (nI w) (nI (ew_len R C line)) (nI R) (nI C) D LL PX SL SK m y := by
        intro g y hy
        rw [hy, nI_1]
        exact ih (i + 1) (by omega) (by omega) (lt_s hI g)
      refine br_c (fun g => nx (Or.inl g)) (fun g => br_c (fun g2 => nx (Or.inr g2)) (fun g2 => h0 (fun k => ?_)))
      exact (k.1 i z).elim g g2
theorem ew_xwf (hR : R ≤ 3) (hC : C ≤ 4) {line w : Nat} (hl : line < R + C) (hw : w < 2 ^ ew_len R C line) {post : Int32 → Prop} (h1 : ew_wf R C LL PX line w → post 1) (h0 : ¬ ew_wf R C LL PX line w → post 0) : wpX_wordFits post (nI R, nI C, D, LL, PX, SL, SK) (nI line) (nI w) := by
  unfold wpX_wordFits
  dsimp only
  refine ew_xll hR (by omega) ⟨ew_len R C line + 1, ?_⟩
  exact ew_xwf_l hR hC hl hw h1 h0 (ew_len R C line + 1) 0 (by omega) (by omega) (fun j hj => by omega)
/-- number n is a filling, by X -/
def ew_fx (R C : Nat) (LL PX : Nat → Int32) (n : Nat) : Prop := ∀ line, line < R + C → ew_wf R C LL PX line (ew_ws R C n line)
theorem ew_ws_lt (n line : Nat) : ew_ws R C n line < 2 ^ ew_len R C line := ew_wd_lt (fun i => ew_dg_lt R C n _) _
theorem ew_xfi_l (hR : R ≤ 3) (hC : C ≤ 4) {n : Nat} (hn : n < 2 ^ 31) {post : Int32 → Prop} (h1 : ew_fx R C LL PX n → post 1) (h0 : ¬ ew_fx R C LL PX n → post 0) : ∀ m i, i + m = R + C + 1 → i ≤ R + C → (∀ j, j < i → ew_wf R C LL PX j (ew_ws R C n j)) → wX_isFilling_12 post (nI n) (nI (R + C)) (nI R) (nI C) D LL PX SL SK m (nI i) := by
  intro m
  induction m with
  | zero => intro i a b; omega
  | succ m ih =>
    intro i a b hI
    refine pk_le (R + C) i (fun z => ?_) (fun z => ?_)
    · have e : i = R + C := by omega
      subst e
      exact h1 hI
    · refine ew_xlw hR hC hn z ?_
      refine ew_xwf hR hC z (ew_ws_lt n i) (fun g => ?_) (fun g => ?_)
      · exact br_f (by decide) (nm_r (nI_1 i) (ih (i + 1) (by omega) (by omega) (lt_s hI g)))
      · exact br_t rfl (h0 (fun k => g (k i z)))
theorem ew_xfi (hR : R ≤ 3) (hC : C ≤ 4) {n : Nat} (hn : n < 2 ^ 31) {post : Int32 → Prop} (h1 : ew_fx R C LL PX n → post 1) (h0 : ¬ ew_fx R C LL PX n → post 0) : wpX_isFilling post (nI R, nI C, D, LL, PX, SL, SK) (nI n) :=
  nm_r (nI_add R C) ⟨R + C + 1, ew_xfi_l hR hC hn h1 h0 (R + C + 1) 0 (by omega) (by omega) (fun j hj => by omega)⟩
end
section
variable {d : Int32} {st lc ln pn : Nat → Int32}
theorem ew_yll (hR : R ≤ 3) {line : Nat} (hl : line < 8) {post : Int32 → Prop} (h : post (nI (ew_len R C line))) : wpY_lengthOf post (d, nI R, nI C, st, lc, ln, pn) (nI line) := by
  unfold ew_len at h
  refine pk_le R line (fun z => ?_) (fun z => ?_)
  · rw [if_neg (by omega)] at h; exact h
  · rw [if_pos z] at h; exact h
theorem ew_yco (hR : R ≤ 3) (hC : C ≤ 4) {n r c : Nat} (hn : n < 2 ^ 31) (hr : r < R) (hc : c < C) {post : Int32 → Prop} (h : post (nI (ew_dg R C n (r * C + c)))) : wpY_cellOf post (d, nI R, nI C, st, lc, ln, pn) (nI n) (nI r) (nI c) := by
  unfold wpY_cellOf
  dsimp only
  rw [pk_mul r C, nI_add, ew_lat hR hC hn (ew_rc hr hc)]
  exact h
theorem ew_ywo_l (hR : R ≤ 3) (hC : C ≤ 4) {n line : Nat} (hn : n < 2 ^ 31) (hl : line < R + C) {post : Int32 → Prop} (h : post (nI (ew_ws R C n line))) : ∀ m i, i + m = ew_len R C line + 1 → i ≤ ew_len R C line → wY_wordOf_12 post (nI n) (nI line) (nI (ew_len R C line)) d (nI R) (nI C) st lc ln pn m (nI (ew_wd (fun i => ew_dg R C n (ew_cell R C line i)) i)) (nI i) := by
  have hb : ew_len R C line ≤ 4 := by unfold ew_len; split <;> omega
  intro m
  induction m with
  | zero => intro i a b; omega
  | succ m ih =>
    intro i a b
    refine pk_le (ew_len R C line) i (fun z => ?_) (fun z => ?_)
    · have e : i = ew_len R C line := by omega
      rw [e]; exact h
    · have nx : wY_wordOf_50 post (wY_wordOf_12 post (nI n) (nI line) (nI (ew_len R C line)) d (nI R) (nI C) st lc ln pn m) (nI n) (nI line) (nI (ew_len R C line)) (nI (ew_wd (fun i => ew_dg R C n (ew_cell R C line i)) i)) (nI i) (nI (ew_dg R C n (ew_cell R C line i))) d (nI R) (nI C) st lc ln pn := by
        unfold wY_wordOf_50
        refine nm_r (e' := nI (ew_wd (fun i => ew_dg R C n (ew_cell R C line i)) (i + 1))) ?_ (nm_r (nI_1 i) (ih (i + 1) (by omega) (by omega)))
        show nI _ * nI 2 + _ = _
        rw [pk_mul, nI_add]
        rfl
      have hz : i < if line < R then C else R := z
      refine pk_le R line (fun y => ?_) (fun y => ?_)
      · rw [if_neg (by omega)] at hz
        rw [pk_sub y]
        refine ew_yco hR hC hn hz (by omega) ?_
        rw [show i * C + (line - R) = ew_cell R C line i from (if_neg (by omega)).symm]
        exact nx
      · rw [if_pos y] at hz
        refine ew_yco hR hC hn y hz ?_
        rw [show line * C + i = ew_cell R C line i from (if_pos y).symm]
        exact nx
theorem ew_ywo (hR : R ≤ 3) (hC : C ≤ 4) {n line : Nat} (hn : n < 2 ^ 31) (hl : line < R + C) {post : Int32 → Prop} (h : post (nI (ew_ws R C n line))) : wpY_wordOf post (d, nI R, nI C, st, lc, ln, pn) (nI n) (nI line) := by
  unfold wpY_wordOf
  dsimp only
  refine ew_yll hR (by omega) ⟨ew_len R C line + 1, ?_⟩
  exact ew_ywo_l hR hC hn hl h (ew_len R C line + 1) 0 (by omega) (by omega)
/-- number n keeps Y's pins; its lines' words are in Y's languages -/
def ew_pk (R C : Nat) (pn : Nat → Int32) (n : Nat) : Prop := ∀ r, r < R → ∀ c, c < C → pn (r * 4 + c) = 2 ∨ pn (r * 4 + c) = nI (ew_dg R C n (r * C + c))
def ew_lk (R C : Nat) (ln : Nat → Int32) (n : Nat) : Prop := ∀ line, line < R + C → ew_L (ln line) (2 ^ ew_len R C line + ew_ws R C n line) = true
theorem ew_ypk_in (hR : R ≤ 3) (hC : C ≤ 4) {n r : Nat} (hn : n < 2 ^ 31) (hr : r < R) {post : Int32 → Prop} {J : Int32 → Prop} (hJ : (∀ c, c < C → pn (r * 4 + c) = 2 ∨ pn (r * 4 + c) = nI (ew_dg R C n (r * C + c))) → J (nI (r + 1))) (h0 : ¬ ew_pk R C pn n → post 0) : ∀ m i, i + m = C + 1 → i ≤ C → (∀ c, c < i → pn (r * 4 + c) = 2 ∨ pn (r * 4 + c) = nI (ew_dg R C n (r * C + c))) → wY_pinsKept_12 post J (nI n) (nI r) d (nI R) (nI C) st lc ln pn m (nI i) := by
  intro m
  induction m with
  | zero => intro i a b; omega
  | succ m ih =>
    intro i a b hI
    refine pk_le C i (fun z => nm_r (nI_1 r) ?_) (fun z => ?_)
    · have e : i = C := by omega
      subst e
      exact hJ hI
    · have e4 : nI r * 4 + nI i = nI (r * 4 + i) := by
        show nI r * nI 4 + nI i = _
        rw [pk_mul, nI_add]
      rw [e4, nI_clamp (by omega)]
      have nx : pn (r * 4 + i) = 2 ∨ pn (r * 4 + i) = nI (ew_dg R C n (r * C + i)) → ∀ y, y = nI i + 1 → wY_pinsKept_12 post J (nI n) (nI r) d (nI R) (nI C) st lc ln pn m y := by
        intro g y hy
        rw [hy, nI_1]
        exact ih (i + 1) (by omega) (by omega) (lt_s hI g)
      refine ⟨vp_in_nI (by omega) (by omega), nm_e (br_c (fun g => nx (Or.inl g)) (fun g => ?_))⟩
      refine ew_yco hR hC hn hr z (br_c (fun g2 => nx (Or.inr g2)) (fun g2 => h0 (fun k => ?_)))
      exact (k r hr i z).elim g g2
theorem ew_ypk_out (hR : R ≤ 3) (hC : C ≤ 4) {n : Nat} (hn : n < 2 ^ 31) {post : Int32 → Prop} (h1 : ew_pk R C pn n → post 1) (h0 : ¬ ew_pk R C pn n → post 0) : ∀ m r, r + m = R + 1 → r ≤ R → (∀ q, q < r → ∀ c, c < C → pn (q * 4 + c) = 2 ∨ pn (q * 4 + c) = nI (ew_dg R C n (q * C + c))) → wY_pinsKept_2 post (nI n) d (nI R) (nI C) st lc ln pn m (nI r) := by
  intro m
  induction m with
  | zero => intro i a b; omega
  | succ m ih =>
    intro r a b hI
    refine pk_le R r (fun z => ?_) (fun z => ?_)
    · have e : r = R := by omega
      subst e
      exact h1 hI
    · exact ⟨C + 1, ew_ypk_in hR hC hn z (fun g => ih (r + 1) (by omega) (by omega) (lt_s hI g)) h0 (C + 1) 0 (by omega) (by omega) (fun c hc => by omega)⟩
theorem ew_ypk (hR : R ≤ 3) (hC : C ≤ 4) {n : Nat} (hn : n < 2 ^ 31) {post : Int32 → Prop} (h1 : ew_pk R C pn n → post 1) (h0 : ¬ ew_pk R C pn n → post 0) : wpY_pinsKept post (d, nI R, nI C, st, lc, ln, pn) (nI n) :=
  ⟨R + 1, ew_ypk_out hR hC hn h1 h0 (R + 1) 0 (by omega) (by omega) (fun q hq => by omega)⟩
theorem ew_yfi_l (hR : R ≤ 3) (hC : C ≤ 4) {n : Nat} (hn : n < 2 ^ 31) {post : Int32 → Prop} (h1 : ew_lk R C ln n → post 1) (h0 : ¬ ew_lk R C ln n → post 0) : ∀ m i, i + m = R + C + 1 → i ≤ R + C → (∀ line, line < i → ew_L (ln line) (2 ^ ew_len R C line + ew_ws R C n line) = true) → wY_fits_12 post (nI n) d (nI R) (nI C) st lc ln pn m (nI i) := by
  intro m
  induction m with
  | zero => intro i a b; omega
  | succ m ih =>
    intro i a b hI
    have hb : ew_len R C i ≤ 4 := by unfold ew_len; split <;> omega
    refine pk_le (R + C) i (fun z => ?_) (fun z => ?_) (hx := nI_add R C)
    · have e : i = R + C := by omega
      subst e
      exact h1 hI
    · refine ew_ywo hR hC hn z ?_
      refine ew_yll hR (by omega) ⟨vp_in_nI (by omega) (by omega), ?_⟩
      rw [nI_clamp (by omega)]
      refine ew_ho _ hb (ew_ws_lt n i) (fun g => ?_) (fun g => ?_)
      · exact br_f (by decide) (nm_r (nI_1 i) (ih (i + 1) (by omega) (by omega) (lt_s hI g)))
      · exact br_t rfl (h0 (fun k => by rw [k i z] at g; exact absurd g (by decide)))
theorem ew_yfi (hR : R ≤ 3) (hC : C ≤ 4) {n : Nat} (hn : n < 2 ^ 31) {post : Int32 → Prop} (h1 : ew_pk R C pn n ∧ ew_lk R C ln n → post 1) (h0 : ¬ (ew_pk R C pn n ∧ ew_lk R C ln n) → post 0) : wpY_fits post (d, nI R, nI C, st, lc, ln, pn) (nI n) := by
  unfold wpY_fits
  dsimp only
  refine ew_ypk hR hC hn (fun g => ?_) (fun g => ?_)
  · exact br_f (by decide) ⟨R + C + 1, ew_yfi_l hR hC hn (fun k => h1 ⟨g, k⟩) (fun k => h0 (fun q => k q.2)) (R + C + 1) 0 (by omega) (by omega) (fun j hj => by omega)⟩
  · exact br_t rfl (h0 (fun q => g q.1))
theorem ew_ywk_l (hR : R ≤ 3) (hC : C ≤ 4) {line w : Nat} (hl : line < R + C) (hw : w < 16) {post : Int32 → Prop} (h1 : ew_ky R C pn line w → post 1) (h0 : ¬ ew_ky R C pn line w → post 0) : ∀ m i, i + m = ew_len R C line + 1 → i ≤ ew_len R C line → (∀ j, j < i → pn (ew_cy R line j) = 2 ∨ pn (ew_cy R line j) = nI (w / 2 ^ (ew_len R C line - 1 - j) % 2)) → wY_wordKeepsPins_3 post (nI line) (nI (ew_len R C line)) (nI w) d (nI R) (nI C) st lc ln pn m (nI i) := by
  have hb : ew_len R C line ≤ 4 := by unfold ew_len; split <;> omega
  intro m
  induction m with
  | zero => intro i a b; omega
  | succ m ih =>
    intro i a b hI
    refine pk_le (ew_len R C line) i (fun z => ?_) (fun z => ?_)
    · have e : i = ew_len R C line := by omega
      subst e
      exact h1 hI
    · have hc := ew_cy_lt hR hC hl z
      have nx : wY_wordKeepsPins_47 post (wY_wordKeepsPins_3 post (nI line) (nI (ew_len R C line)) (nI w) d (nI R) (nI C) st lc ln pn m) (nI line) (nI (ew_len R C line)) (nI w) (nI i) (pn (ew_cy R line i)) d (nI R) (nI C) st lc ln pn := by
        unfold wY_wordKeepsPins_47
        rw [ew_bitw hb z hw]
        have nx : pn (ew_cy R line i) = 2 ∨ pn (ew_cy R line i) = nI (w / 2 ^ (ew_len R C line - 1 - i) % 2) → ∀ y, y = nI i + 1 → wY_wordKeepsPins_3 post (nI line) (nI (ew_len R C line)) (nI w) d (nI R) (nI C) st lc ln pn m y := by
          intro g y hy
          rw [hy, nI_1]
          exact ih (i + 1) (by omega) (by omega) (lt_s hI g)
        refine br_c (fun g => nx (Or.inl g)) (fun g => br_c (fun g2 => nx (Or.inr g2)) (fun g2 => h0 (fun k => ?_)))
        exact (k i z).elim g g2
      refine pk_le R line (fun y => ?_) (fun y => ?_)
      · have e4 : nI i * 4 + nI line - nI R = nI (ew_cy R line i) := by
          show nI i * nI 4 + nI line - nI R = _
          rw [pk_mul, nI_add, pk_sub (by omega)]
          unfold ew_cy
          rw [if_neg (by omega)]
          exact congrArg nI (by omega)
        rw [e4, nI_clamp (by omega)]
        exact ⟨vp_in_nI (by omega) (by omega), nx⟩
      · have e4 : nI line * 4 + nI i = nI (ew_cy R line i) := by
          show nI line * nI 4 + nI i = _
          rw [pk_mul, nI_add]
          unfold ew_cy
          rw [if_pos y]
        rw [e4, nI_clamp (by omega)]
        exact ⟨vp_in_nI (by omega) (by omega), nx⟩
theorem ew_ywk (hR : R ≤ 3) (hC : C ≤ 4) {line w : Nat} (hl : line < R + C) (hw : w < 16) {post : Int32 → Prop} (h1 : ew_ky R C pn line w → post 1) (h0 : ¬ ew_ky R C pn line w → post 0) : wpY_wordKeepsPins post (d, nI R, nI C, st, lc, ln, pn) (nI line) (nI (ew_len R C line)) (nI w) :=
  ⟨ew_len R C line + 1, ew_ywk_l hR hC hl hw h1 h0 (ew_len R C line + 1) 0 (by omega) (by omega) (fun j hj => by omega)⟩
end
/-! both sides' pins and lines say the same -/
def ew_pins (R C : Nat) (PX pn : Nat → Int32) : Prop := ∀ r, r < R → ∀ c, c < C → PX (r * C + c) = pn (r * 4 + c)
theorem ew_pc {PX pn : Nat → Int32} (hp : ew_pins R C PX pn) {line i : Nat} (hl : line < R + C) (hi : i < ew_len R C line) : PX (ew_cell R C line i) = pn (ew_cy R line i) := by
  unfold ew_len at hi
  unfold ew_cell ew_cy
  by_cases h : line < R
  · rw [if_pos h] at hi
    rw [if_pos h, if_pos h]
    exact hp line h i hi
  · rw [if_neg h] at hi
    rw [if_neg h, if_neg h]
    exact hp i hi (line - R) (by omega)
theorem ew_kxy {PX pn : Nat → Int32} (hp : ew_pins R C PX pn) {line w : Nat} (hl : line < R + C) : ew_kx R C PX line w ↔ ew_ky R C pn line w := by
  unfold ew_kx ew_ky
  constructor
  · intro h i hi
    rw [← ew_pc hp hl hi]
    exact h i hi
  · intro h i hi
    rw [ew_pc hp hl hi]
    exact h i hi
theorem ew_lb (hR1 : 1 ≤ R) (hR : R ≤ 3) (hC1 : 1 ≤ C) (hC : C ≤ 4) {LL ln : Nat → Int32} (hL : ∀ i, i < 7 → ew_Lg (LL i) (ln i)) {line w : Nat} (hl : line < R + C) (hw : w < 2 ^ ew_len R C line) : bt (LL line) (2 ^ ew_len R C line + w) = ew_L (ln line) (2 ^ ew_len R C line + w) := by
  have h16 := ew_p16 (ew_len_in hR1 hR hC1 hC line).2
  have hp := Nat.two_pow_pos (ew_len R C line)
  exact hL line (by omega) _ (by omega) (by omega)
theorem ew_fxy (hR1 : 1 ≤ R) (hR : R ≤ 3) (hC1 : 1 ≤ C) (hC : C ≤ 4) {LL ln PX pn : Nat → Int32} (hL : ∀ i, i < 7 → ew_Lg (LL i) (ln i)) (hp : ew_pins R C PX pn) (n : Nat) : ew_fx R C LL PX n ↔ (ew_pk R C pn n ∧ ew_lk R C ln n) := by
  have hd : ∀ line i, i < ew_len R C line → ew_ws R C n line / 2 ^ (ew_len R C line - 1 - i) % 2 = ew_dg R C n (ew_cell R C line i) := fun line i hi => ew_wd_dg (g := fun i => ew_dg R C n (ew_cell R C line i)) (fun i => ew_dg_lt R C n _) (ew_len R C line) i hi
  constructor
  · intro h
    refine ⟨fun r hr c hc => ?_, fun line hl => ?_⟩
    · have hi : c < ew_len R C r := by unfold ew_len; rw [if_pos hr]; exact hc
      have := (h r (by omega)).1 c hi
      rw [hd r c hi] at this
      unfold ew_cell at this
      rw [if_pos hr, hp r hr c hc] at this
      exact this
    · rw [← ew_lb hR1 hR hC1 hC hL hl (ew_ws_lt n line)]
      exact (h line hl).2
  · intro ⟨h1, h2⟩ line hl
    refine ⟨fun i hi => ?_, ?_⟩
    · rw [hd line i hi]
      have hi' : i < if line < R then C else R := hi
      unfold ew_cell
      by_cases h : line < R
      · rw [if_pos h] at hi'
        rw [if_pos h, hp line h i hi']
        exact h1 line h i hi'
      · rw [if_neg h] at hi'
        rw [if_neg h, hp i hi' (line - R) (by omega)]
        exact h1 i hi' (line - R) (by omega)
    · rw [ew_lb hR1 hR hC1 hC hL hl (ew_ws_lt n line)]
      exact h2 line hl
end
