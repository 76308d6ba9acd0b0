/-! the loops over numbers and words -/
def ew_cnt (fit : Nat → Bool) : Nat → Nat
  | 0 => 0
  | k + 1 => if fit k = true then ew_cnt fit k + 1 else ew_cnt fit k
theorem ew_cnt_1 {fit : Nat → Bool} {k : Nat} (h : fit k = true) : nI (ew_cnt fit k) + 1 = nI (ew_cnt fit (k + 1)) := by
  rw [nI_1]
  exact congrArg nI (if_pos h).symm
theorem ew_cnt_0 {fit : Nat → Bool} {k : Nat} (h : fit k = false) : ew_cnt fit (k + 1) = ew_cnt fit k := if_neg (by rw [h]; decide)
def ew_hX (fit : Nat → Bool) (N : Nat) (u : SX) : Prop := ∀ n, n < N → ∀ post : Int32 → Prop, (fit n = true → post 1) → (fit n = false → post 0) → wpX_isFilling post u (nI n)
def ew_hY (fit : Nat → Bool) (N : Nat) (v : SY) : Prop := ∀ n, n < N → ∀ post : Int32 → Prop, (fit n = true → post 1) → (fit n = false → post 0) → wpY_fits post v (nI n)
theorem ew_fitE {R C : Nat} (hR1 : 1 ≤ R) (hR : R ≤ 3) (hC1 : 1 ≤ C) (hC : C ≤ 4) {LL ln PX pn : Nat → Int32} (hL : ∀ i, i < 7 → ew_Lg (LL i) (ln i)) (hp : ew_pins R C PX pn) (D d : Int32) (SL SK st lc : Nat → Int32) {N : Nat} (hN : N ≤ 4096) : ∃ fit : Nat → Bool, ew_hX fit N (nI R, nI C, D, LL, PX, SL, SK) ∧ ew_hY fit N (d, nI R, nI C, st, lc, ln, pn) := by
  refine ⟨fun n => @decide (ew_fx R C LL PX n) (Classical.propDecidable _), fun n hn post h1 h0 => ?_, fun n hn post h1 h0 => ?_⟩
  · exact ew_xfi hR hC (by omega) (fun g => h1 (@decide_eq_true _ (Classical.propDecidable _) g)) (fun g => h0 (@decide_eq_false _ (Classical.propDecidable _) g))
  · have e := ew_fxy hR1 hR hC1 hC hL hp n
    exact ew_yfi hR hC (by omega) (fun g => h1 (@decide_eq_true _ (Classical.propDecidable _) (e.mpr g))) (fun g => h0 (@decide_eq_false _ (Classical.propDecidable _) (fun k => g (e.mp k))))
section
variable {r c D : Int32} {LL PX SL SK : Nat → Int32} {fit : Nat → Bool} {N : Nat}
theorem ew_xct_l (hX : ew_hX fit N (r, c, D, LL, PX, SL, SK)) {E : Nat} (hE : E ≤ N) {x1 : Int32} (hx : ∀ i, i ≤ E → (x1 ≤ nI i ↔ E ≤ i)) {post : Int32 → Prop} (h : post (nI (ew_cnt fit E))) : ∀ m i, i + m = E + 1 → i ≤ E → wX_countFillings_4 post x1 r c D LL PX SL SK m (nI (ew_cnt fit i)) (nI i) := by
  intro m
  induction m with
  | zero => intro i a b; omega
  | succ m ih =>
    intro i a b
    by_cases z : E ≤ i
    · refine br_t ((hx i b).mpr z) ?_
      rw [show i = E by omega]
      exact h
    · refine br_f (fun k => z ((hx i b).mp k)) (hX i (by omega) _ (fun g => ?_) (fun g => ?_))
      · exact br_f (by decide) (nm_r (ew_cnt_1 g) (nm_r (nI_1 i) (ih (i + 1) (by omega) (by omega))))
      · refine br_t rfl (nm_r (nI_1 i) ?_)
        have := ih (i + 1) (by omega) (by omega)
        rw [ew_cnt_0 g] at this
        exact this
theorem ew_xct (hX : ew_hX fit N (r, c, D, LL, PX, SL, SK)) {E : Nat} (hE : E ≤ N) {x1 : Int32} (hx : ∀ i, i ≤ E → (x1 ≤ nI i ↔ E ≤ i)) {post : Int32 → Prop} (h : post (nI (ew_cnt fit E))) : wpX_countFillings post (r, c, D, LL, PX, SL, SK) x1 :=
  ⟨E + 1, ew_xct_l hX hE hx h (E + 1) 0 (by omega) (by omega)⟩
end
section
variable {r c D : Int32} {LL PX SL SK : Nat → Int32} {d r' c' : Int32} {st lc ln pn : Nat → Int32} {fit : Nat → Bool} {N : Nat}
theorem ew_yct_l (hY : ew_hY fit N (d, r', c', st, lc, ln, pn)) (hN : N ≤ 4096) (hB : (1 : Int32) <<< ((r' * c') &&& 31) = nI N) {post : Int32 → Prop} (h : post (nI (ew_cnt fit N))) : ∀ m i, i + m = N + 1 → i ≤ N → wY_fillings_4 post d r' c' st lc ln pn m (nI (ew_cnt fit i)) (nI i) := by
  intro m
  induction m with
  | zero => intro i a b; omega
  | succ m ih =>
    intro i a b
    refine pk_le N i (fun z => ?_) (fun z => ?_) (hx := hB)
    · rw [show i = N by omega]
      exact h
    · refine hY i z _ (fun g => ?_) (fun g => ?_)
      · exact br_f (by decide) (nm_r (ew_cnt_1 g) (nm_r (nI_1 i) (ih (i + 1) (by omega) (by omega))))
      · refine br_t rfl (nm_r (nI_1 i) ?_)
        have := ih (i + 1) (by omega) (by omega)
        rw [ew_cnt_0 g] at this
        exact this
theorem ew_ybe_l (hY : ew_hY fit N (d, r', c', st, lc, ln, pn)) (hN : N ≤ 4096) (hB : (1 : Int32) <<< ((r' * c') &&& 31) = nI N) {x1 : Int32} {b : Nat} (hx : ∀ i, i < 5000 → (x1 ≤ nI i ↔ b ≤ i)) {post : Int32 → Prop} (h : post (nI (ew_cnt fit (min b N)))) : ∀ m i, i + m = N + 1 → i ≤ N → wY_below_4 post x1 d r' c' st lc ln pn m (nI (ew_cnt fit (min b i))) (nI i) := by
  intro m
  induction m with
  | zero => intro i a e; omega
  | succ m ih =>
    intro i a e
    refine pk_le N i (fun z => ?_) (fun z => ?_) (hx := hB)
    · rw [show i = N by omega]
      exact h
    · have k := ih (i + 1) (by omega) (by omega)
      by_cases y : b ≤ i
      · refine br_t ((hx i (by omega)).mpr y) (nm_r (nI_1 i) ?_)
        rw [show min b (i + 1) = min b i by omega] at k
        exact k
      · rw [show min b (i + 1) = i + 1 by omega] at k
        rw [show min b i = i by omega]
        refine br_f (fun q => y ((hx i (by omega)).mp q)) (hY i z _ (fun g => ?_) (fun g => ?_))
        · exact br_f (by decide) (nm_r (ew_cnt_1 g) (nm_r (nI_1 i) k))
        · refine br_t rfl (nm_r (nI_1 i) ?_)
          rw [ew_cnt_0 g] at k
          exact k
theorem ew_fil (hX : ew_hX fit N (r, c, D, LL, PX, SL, SK)) (hY : ew_hY fit N (d, r', c', st, lc, ln, pn)) (hN : N ≤ 4096) (hB : (1 : Int32) <<< ((r' * c') &&& 31) = nI N) (k : Int32) : ∀ m i (a : Int32), i + m = N + 1 → i ≤ N → ∃ res, (∀ post : Int32 → Prop, post res → wX_filling_16 post k (nI N) r c D LL PX SL SK m a (nI i)) ∧ (∀ post : Int32 → Prop, post res → wY_filling_10 post k d r' c' st lc ln pn m a (nI i)) := by
  intro m
  induction m with
  | zero => intro i a h1 h2; omega
  | succ m ih =>
    intro i a h1 h2
    by_cases z : N ≤ i
    · exact ⟨-4, fun post h => pk_le N i (fun _ => h) (fun y => by omega), fun post h => pk_le N i (fun _ => h) (fun y => by omega) (hx := hB)⟩
    · cases e : fit i with
      | false =>
        obtain ⟨res, j1, j2⟩ := ih (i + 1) a (by omega) (by omega)
        refine ⟨res, fun post h => pk_le N i (fun y => by omega) (fun y => ?_), fun post h => pk_le N i (fun y => by omega) (fun y => ?_) (hx := hB)⟩
        · exact hX i y _ (fun g => by rw [e] at g; exact absurd g (by decide)) (fun g => br_t rfl (nm_r (nI_1 i) (j1 post h)))
        · exact hY i y _ (fun g => by rw [e] at g; exact absurd g (by decide)) (fun g => br_t rfl (nm_r (nI_1 i) (j2 post h)))
      | true =>
        by_cases q : a = k
        · refine ⟨nI i, fun post h => pk_le N i (fun y => by omega) (fun y => ?_), fun post h => pk_le N i (fun y => by omega) (fun y => ?_) (hx := hB)⟩
          · exact hX i y _ (fun g => br_f (by decide) (br_t q h)) (fun g => by rw [e] at g; exact absurd g (by decide))
          · exact hY i y _ (fun g => br_f (by decide) (br_t q h)) (fun g => by rw [e] at g; exact absurd g (by decide))
        · obtain ⟨res, j1, j2⟩ := ih (i + 1) (a + 1) (by omega) (by omega)
          refine ⟨res, fun post h => pk_le N i (fun y => by omega) (fun y => ?_), fun post h => pk_le N i (fun y => by omega) (fun y => ?_) (hx := hB)⟩
          · exact hX i y _ (fun g => br_f (by decide) (br_f q (nm_e (nm_r (nI_1 i) (j1 post h))))) (fun g => by rw [e] at g; exact absurd g (by decide))
          · exact hY i y _ (fun g => br_f (by decide) (br_f q (nm_e (nm_r (nI_1 i) (j2 post h))))) (fun g => by rw [e] at g; exact absurd g (by decide))
end
/-! forced -/
def ew_bI (b : Bool) : Int32 := if b then 1 else 0
def ew_fd (z o : Bool) : Int32 := if z then 0 else if o then 1 else -4
def ew_fv (z o : Bool) : Int32 := if z && o then 2 else ew_fd z o
section
variable {d r' c' : Int32} {st lc ln pn : Nat → Int32}
theorem ew_f61 {post : Int32 → Prop} {J : Int32 → Int32 → Int32 → Prop} {x1 x2 x5 : Int32} (z o s : Bool) (h : J (ew_bI (z || !s)) (ew_bI (o || s)) (x5 + 1)) : wY_forced_61 post J x1 x2 (ew_bI z) (ew_bI o) x5 (ew_bI s) d r' c' st lc ln pn := by
  unfold wY_forced_61 wY_forced_73 wY_forced_78
  cases z <;> cases o <;> cases s <;> simp [ew_bI] <;> exact h
theorem ew_fend {post : Int32 → Prop} (z o : Bool) (h : post (ew_fv z o)) : ((ew_bI z = 0 → (((ew_bI o = 0 → (post (-4))) ∧ (¬ ew_bI o = 0 → (wY_forced_113 post (ew_bI z) (ew_bI o) d r' c' st lc ln pn))))) ∧ (¬ ew_bI z = 0 → (wY_forced_113 post (ew_bI z) (ew_bI o) d r' c' st lc ln pn))) := by
  unfold wY_forced_113 wY_forced_126
  cases z <;> cases o <;> simp [ew_bI] <;> exact h
theorem ew_dgB (n : Nat) (h : n < 2) : nI n = ew_bI (decide (n = 1)) := by
  have : n = 0 ∨ n = 1 := by omega
  rcases this with rfl | rfl <;> rfl
end
section
variable {R C : Nat} {D d : Int32} {LL PX SL SK st lc ln pn : Nat → Int32} {fit : Nat → Bool} {N : Nat}
theorem ew_yst (hR : R ≤ 3) (hC : C ≤ 4) (hN : N ≤ 4096) (hY : ew_hY fit N (d, nI R, nI C, st, lc, ln, pn)) (hB : (1 : Int32) <<< ((nI R * nI C) &&& 31) = nI N) {p q : Nat} (hp : p < R) (hq : q < C) {m i : Nat} (hi : i < N) (z o : Bool) {post : Int32 → Prop} (h1 : fit i = true → wY_forced_19 post (nI p) (nI q) d (nI R) (nI C) st lc ln pn m (ew_bI (z || !(decide (ew_dg R C i (p * C + q) = 1)))) (ew_bI (o || (decide (ew_dg R C i (p * C + q) = 1)))) (nI (i + 1))) (h0 : fit i = false → wY_forced_19 post (nI p) (nI q) d (nI R) (nI C) st lc ln pn m (ew_bI z) (ew_bI o) (nI (i + 1))) : wY_forced_19 post (nI p) (nI q) d (nI R) (nI C) st lc ln pn (m + 1) (ew_bI z) (ew_bI o) (nI i) := by
  refine pk_le N i (fun y => by omega) (fun y => ?_) (hx := hB)
  refine hY i y _ (fun g => ?_) (fun g => br_t rfl (nm_r (nI_1 i) (h0 g)))
  refine br_f (by decide) (ew_yco hR hC (by omega) hp hq ?_)
  have k := h1 g
  rw [ew_dgB _ (ew_dg_lt R C i (p * C + q))]
  rw [← nI_1] at k
  generalize decide (ew_dg R C i (p * C + q) = 1) = s at k ⊢
  cases s
  · exact br_f (by decide) (ew_f61 z o false k)
  · exact br_t rfl (ew_f61 z o true k)
theorem ew_y11 (hR : R ≤ 3) (hC : C ≤ 4) (hN : N ≤ 4096) (hY : ew_hY fit N (d, nI R, nI C, st, lc, ln, pn)) (hB : (1 : Int32) <<< ((nI R * nI C) &&& 31) = nI N) {p q : Nat} (hp : p < R) (hq : q < C) {post : Int32 → Prop} (h : post 2) : ∀ m i, i + m = N + 1 → i ≤ N → wY_forced_19 post (nI p) (nI q) d (nI R) (nI C) st lc ln pn m (ew_bI true) (ew_bI true) (nI i) := by
  intro m
  induction m with
  | zero => intro i a b; omega
  | succ m ih =>
    intro i a b
    by_cases z : N ≤ i
    · exact pk_le N i (fun _ => ew_fend true true h) (fun y => by omega) (hx := hB)
    · have k := ih (i + 1) (by omega) (by omega)
      exact ew_yst hR hC hN hY hB hp hq (by omega) true true (fun _ => by rw [Bool.true_or, Bool.true_or]; exact k) (fun _ => k)
theorem ew_for (hR : R ≤ 3) (hC : C ≤ 4) (hN : N ≤ 4096) (hX : ew_hX fit N (nI R, nI C, D, LL, PX, SL, SK)) (hY : ew_hY fit N (d, nI R, nI C, st, lc, ln, pn)) (hB : (1 : Int32) <<< ((nI R * nI C) &&& 31) = nI N) {p q : Nat} (hp : p < R) (hq : q < C) : ∀ m i (z o : Bool), (z && o) = false → i + m = N + 1 → i ≤ N → ∃ res, (∀ post : Int32 → Prop, post res → wX_forced_33 post (nI (p * C + q)) (nI N) (nI R) (nI C) D LL PX SL SK m (ew_fd z o) (nI i)) ∧ (∀ post : Int32 → Prop, post res → wY_forced_19 post (nI p) (nI q) d (nI R) (nI C) st lc ln pn m (ew_bI z) (ew_bI o) (nI i)) := by
  intro m
  induction m with
  | zero => intro i z o _ a b; omega
  | succ m ih =>
    intro i z o hzo a b
    by_cases y : N ≤ i
    · refine ⟨ew_fd z o, fun post h => pk_le N i (fun _ => h) (fun y => by omega), fun post h => pk_le N i (fun _ => ew_fend z o ?_) (fun y => by omega) (hx := hB)⟩
      unfold ew_fv
      rw [hzo]
      exact h
    · cases e : fit i with
      | false =>
        obtain ⟨res, j1, j2⟩ := ih (i + 1) z o hzo (by omega) (by omega)
        refine ⟨res, fun post h => pk_le N i (fun y => by omega) (fun y => ?_), fun post h => ?_⟩
        · exact hX i y _ (fun g => by rw [e] at g; exact absurd g (by decide)) (fun g => br_t rfl (nm_r (nI_1 i) (j1 post h)))
        · exact ew_yst hR hC hN hY hB hp hq (by omega) z o (fun g => by rw [e] at g; exact absurd g (by decide)) (fun _ => j2 post h)
      | true =>
        have hs := ew_dgB _ (ew_dg_lt R C i (p * C + q))
        have xs : ∀ (post : Int32 → Prop) (f : Int32), ((f = (-4) → ∀ x6 : Int32, x6 = nI i + 1 → wX_forced_33 post (nI (p * C + q)) (nI N) (nI R) (nI C) D LL PX SL SK m (ew_bI (decide (ew_dg R C i (p * C + q) = 1))) x6) ∧ (¬ f = (-4) → (f = ew_bI (decide (ew_dg R C i (p * C + q) = 1)) → ∀ x6 : Int32, x6 = nI i + 1 → wX_forced_33 post (nI (p * C + q)) (nI N) (nI R) (nI C) D LL PX SL SK m f x6) ∧ (¬ f = ew_bI (decide (ew_dg R C i (p * C + q) = 1)) → post 2))) → wX_forced_33 post (nI (p * C + q)) (nI N) (nI R) (nI C) D LL PX SL SK (m + 1) f (nI i) := by
          intro post f h
          refine pk_le N i (fun y => by omega) (fun y => ?_)
          refine hX i y _ (fun g => br_f (by decide) ?_) (fun g => by rw [e] at g; exact absurd g (by decide))
          refine ew_xla hR hC (by omega) (ew_rc hp hq) ?_
          rw [hs]
          exact h
        have ys : ∀ (post : Int32 → Prop), wY_forced_19 post (nI p) (nI q) d (nI R) (nI C) st lc ln pn m (ew_bI (z || !(decide (ew_dg R C i (p * C + q) = 1)))) (ew_bI (o || (decide (ew_dg R C i (p * C + q) = 1)))) (nI (i + 1)) → wY_forced_19 post (nI p) (nI q) d (nI R) (nI C) st lc ln pn (m + 1) (ew_bI z) (ew_bI o) (nI i) := fun post h => ew_yst hR hC hN hY hB hp hq (by omega) z o (fun _ => h) (fun g => by rw [e] at g; exact absurd g (by decide))
        generalize decide (ew_dg R C i (p * C + q) = 1) = s at xs ys
        have y2 : ∀ post : Int32 → Prop, post 2 → wY_forced_19 post (nI p) (nI q) d (nI R) (nI C) st lc ln pn m (ew_bI true) (ew_bI true) (nI (i + 1)) := fun post h => ew_y11 hR hC hN hY hB hp hq h m (i + 1) (by omega) (by omega)
        have nx : ∀ (z' o' : Bool), (z' && o') = false → ∃ res, (∀ post : Int32 → Prop, post res → wX_forced_33 post (nI (p * C + q)) (nI N) (nI R) (nI C) D LL PX SL SK m (ew_fd z' o') (nI (i + 1))) ∧ (∀ post : Int32 → Prop, post res → wY_forced_19 post (nI p) (nI q) d (nI R) (nI C) st lc ln pn m (ew_bI z') (ew_bI o') (nI (i + 1))) := fun z' o' h => ih (i + 1) z' o' h (by omega) (by omega)
        cases z <;> cases o <;> cases s
        · obtain ⟨res, j1, j2⟩ := nx true false rfl
          exact ⟨res, fun post h => xs post _ (br_t rfl (nm_r (nI_1 i) (j1 post h))), fun post h => ys post (j2 post h)⟩
        · obtain ⟨res, j1, j2⟩ := nx false true rfl
          exact ⟨res, fun post h => xs post _ (br_t rfl (nm_r (nI_1 i) (j1 post h))), fun post h => ys post (j2 post h)⟩
        · exact ⟨2, fun post h => xs post _ (br_f (by decide) (br_f (by decide) h)), fun post h => ys post (y2 post h)⟩
        · obtain ⟨res, j1, j2⟩ := nx false true rfl
          exact ⟨res, fun post h => xs post _ (br_f (by decide) (br_t rfl (nm_r (nI_1 i) (j1 post h)))), fun post h => ys post (j2 post h)⟩
        · obtain ⟨res, j1, j2⟩ := nx true false rfl
          exact ⟨res, fun post h => xs post _ (br_f (by decide) (br_t rfl (nm_r (nI_1 i) (j1 post h)))), fun post h => ys post (j2 post h)⟩
        · exact ⟨2, fun post h => xs post _ (br_f (by decide) (br_f (by decide) h)), fun post h => ys post (y2 post h)⟩
        · exact absurd hzo (by decide)
        · exact absurd hzo (by decide)
/-! lineWords -/
theorem ew_xlws_l (hR : R ≤ 3) (hC : C ≤ 4) {line : Nat} (hl : line < R + C) {post : Int32 → Prop} (hf : ∀ w, fit w = true ↔ ew_wf R C LL PX line w) (h : post (nI (ew_cnt fit (2 ^ ew_len R C line)))) : ∀ m i, i + m = 2 ^ ew_len R C line + 1 → i ≤ 2 ^ ew_len R C line → wX_lineWords_23 post (nI line) (nI (2 ^ ew_len R C line)) (nI R) (nI C) D LL PX SL SK m (nI (ew_cnt fit i)) (nI i) := by
  have hb : ew_len R C line ≤ 4 := by unfold ew_len; split <;> omega
  have h16 := ew_p16 hb
  intro m
  induction m with
  | zero => intro i a b; omega
  | succ m ih =>
    intro i a b
    refine pk_le (2 ^ ew_len R C line) i (fun z => ?_) (fun z => ?_)
    · rw [show i = 2 ^ ew_len R C line by omega]
      exact h
    · refine ew_xwf hR hC hl z (fun g => ?_) (fun g => ?_)
      · exact br_f (by decide) (nm_r (ew_cnt_1 ((hf i).mpr g)) (nm_r (nI_1 i) (ih (i + 1) (by omega) (by omega))))
      · refine br_t rfl (nm_r (nI_1 i) ?_)
        have := ih (i + 1) (by omega) (by omega)
        rw [ew_cnt_0 (ew_bf (fun k => g ((hf i).mp k)))] at this
        exact this
theorem ew_ylws_l (hR : R ≤ 3) (hC : C ≤ 4) {line : Nat} (hl : line < R + C) {post : Int32 → Prop} (hf : ∀ w, w < 2 ^ ew_len R C line → (fit w = true ↔ (ew_L (ln line) (2 ^ ew_len R C line + w) = true ∧ ew_ky R C pn line w))) (h : post (nI (ew_cnt fit (2 ^ ew_len R C line)))) : ∀ m i, i + m = 2 ^ ew_len R C line + 1 → i ≤ 2 ^ ew_len R C line → wY_lineWords_21 post (nI line) (nI (ew_len R C line)) d (nI R) (nI C) st lc ln pn m (nI (ew_cnt fit i)) (nI i) := by
  have hb : ew_len R C line ≤ 4 := by unfold ew_len; split <;> omega
  have h16 := ew_p16 hb
  intro m
  induction m with
  | zero => intro i a b; omega
  | succ m ih =>
    intro i a b
    refine pk_le (2 ^ ew_len R C line) i (fun z => ?_) (fun z => ⟨vp_in_nI (by omega) (by omega), ?_⟩) (hx := ew_one (by omega))
    · rw [show i = 2 ^ ew_len R C line by omega]
      exact h
    · have k := ih (i + 1) (by omega) (by omega)
      rw [nI_clamp (by omega)]
      have k0 : fit i = false → ∀ y, y = nI i + 1 → wY_lineWords_21 post (nI line) (nI (ew_len R C line)) d (nI R) (nI C) st lc ln pn m (nI (ew_cnt fit i)) y := by
        intro g y hy
        rw [hy, nI_1, ← ew_cnt_0 g]
        exact k
      refine ew_ho _ hb z (fun g => br_f (by decide) ?_) (fun g => br_t rfl ?_)
      · refine ew_ywk hR hC hl (by omega) (fun g2 => br_f (by decide) ?_) (fun g2 => br_t rfl ?_)
        · exact nm_r (ew_cnt_1 ((hf i z).mpr ⟨g, g2⟩)) (nm_r (nI_1 i) k)
        · exact k0 (ew_bf (fun q => g2 ((hf i z).mp q).2))
      · exact k0 (ew_bf (fun q => by rw [((hf i z).mp q).1] at g; exact absurd g (by decide)))
end
