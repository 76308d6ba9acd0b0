/-! the relation, the stack and its letters, the start -/
def ew_sum (m : Nat → Nat) : Nat → Nat
  | 0 => 0
  | k + 1 => ew_sum m k + m k
theorem ew_sum_c {m m' : Nat → Nat} : ∀ k, (∀ i, i < k → m i = m' i) → ew_sum m k = ew_sum m' k
  | 0 => fun _ => rfl
  | k + 1 => fun h => by
    show ew_sum m k + m k = ew_sum m' k + m' k
    rw [ew_sum_c k (fun i hi => h i (by omega)), h k (by omega)]
/-- rows, columns and depth; lines, stack, pins that say the same; one array of letter counts, 8 at most in sum -/
def ew_S (R C D : Nat) (LL PX SL K st ln pn : Nat → Int32) : Prop := (1 ≤ R ∧ R ≤ 3) ∧ (1 ≤ C ∧ C ≤ 4) ∧ D ≤ 6 ∧ (∀ i, i < 7 → ew_Lg (LL i) (ln i)) ∧ (∀ i, i < 6 → ew_Lg (SL i) (st i)) ∧ ew_pins R C PX pn ∧ ∃ m : Nat → Nat, (∀ i, i < 6 → K i = nI (m i)) ∧ ew_sum m D ≤ 8
def i_Rel (_ : Nat) (u : SX) (v : SY) : Prop := ∃ (R C D : Nat) (LL PX SL K st ln pn : Nat → Int32), u = (nI R, nI C, nI D, LL, PX, SL, K) ∧ v = (nI D, nI R, nI C, st, K, ln, pn) ∧ ew_S R C D LL PX SL K st ln pn
theorem i_up {k : Nat} {u : SX} {v : SY} (h : i_Rel k u v) : i_Rel (k + 4) u v := h
section
variable {R C D : Nat} {LL PX SL K st ln pn : Nat → Int32}
theorem ew_mk {k : Nat} (h : ew_S R C D LL PX SL K st ln pn) : i_Rel k (nI R, nI C, nI D, LL, PX, SL, K) (nI D, nI R, nI C, st, K, ln, pn) := ⟨R, C, D, LL, PX, SL, K, st, ln, pn, rfl, rfl, h⟩
theorem ew_S_push (h : ew_S R C D LL PX SL K st ln pn) (hD : D < 6) {x y : Int32} (hx : ew_Lg x y) {c : Nat} (hc : ∀ m : Nat → Nat, (∀ i, i < 6 → K i = nI (m i)) → ew_sum m D ≤ 8 → ew_sum m D + c ≤ 8) : ew_S R C (D + 1) LL PX (upd SL D x) (upd K D (nI c)) (upd st D y) ln pn := by
  obtain ⟨h1, h2, h3, h4, h5, h6, m, h7, h8⟩ := h
  refine ⟨h1, h2, by omega, h4, fun i hi => ?_, h6, fun i => if i = D then c else m i, fun i hi => ?_, ?_⟩
  · by_cases e : i = D
    · subst e; rw [pk_us, pk_us]; exact hx
    · rw [pk_un e, pk_un e]; exact h5 i hi
  · by_cases e : i = D
    · subst e; rw [pk_us]; dsimp only; rw [if_pos rfl]
    · rw [pk_un e]; dsimp only; rw [if_neg e]; exact h7 i hi
  · show ew_sum (fun i => if i = D then c else m i) D + (if D = D then c else m D) ≤ 8
    rw [if_pos rfl, ew_sum_c (m' := m) D (fun i hi => if_neg (by omega))]
    exact hc m h7 h8
theorem ew_S_top (h : ew_S R C D LL PX SL K st ln pn) {E : Nat} {x y : Int32} (hx : ew_Lg x y) : ew_S R C D LL PX (upd SL E x) K (upd st E y) ln pn := by
  obtain ⟨h1, h2, h3, h4, h5, h6, h7⟩ := h
  refine ⟨h1, h2, h3, h4, fun i hi => ?_, h6, h7⟩
  by_cases e : i = E
  · subst e; rw [pk_us, pk_us]; exact hx
  · rw [pk_un e, pk_un e]; exact h5 i hi
theorem ew_S_pair {E : Nat} (h : ew_S R C (E + 2) LL PX SL K st ln pn) {x y : Int32} (hx : ew_Lg x y) : ew_S R C (E + 1) LL PX (upd SL E x) (upd K E (K E + K (E + 1))) (upd st E y) ln pn := by
  obtain ⟨h1, h2, h3, h4, h5, h6, m, h7, h8⟩ := h
  refine ⟨h1, h2, by omega, h4, fun i hi => ?_, h6, fun i => if i = E then m E + m (E + 1) else m i, fun i hi => ?_, ?_⟩
  · by_cases e : i = E
    · subst e; rw [pk_us, pk_us]; exact hx
    · rw [pk_un e, pk_un e]; exact h5 i hi
  · by_cases e : i = E
    · subst e; rw [pk_us]; dsimp only; rw [if_pos rfl, h7 i (by omega), h7 (i + 1) (by omega), nI_add]
    · rw [pk_un e]; dsimp only; rw [if_neg e]; exact h7 i hi
  · show ew_sum (fun i => if i = E then m E + m (E + 1) else m i) E + (if E = E then m E + m (E + 1) else m E) ≤ 8
    rw [if_pos rfl, ew_sum_c (m' := m) E (fun i hi => if_neg (by omega))]
    have : ew_sum m E + m E + m (E + 1) ≤ 8 := h8
    omega
theorem ew_S_pop (h : ew_S R C (D + 1) LL PX SL K st ln pn) {line : Nat} (hl : line < 7) : ew_S R C D (upd LL line (SL D)) PX SL K st (upd ln line (st D)) pn := by
  obtain ⟨h1, h2, h3, h4, h5, h6, m, h7, h8⟩ := h
  refine ⟨h1, h2, by omega, fun i hi => ?_, h5, h6, m, h7, ?_⟩
  · by_cases e : i = line
    · subst e; rw [pk_us, pk_us]; exact h5 D (by omega)
    · rw [pk_un e, pk_un e]; exact h4 i hi
  · have : ew_sum m D + m D ≤ 8 := h8
    omega
theorem ew_S_free (h : ew_S R C D LL PX SL K st ln pn) {line : Nat} : ew_S R C D (upd LL line (-2)) PX SL K st (upd ln line 2147483647) pn := by
  obtain ⟨h1, h2, h3, h4, h5⟩ := h
  refine ⟨h1, h2, h3, fun i hi => ?_, h5⟩
  by_cases e : i = line
  · subst e; rw [pk_us, pk_us]; exact ew_Lg_all
  · rw [pk_un e, pk_un e]; exact h4 i hi
theorem ew_rc_inj {C r c r' c' : Nat} (h1 : c < C) (h2 : c' < C) (h : r * C + c = r' * C + c') : r = r' ∧ c = c' := by
  have hp : 0 < C := by omega
  have a : (r * C + c) / C = r := by rw [Nat.mul_comm, Nat.mul_add_div hp, Nat.div_eq_of_lt h1]; rfl
  have b : (r' * C + c') / C = r' := by rw [Nat.mul_comm, Nat.mul_add_div hp, Nat.div_eq_of_lt h2]; rfl
  have e : r = r' := by rw [← a, ← b, h]
  subst e
  exact ⟨rfl, by omega⟩
theorem ew_S_pin (h : ew_S R C D LL PX SL K st ln pn) {p q : Nat} (hp : p < R) (hq : q < C) (x : Int32) : ew_S R C D LL (upd PX (p * C + q) x) SL K st ln (upd pn (p * 4 + q) x) := by
  obtain ⟨h1, h2, h3, h4, h5, h6, h7⟩ := h
  refine ⟨h1, h2, h3, h4, h5, fun r hr c hc => ?_, h7⟩
  by_cases e : r = p ∧ c = q
  · obtain ⟨rfl, rfl⟩ := e
    rw [pk_us, pk_us]
  · rw [pk_un (fun k => e (ew_rc_inj hc hq k)), pk_un (fun k => e ⟨by omega, by omega⟩)]
    exact h6 r hr c hc
theorem ew_xle {r c : Int32} {m : Nat → Nat} (hD : D ≤ 6) (hm : ∀ i, i < 6 → K i = nI (m i)) {post : Int32 → Prop} (h : post (nI (ew_sum m D))) : wpX_letters post (r, c, nI D, LL, PX, SL, K) := by
  have : ∀ n i, i + n = D + 1 → i ≤ D → wX_letters_4 post r c (nI D) LL PX SL K n (nI (ew_sum m i)) (nI i) := by
    intro n
    induction n with
    | zero => intro i a b; omega
    | succ n ih =>
      intro i a b
      refine pk_le D i (fun z => ?_) (fun z => ⟨vp_in_nI (by omega) (by omega), ?_⟩)
      · rw [show i = D by omega]; exact h
      · refine nm_r (e' := nI (ew_sum m (i + 1))) ?_ (nm_r (nI_1 i) (ih (i + 1) (by omega) (by omega)))
        rw [nI_clamp (by omega), hm i (by omega), nI_add]
        rfl
  exact ⟨D + 1, this (D + 1) 0 (by omega) (by omega)⟩
theorem ew_yle {r c : Int32} {m : Nat → Nat} (hD : D ≤ 6) (hm : ∀ i, i < 6 → K i = nI (m i)) {post : Int32 → Prop} (h : post (nI (ew_sum m D))) : wpY_letters post (nI D, r, c, st, K, ln, pn) := by
  have : ∀ n i, i + n = D + 1 → i ≤ D → wY_letters_4 post (nI D) r c st K ln pn n (nI (ew_sum m i)) (nI i) := by
    intro n
    induction n with
    | zero => intro i a b; omega
    | succ n ih =>
      intro i a b
      refine pk_le D i (fun z => ?_) (fun z => ⟨vp_in_nI (by omega) (by omega), ?_⟩)
      · rw [show i = D by omega]; exact h
      · refine nm_r (e' := nI (ew_sum m (i + 1))) ?_ (nm_r (nI_1 i) (ih (i + 1) (by omega) (by omega)))
        rw [nI_clamp (by omega), hm i (by omega), nI_add]
        rfl
  exact ⟨D + 1, this (D + 1) 0 (by omega) (by omega)⟩
theorem ew_xpu {r c : Int32} (hD : D < 6) {x : Int32} {q : Int32} {post : Int32 → SX → Prop} (h : post (nI (D + 1)) (r, c, nI (D + 1), LL, PX, upd SL D x, upd K D q)) : wpX_push post (r, c, nI D, LL, PX, SL, K) x q := by
  unfold wpX_push
  dsimp only
  rw [nI_clamp (by omega)]
  exact ⟨vp_in_nI hD (by omega), nm_e ⟨vp_in_nI hD (by omega), nm_e (nm_r (nI_1 D) h)⟩⟩
theorem ew_ypu {r c : Int32} (hD : D < 6) {x : Int32} {q : Int32} {post : Int32 → SY → Prop} (h : post (nI (D + 1)) (nI (D + 1), r, c, upd st D x, upd K D q, ln, pn)) : wpY_push post (nI D, r, c, st, K, ln, pn) x q := by
  unfold wpY_push
  dsimp only
  rw [nI_clamp (by omega)]
  exact ⟨vp_in_nI hD (by omega), nm_e ⟨vp_in_nI hD (by omega), nm_e (nm_r (nI_1 D) h)⟩⟩
theorem ew_m1 (E : Nat) : nI (E + 1) - 1 = nI E := nI_pred E
theorem ew_m2 (E : Nat) : nI (E + 2) - 2 = nI E := pk_sub (b := 2) (by omega)
theorem ew_m21 (E : Nat) : nI (E + 2) - 1 = nI (E + 1) := nI_pred (E + 1)
theorem ew_xrt {E : Nat} {r c : Int32} (hE : E + 2 ≤ 6) {x : Int32} {post : Int32 → SX → Prop} (h : post (nI (E + 1)) (r, c, nI (E + 1), LL, PX, upd SL E x, upd K E (K E + K (E + 1)))) : wpX_replaceTopTwo post (r, c, nI (E + 2), LL, PX, SL, K) x := by
  unfold wpX_replaceTopTwo
  dsimp only
  refine nm_r (ew_m21 E) ?_
  rw [ew_m1, nI_clamp (by omega), nI_clamp (by omega)]
  have v0 : vp_in (nI E) 6 := vp_in_nI (by omega) (by omega)
  have v1 : vp_in (nI (E + 1)) 6 := vp_in_nI (by omega) (by omega)
  exact ⟨v0, nm_e ⟨v0, v1, v0, nm_e h⟩⟩
theorem ew_ypa {E : Nat} {r c : Int32} (hE : E + 2 ≤ 6) {x : Int32} {post : Int32 → SY → Prop} (h : post (nI (E + 1)) (nI (E + 1), r, c, upd st E x, upd K E (K E + K (E + 1)), ln, pn)) : wpY_pair post (nI (E + 2), r, c, st, K, ln, pn) x := by
  unfold wpY_pair
  dsimp only
  rw [ew_m21, ew_m2, nI_clamp (by omega), nI_clamp (by omega)]
  have v0 : vp_in (nI E) 6 := vp_in_nI (by omega) (by omega)
  have v1 : vp_in (nI (E + 1)) 6 := vp_in_nI (by omega) (by omega)
  exact ⟨v0, nm_e ⟨v0, v1, v0, nm_e (nm_e h)⟩⟩
end
/-! the start -/
theorem ew_x83 {r c s : Int32} {LL SL SK : Nat → Int32} {post : SX → Prop} (h : ∀ PX, (∀ j, j < 12 → PX j = 2) → post (r, c, s, LL, PX, SL, SK)) : ∀ n i PX, i + n = 13 → i ≤ 12 → (∀ j, j < i → PX j = 2) → wX_init_83 post r c s n (nI i) LL PX SL SK := by
  intro n
  induction n with
  | zero => intro i PX a b; omega
  | succ n ih =>
    intro i PX a b hI
    refine pk_le 12 i (fun z => ?_) (fun z => ⟨vp_in_nI z (by omega), ?_⟩)
    · have e : i = 12 := by omega
      subst e
      exact h PX hI
    · rw [nI_clamp (by omega)]
      refine nm_e (nm_r (nI_1 i) (ih (i + 1) _ (by omega) (by omega) (lt_s (fun j hj => ?_) pk_us)))
      rw [pk_un (by omega)]; exact hI j hj
theorem ew_x61 {r c s : Int32} {PX SL SK : Nat → Int32} {post : SX → Prop} (h : ∀ LL PX, (∀ j, j < 7 → LL j = -2) → (∀ j, j < 12 → PX j = 2) → post (r, c, s, LL, PX, SL, SK)) : ∀ n i LL, i + n = 8 → i ≤ 7 → (∀ j, j < i → LL j = -2) → wX_init_61 post r c s n (nI i) LL PX SL SK := by
  intro n
  induction n with
  | zero => intro i LL a b; omega
  | succ n ih =>
    intro i LL a b hI
    refine pk_le 7 i (fun z => ?_) (fun z => ⟨vp_in_nI z (by omega), ?_⟩)
    · have e : i = 7 := by omega
      subst e
      exact ⟨13, ew_x83 (fun PX hP => h LL PX hI hP) 13 0 PX rfl (by omega) (fun j hj => by omega)⟩
    · rw [nI_clamp (by omega)]
      refine nm_e (nm_r (nI_1 i) (ih (i + 1) _ (by omega) (by omega) (lt_s (fun j hj => ?_) pk_us)))
      rw [pk_un (by omega)]; exact hI j hj
theorem ew_y106 {r c s : Int32} {st lc ln : Nat → Int32} {post : SY → Prop} (h : ∀ pn, (∀ j, j < 12 → pn j = 2) → post (s, r, c, st, lc, ln, pn)) : ∀ n i pn, i + n = 13 → i ≤ 12 → (∀ j, j < i → pn j = 2) → wY_init_106 post s r c n (nI i) st lc ln pn := by
  intro n
  induction n with
  | zero => intro i PX a b; omega
  | succ n ih =>
    intro i pn a b hI
    refine pk_le 12 i (fun z => ?_) (fun z => ⟨vp_in_nI z (by omega), ?_⟩)
    · have e : i = 12 := by omega
      subst e
      exact h pn hI
    · rw [nI_clamp (by omega)]
      refine nm_e (nm_r (nI_1 i) (ih (i + 1) _ (by omega) (by omega) (lt_s (fun j hj => ?_) pk_us)))
      rw [pk_un (by omega)]; exact hI j hj
theorem ew_y84 {r c s : Int32} {st lc pn : Nat → Int32} {post : SY → Prop} (h : ∀ ln pn, (∀ j, j < 7 → ln j = 2147483647) → (∀ j, j < 12 → pn j = 2) → post (s, r, c, st, lc, ln, pn)) : ∀ n i ln, i + n = 8 → i ≤ 7 → (∀ j, j < i → ln j = 2147483647) → wY_init_84 post s r c n (nI i) st lc ln pn := by
  intro n
  induction n with
  | zero => intro i LL a b; omega
  | succ n ih =>
    intro i ln a b hI
    refine pk_le 7 i (fun z => ?_) (fun z => ⟨vp_in_nI z (by omega), ?_⟩)
    · have e : i = 7 := by omega
      subst e
      exact ⟨13, ew_y106 (fun pn hP => h ln pn hI hP) 13 0 pn rfl (by omega) (fun j hj => by omega)⟩
    · rw [nI_clamp (by omega)]
      refine nm_e (nm_r (nI_1 i) (ih (i + 1) _ (by omega) (by omega) (lt_s (fun j hj => ?_) pk_us)))
      rw [pk_un (by omega)]; exact hI j hj
theorem ew_clm (p : Int32) {M : Nat} (hM1 : 1 ≤ M) (hM : M < 2 ^ 31) : ∃ R, 1 ≤ R ∧ R ≤ M ∧ ((1 ≤ p ∧ p ≤ nI M ∧ p = nI R) ∨ (1 ≤ p ∧ ¬ p ≤ nI M ∧ R = M) ∨ (¬ 1 ≤ p ∧ R = 1)) := by
  by_cases h1 : 1 ≤ p
  · by_cases h2 : p ≤ nI M
    · obtain ⟨j, hj, rfl⟩ := nI_of (x := p) (fun k => absurd (Int32.lt_of_le_of_lt h1 k) (by decide))
      have a : 1 ≤ j := (nI_leI (a := 1) (by omega) hj).mp h1
      have b : j ≤ M := (nI_leI hj hM).mp h2
      exact ⟨j, a, b, Or.inl ⟨h1, h2, rfl⟩⟩
    · exact ⟨M, hM1, Nat.le_refl _, Or.inr (Or.inl ⟨h1, h2, rfl⟩)⟩
  · exact ⟨1, Nat.le_refl _, hM1, Or.inr (Or.inr ⟨h1, rfl⟩)⟩
theorem i_vc0 (k0 : Int32) (k1 : Int32) : wpX_init (fun u => wpY_init (fun v => i_Rel 2 u v) k0 k1) k0 k1 := by
  obtain ⟨R, r1, r2, hR⟩ := ew_clm k0 (M := 3) (by omega) (by omega)
  obtain ⟨C, c1, c2, hC⟩ := ew_clm k1 (M := 4) (by omega) (by omega)
  have fin : ∀ LL PX ln pn : Nat → Int32, (∀ j, j < 7 → LL j = -2) → (∀ j, j < 12 → PX j = 2) → (∀ j, j < 7 → ln j = 2147483647) → (∀ j, j < 12 → pn j = 2) → i_Rel 2 (nI R, nI C, 0, LL, PX, fun _ => 0, fun _ => 0) (0, nI R, nI C, fun _ => 0, fun _ => 0, ln, pn) := by
    intro LL PX ln pn h1 h2 h3 h4
    refine ⟨R, C, 0, LL, PX, fun _ => 0, fun _ => 0, fun _ => 0, ln, pn, rfl, rfl, ⟨r1, r2⟩, ⟨c1, c2⟩, by omega, fun i hi => ?_, fun i hi => ew_Lg_0, fun r hr c hc => ?_, fun _ => 0, fun _ _ => rfl, by decide⟩
    · rw [h1 i hi, h3 i hi]; exact ew_Lg_all
    · have := ew_rc hr hc
      have := ew_RC r2 c2
      rw [h2 _ (by omega), h4 _ (by omega)]
  have yin : ∀ LL PX : Nat → Int32, (∀ j, j < 7 → LL j = -2) → (∀ j, j < 12 → PX j = 2) → wpY_init (fun v => i_Rel 2 (nI R, nI C, 0, LL, PX, fun _ => 0, fun _ => 0) v) k0 k1 := by
    intro LL PX h1 h2
    have y84 : ∃ n84, wY_init_84 (fun v => i_Rel 2 (nI R, nI C, 0, LL, PX, fun _ => 0, fun _ => 0) v) 0 (nI R) (nI C) n84 0 (fun _ => 0) (fun _ => 0) (fun _ => 0) (fun _ => 0) := ⟨8, ew_y84 (fun ln pn h3 h4 => fin LL PX ln pn h1 h2 h3 h4) 8 0 _ rfl (by omega) (fun j hj => by omega)⟩
    have y56 : wY_init_56 (fun v => i_Rel 2 (nI R, nI C, 0, LL, PX, fun _ => 0, fun _ => 0) v) k1 (nI R) 0 0 0 (fun _ => 0) (fun _ => 0) (fun _ => 0) (fun _ => 0) := by
      unfold wY_init_56
      rcases hC with ⟨a, b, e⟩ | ⟨a, b, e⟩ | ⟨a, e⟩
      · refine br_t a (br_t b ?_)
        rw [← e] at y84; rw [← e]; exact y84
      · refine br_t a (br_f b ?_)
        rw [e] at y84; rw [e]; exact y84
      · refine br_f a ?_
        rw [e] at y84; rw [e]; exact y84
    unfold wpY_init
    rcases hR with ⟨a, b, e⟩ | ⟨a, b, e⟩ | ⟨a, e⟩
    · refine br_t a (br_t b ?_)
      rw [← e] at y56; rw [← e]; exact y56
    · refine br_t a (br_f b ?_)
      rw [e] at y56; rw [e]; exact y56
    · refine br_f a ?_
      rw [e] at y56; rw [e]; exact y56
  have x61 : ∃ n61, wX_init_61 (fun u => wpY_init (fun v => i_Rel 2 u v) k0 k1) (nI R) (nI C) 0 n61 0 (fun _ => 0) (fun _ => 0) (fun _ => 0) (fun _ => 0) := ⟨8, ew_x61 (fun LL PX h1 h2 => yin LL PX h1 h2) 8 0 _ rfl (by omega) (fun j hj => by omega)⟩
  have cl : ∀ (p : Int32) (M Q : Nat) (post : Int32 → Prop), ((1 ≤ p ∧ p ≤ nI M ∧ p = nI Q) ∨ (1 ≤ p ∧ ¬ p ≤ nI M ∧ Q = M) ∨ (¬ 1 ≤ p ∧ Q = 1)) → post (nI Q) → wpX_clamp post p (nI M) := by
    intro p M Q post h hp
    unfold wpX_clamp
    rcases h with ⟨a, b, e⟩ | ⟨a, b, e⟩ | ⟨a, e⟩
    · refine br_t a (br_t b ?_)
      rw [e]; exact hp
    · refine br_t a (br_f b ?_)
      rw [← e]; exact hp
    · refine br_f a ?_
      rw [e] at hp; exact hp
  unfold wpX_init
  exact cl k0 3 R _ hR (cl k1 4 C _ hC x61)
