/-! lines and cells that are there, or not -/
section
variable {R C : Nat} {D d : Int32} {LL PX SL SK st lc ln pn : Nat → Int32}
theorem ew_xh0 {x : Int32} (h : x < 0 ∨ nI (R + C) ≤ x) {post : Int32 → Prop} (hp : post 0) : wpX_hasLine post (nI R, nI C, D, LL, PX, SL, SK) x := by
  refine br_c (fun _ => hp) (fun a => br_c (fun _ => hp) (fun b => ?_))
  rw [nI_add] at b
  exact (h.elim a b).elim
theorem ew_xh1 (hR : R ≤ 3) (hC : C ≤ 4) {j : Nat} (h : j < R + C) {post : Int32 → Prop} (hp : post 1) : wpX_hasLine post (nI R, nI C, D, LL, PX, SL, SK) (nI j) := by
  refine br_f (nI_pos (by omega)) (br_f ?_ hp)
  rw [nI_add]
  exact nI_ge h (by omega)
theorem ew_yh0 {x : Int32} (h : x < 0 ∨ nI (R + C) ≤ x) {post : Int32 → Prop} (hp : post 0) : wpY_isLine post (d, nI R, nI C, st, lc, ln, pn) x := by
  refine br_c (fun _ => hp) (fun a => br_c (fun _ => hp) (fun b => ?_))
  rw [nI_add] at b
  exact (h.elim a b).elim
theorem ew_yh1 (hR : R ≤ 3) (hC : C ≤ 4) {j : Nat} (h : j < R + C) {post : Int32 → Prop} (hp : post 1) : wpY_isLine post (d, nI R, nI C, st, lc, ln, pn) (nI j) := by
  refine br_f (nI_pos (by omega)) (br_f ?_ hp)
  rw [nI_add]
  exact nI_ge h (by omega)
theorem ew_lix (hR : R ≤ 3) (hC : C ≤ 4) (x : Int32) : (x < 0 ∨ nI (R + C) ≤ x) ∨ ∃ j, j < R + C ∧ x = nI j := by
  rcases pk_ix x (n := R + C) (by omega) with a | a | a
  · exact Or.inl (Or.inl a)
  · exact Or.inl (Or.inr a)
  · exact Or.inr a
theorem ew_xc0 {x y : Int32} (h : x < 0 ∨ nI R ≤ x ∨ y < 0 ∨ nI C ≤ y) {post : Int32 → Prop} (hp : post 0) : wpX_hasCell post (nI R, nI C, D, LL, PX, SL, SK) x y :=
  br_c (fun _ => hp) (fun a => br_c (fun _ => hp) (fun b => br_c (fun _ => hp) (fun c => br_c (fun _ => hp) (fun e => (h.elim a (fun h => h.elim b (fun h => h.elim c e))).elim))))
theorem ew_xc1 (hR : R ≤ 3) (hC : C ≤ 4) {p q : Nat} (h1 : p < R) (h2 : q < C) {post : Int32 → Prop} (hp : post 1) : wpX_hasCell post (nI R, nI C, D, LL, PX, SL, SK) (nI p) (nI q) :=
  br_f (nI_pos (by omega)) (br_f (nI_ge h1 (by omega)) (br_f (nI_pos (by omega)) (br_f (nI_ge h2 (by omega)) hp)))
theorem ew_yc0 {x y : Int32} (h : x < 0 ∨ nI R ≤ x ∨ y < 0 ∨ nI C ≤ y) {post : Int32 → Prop} (hp : post 0) : wpY_isCell post (d, nI R, nI C, st, lc, ln, pn) x y :=
  br_c (fun _ => hp) (fun a => br_c (fun _ => hp) (fun b => br_c (fun _ => hp) (fun c => br_c (fun _ => hp) (fun e => (h.elim a (fun h => h.elim b (fun h => h.elim c e))).elim))))
theorem ew_yc1 (hR : R ≤ 3) (hC : C ≤ 4) {p q : Nat} (h1 : p < R) (h2 : q < C) {post : Int32 → Prop} (hp : post 1) : wpY_isCell post (d, nI R, nI C, st, lc, ln, pn) (nI p) (nI q) :=
  br_f (nI_pos (by omega)) (br_f (nI_ge h1 (by omega)) (br_f (nI_pos (by omega)) (br_f (nI_ge h2 (by omega)) hp)))
theorem ew_cix (hR : R ≤ 3) (hC : C ≤ 4) (x y : Int32) : (x < 0 ∨ nI R ≤ x ∨ y < 0 ∨ nI C ≤ y) ∨ ∃ p q, p < R ∧ q < C ∧ x = nI p ∧ y = nI q := by
  rcases pk_ix x (n := R) (by omega) with a | a | ⟨p, hp, ex⟩
  · exact Or.inl (Or.inl a)
  · exact Or.inl (Or.inr (Or.inl a))
  · rcases pk_ix y (n := C) (by omega) with a | a | ⟨q, hq, ey⟩
    · exact Or.inl (Or.inr (Or.inr (Or.inl a)))
    · exact Or.inl (Or.inr (Or.inr (Or.inr a)))
    · exact Or.inr ⟨p, q, hp, hq, ex, ey⟩
end
theorem ew_num {R C : Nat} (hR : R ≤ 3) (hC : C ≤ 4) : (1 : Int32) <<< ((nI R * nI C) &&& 31) = nI (2 ^ (R * C)) ∧ 2 ^ (R * C) ≤ 4096 := by
  have h := ew_RC hR hC
  refine ⟨by rw [pk_mul, ew_one (by omega)], (Nat.pow_le_pow_right (by decide) h : 2 ^ (R * C) ≤ 2 ^ 12)⟩
theorem ew_clle (x : Int32) {i : Nat} (hi : i < 2 ^ 31) : x ≤ nI i ↔ x.toNatClampNeg ≤ i := by
  have e : x.toNatClampNeg = x.toInt.toNat := rfl
  rw [Int32.le_iff_toInt_le, nI_toInt hi, e]
  omega
/-! what is owed -/
theorem i_vc_letter {k : Nat} {u : SX} {v : SY} (I : i_Rel k u v) (hk : k + 4 ≤ 2050) (v1 : Int32) : wpX_letter (fun r u' => wpY_letter (fun r' v' => r' = r ∧ i_Rel (k + 4) u' v') v v1) u v1 := by
  obtain ⟨R, C, D, LL, PX, SL, K, st, ln, pn, rfl, rfl, h⟩ := I
  have h' := h
  obtain ⟨⟨r1, r2⟩, ⟨c1, c2⟩, hD, hL, hS, hP, m, hm, h8⟩ := h'
  unfold wpX_letter wpY_letter
  dsimp only
  by_cases a : v1 < 0
  · exact br_t a (br_t a ⟨rfl, ew_mk h⟩)
  refine br_f a ?_
  by_cases b : v1 ≤ 2
  · refine br_t b ?_
    by_cases e : D = 6
    · subst e
      exact br_t (by decide) (br_f a (br_t b (br_t rfl ⟨rfl, ew_mk h⟩)))
    · have d6 : ¬ (6 : Int32) ≤ nI D := nI_ge (b := 6) (by omega) (by decide)
      have d6' : ¬ nI D = 6 := fun q => e ((nI_eq (b := 6) (by omega) (by omega)).mp q)
      refine br_f d6 (ew_xle hD hm ?_)
      by_cases s : ew_sum m D = 8
      · rw [s]
        refine br_f (by decide) (br_f a (br_t b (br_f d6' (ew_yle hD hm (br_t ?_ ⟨rfl, ew_mk h⟩)))))
        rw [s]; rfl
      · refine br_t (nI_lt (b := 8) (by omega) (by decide)) ?_
        have s8 : ¬ nI (ew_sum m D) = 8 := fun q => s ((nI_eq (b := 8) (by omega) (by omega)).mp q)
        have hc : ∀ m : Nat → Nat, (∀ i, i < 6 → K i = nI (m i)) → ew_sum m D ≤ 8 → ew_sum m D + 1 ≤ 8 := by
          intro m' hm' hs'
          have : ∀ j, j ≤ D → nI (ew_sum m' j) = nI (ew_sum m j) := by
            intro j
            induction j with
            | zero => intro _; rfl
            | succ j ih =>
              intro hj
              show nI (ew_sum m' j + m' j) = nI (ew_sum m j + m j)
              rw [← nI_add, ← nI_add, ih (by omega), ← hm' j (by omega), ← hm j (by omega)]
          have := (nI_eq (by omega) (by omega)).mp (this D (Nat.le_refl _))
          omega
        by_cases z0 : v1 = 0
        · exact br_t z0 (ew_xpu (by omega) (br_f a (br_t b (br_f d6' (ew_yle hD hm (br_f s8 (br_t z0 (ew_ypu (by omega) ⟨rfl, ew_mk (ew_S_push h (by omega) ew_Lg_2 hc)⟩))))))))
        · by_cases z1 : v1 = 1
          · exact br_f z0 (br_t z1 (ew_xpu (by omega) (br_f a (br_t b (br_f d6' (ew_yle hD hm (br_f s8 (br_f z0 (br_t z1 (ew_ypu (by omega) ⟨rfl, ew_mk (ew_S_push h (by omega) ew_Lg_4 hc)⟩))))))))))
          · exact br_f z0 (br_f z1 (ew_xpu (by omega) (br_f a (br_t b (br_f d6' (ew_yle hD hm (br_f s8 (br_f z0 (br_f z1 (ew_ypu (by omega) ⟨rfl, ew_mk (ew_S_push h (by omega) ew_Lg_6 hc)⟩))))))))))
  · exact br_f b (br_f a (br_f b ⟨rfl, ew_mk h⟩))
theorem i_vc_unit {k : Nat} {u : SX} {v : SY} (I : i_Rel k u v) (hk : k + 4 ≤ 2050) : wpX_unit (fun r u' => wpY_unit (fun r' v' => r' = r ∧ i_Rel (k + 4) u' v') v) u := by
  obtain ⟨R, C, D, LL, PX, SL, K, st, ln, pn, rfl, rfl, h⟩ := I
  have hD := h.2.2.1
  unfold wpX_unit wpY_unit
  dsimp only
  by_cases e : D = 6
  · subst e
    exact br_f (by decide) (br_t rfl ⟨rfl, ew_mk h⟩)
  · have d6' : ¬ nI D = 6 := fun q => e ((nI_eq (b := 6) (by omega) (by omega)).mp q)
    exact br_t (nI_lt (b := 6) (by omega) (by decide)) (ew_xpu (by omega) (br_f d6' (ew_ypu (by omega) ⟨rfl, ew_mk (ew_S_push (c := 0) h (by omega) ew_Lg_1 (fun _ _ q => q))⟩)))
theorem i_vc_cat {k : Nat} {u : SX} {v : SY} (I : i_Rel k u v) (hk : k + 4 ≤ 2050) : wpX_cat (fun r u' => wpY_cat (fun r' v' => r' = r ∧ i_Rel (k + 4) u' v') v) u := by
  obtain ⟨R, C, D, LL, PX, SL, K, st, ln, pn, rfl, rfl, h⟩ := I
  have h' := h
  obtain ⟨_, _, hD, hL, hS, _⟩ := h'
  unfold wpX_cat wpY_cat
  dsimp only
  by_cases e : D < 2
  · have d2 : ¬ (2 : Int32) ≤ nI D := nI_ge (b := 2) e (by decide)
    exact br_f d2 (br_f d2 ⟨rfl, ew_mk h⟩)
  · obtain ⟨E, rfl⟩ : ∃ E, D = E + 2 := ⟨D - 2, by omega⟩
    have d2 : (2 : Int32) ≤ nI (E + 2) := nI_le (a := 2) (by omega) (by omega)
    have v0 : vp_in (nI E) 6 := vp_in_nI (by omega) (by omega)
    have w1 : vp_in (nI (E + 1)) 6 := vp_in_nI (by omega) (by omega)
    rw [ew_m2, ew_m21, nI_clamp (n := E) (by omega), nI_clamp (n := E + 1) (by omega)]
    refine br_t d2 ⟨v0, w1, ew_join _ _ (fun r hr => ew_xrt hD ?_)⟩
    refine br_t d2 ⟨v0, w1, ew_prod _ _ (fun r' hr' => ew_ypa hD ⟨rfl, ew_mk (ew_S_pair h ?_)⟩)⟩
    intro w q1 q2
    rw [hr w q2, hr' w q1 q2]
    exact ew_Lg_G (Nat.le_refl 1) (hS E (by omega)) (hS (E + 1) (by omega)) q2
theorem i_vc_alt {k : Nat} {u : SX} {v : SY} (I : i_Rel k u v) (hk : k + 4 ≤ 2050) : wpX_alt (fun r u' => wpY_alt (fun r' v' => r' = r ∧ i_Rel (k + 4) u' v') v) u := by
  obtain ⟨R, C, D, LL, PX, SL, K, st, ln, pn, rfl, rfl, h⟩ := I
  have h' := h
  obtain ⟨_, _, hD, hL, hS, _⟩ := h'
  unfold wpX_alt wpY_alt
  dsimp only
  by_cases e : D < 2
  · have d2 : ¬ (2 : Int32) ≤ nI D := nI_ge (b := 2) e (by decide)
    exact br_f d2 (br_f d2 ⟨rfl, ew_mk h⟩)
  · obtain ⟨E, rfl⟩ : ∃ E, D = E + 2 := ⟨D - 2, by omega⟩
    have d2 : (2 : Int32) ≤ nI (E + 2) := nI_le (a := 2) (by omega) (by omega)
    have v0 : vp_in (nI E) 6 := vp_in_nI (by omega) (by omega)
    have w1 : vp_in (nI (E + 1)) 6 := vp_in_nI (by omega) (by omega)
    rw [ew_m2, ew_m21, nI_clamp (n := E) (by omega), nI_clamp (n := E + 1) (by omega)]
    refine br_t d2 ⟨v0, w1, ew_xrt hD ?_⟩
    exact br_t d2 ⟨v0, w1, ew_ypa hD ⟨rfl, ew_mk (ew_S_pair h (ew_Lg_or (hS E (by omega)) (hS (E + 1) (by omega))))⟩⟩
theorem i_vc_star {k : Nat} {u : SX} {v : SY} (I : i_Rel k u v) (hk : k + 4 ≤ 2050) : wpX_star (fun r u' => wpY_star (fun r' v' => r' = r ∧ i_Rel (k + 4) u' v') v) u := by
  obtain ⟨R, C, D, LL, PX, SL, K, st, ln, pn, rfl, rfl, h⟩ := I
  have h' := h
  obtain ⟨_, _, hD, hL, hS, _⟩ := h'
  unfold wpX_star wpY_star
  dsimp only
  by_cases e : D = 0
  · subst e
    exact br_f (by decide) (br_t rfl ⟨rfl, ew_mk h⟩)
  · obtain ⟨E, rfl⟩ : ∃ E, D = E + 1 := ⟨D - 1, by omega⟩
    have d1 : (1 : Int32) ≤ nI (E + 1) := nI_le (a := 1) (by omega) (by omega)
    have d0 : ¬ nI (E + 1) = 0 := nI_ne0 (by omega) (by omega)
    have v0 : vp_in (nI E) 6 := vp_in_nI (by omega) (by omega)
    rw [ew_m1, nI_clamp (n := E) (by omega)]
    refine br_t d1 ⟨v0, ew_rep _ (fun r hr => ⟨v0, nm_e ?_⟩)⟩
    refine br_f d0 ⟨v0, ew_ch _ (fun r' hr' => ⟨v0, nm_e ⟨rfl, ew_mk (ew_S_top h ?_)⟩⟩)⟩
    intro w q1 q2
    rw [hr w q1 q2, hr' w q1 q2]
    exact ew_st_congr (hS E (by omega)) 4 w q1 q2
theorem i_vc_reverse {k : Nat} {u : SX} {v : SY} (I : i_Rel k u v) (hk : k + 4 ≤ 2050) : wpX_reverse (fun r u' => wpY_reverse (fun r' v' => r' = r ∧ i_Rel (k + 4) u' v') v) u := by
  obtain ⟨R, C, D, LL, PX, SL, K, st, ln, pn, rfl, rfl, h⟩ := I
  have h' := h
  obtain ⟨_, _, hD, hL, hS, _⟩ := h'
  unfold wpX_reverse wpY_reverse
  dsimp only
  by_cases e : D = 0
  · subst e
    exact br_f (by decide) (br_t rfl ⟨rfl, ew_mk h⟩)
  · obtain ⟨E, rfl⟩ : ∃ E, D = E + 1 := ⟨D - 1, by omega⟩
    have d1 : (1 : Int32) ≤ nI (E + 1) := nI_le (a := 1) (by omega) (by omega)
    have d0 : ¬ nI (E + 1) = 0 := nI_ne0 (by omega) (by omega)
    have v0 : vp_in (nI E) 6 := vp_in_nI (by omega) (by omega)
    rw [ew_m1, nI_clamp (n := E) (by omega)]
    refine br_t d1 ⟨v0, ew_rev _ (fun r hr => ⟨v0, nm_e ?_⟩)⟩
    refine br_f d0 ⟨v0, ew_mi _ (fun r' hr' => ⟨v0, nm_e ⟨rfl, ew_mk (ew_S_top h ?_)⟩⟩)⟩
    intro w q1 q2
    obtain ⟨a1, a2, _⟩ := ew_rv_in w q2 q1
    rw [hr w q1 q2, hr' w q1 q2]
    exact hS E (by omega) _ a2 a1
theorem i_vc_setLine {k : Nat} {u : SX} {v : SY} (I : i_Rel k u v) (hk : k + 4 ≤ 2050) (v1 : Int32) : wpX_setLine (fun r u' => wpY_setLine (fun r' v' => r' = r ∧ i_Rel (k + 4) u' v') v v1) u v1 := by
  obtain ⟨R, C, D, LL, PX, SL, K, st, ln, pn, rfl, rfl, h⟩ := I
  have h' := h
  obtain ⟨⟨r1, r2⟩, ⟨c1, c2⟩, hD, hL, hS, _⟩ := h'
  unfold wpX_setLine wpY_setLine
  dsimp only
  rcases ew_lix r2 c2 v1 with a | ⟨j, hj, rfl⟩
  · exact ew_xh0 a (br_t rfl (ew_yh0 a (br_t rfl ⟨rfl, ew_mk h⟩)))
  · refine ew_xh1 r2 c2 hj (br_f (by decide) ?_)
    by_cases e : D = 0
    · subst e
      exact br_f (by decide) (ew_yh1 r2 c2 hj (br_f (by decide) (br_t rfl ⟨rfl, ew_mk h⟩)))
    · obtain ⟨E, rfl⟩ : ∃ E, D = E + 1 := ⟨D - 1, by omega⟩
      have d1 : (1 : Int32) ≤ nI (E + 1) := nI_le (a := 1) (by omega) (by omega)
      have d0 : ¬ nI (E + 1) = 0 := nI_ne0 (by omega) (by omega)
      have v0 : vp_in (nI E) 6 := vp_in_nI (by omega) (by omega)
      have vj : vp_in (nI j) 7 := vp_in_nI (by omega) (by omega)
      refine br_t d1 (nm_r (ew_m1 E) ⟨v0, vj, nm_e (ew_yh1 r2 c2 hj (br_f (by decide) (br_f d0 (nm_r (ew_m1 E) ⟨v0, vj, nm_e ⟨rfl, ?_⟩⟩))))⟩)
      rw [nI_clamp (n := E) (by omega), nI_clamp (n := j) (by omega)]
      exact ew_mk (ew_S_pop h (by omega))
theorem i_vc_depth {k : Nat} {u : SX} {v : SY} (I : i_Rel k u v) (hk : k + 4 ≤ 2050) : wpX_depth (fun r => wpY_depth (fun r' => r' = r ∧ i_Rel (k + 4) u v) v) u := by
  obtain ⟨R, C, D, LL, PX, SL, K, st, ln, pn, rfl, rfl, h⟩ := I
  exact ⟨rfl, ew_mk h⟩
theorem i_vc_letters {k : Nat} {u : SX} {v : SY} (I : i_Rel k u v) (hk : k + 4 ≤ 2050) : wpX_letters (fun r => wpY_letters (fun r' => r' = r ∧ i_Rel (k + 4) u v) v) u := by
  obtain ⟨R, C, D, LL, PX, SL, K, st, ln, pn, rfl, rfl, h⟩ := I
  have h' := h
  obtain ⟨⟨r1, r2⟩, ⟨c1, c2⟩, hD, hL, hS, hP, m, hm, h8⟩ := h'
  exact ew_xle hD hm (ew_yle hD hm ⟨rfl, ew_mk h⟩)
theorem i_vc_freeLine {k : Nat} {u : SX} {v : SY} (I : i_Rel k u v) (hk : k + 4 ≤ 2050) (v1 : Int32) : wpX_freeLine (fun r u' => wpY_freeLine (fun r' v' => r' = r ∧ i_Rel (k + 4) u' v') v v1) u v1 := by
  obtain ⟨R, C, D, LL, PX, SL, K, st, ln, pn, rfl, rfl, h⟩ := I
  have h' := h
  obtain ⟨⟨r1, r2⟩, ⟨c1, c2⟩, _⟩ := h'
  unfold wpX_freeLine wpY_freeLine
  dsimp only
  rcases ew_lix r2 c2 v1 with a | ⟨j, hj, rfl⟩
  · exact ew_xh0 a (br_t rfl (ew_yh0 a (br_t rfl ⟨rfl, ew_mk h⟩)))
  · have vj : vp_in (nI j) 7 := vp_in_nI (by omega) (by omega)
    refine ew_xh1 r2 c2 hj (br_f (by decide) ⟨vj, nm_e (ew_yh1 r2 c2 hj (br_f (by decide) ⟨vj, nm_e ⟨rfl, ew_mk (ew_S_free h)⟩⟩))⟩)
theorem i_vc_pin {k : Nat} {u : SX} {v : SY} (I : i_Rel k u v) (hk : k + 4 ≤ 2050) (v1 : Int32) (v2 : Int32) (v3 : Int32) : wpX_pin (fun r u' => wpY_pin (fun r' v' => r' = r ∧ i_Rel (k + 4) u' v') v v1 v2 v3) u v1 v2 v3 := by
  obtain ⟨R, C, D, LL, PX, SL, K, st, ln, pn, rfl, rfl, h⟩ := I
  have h' := h
  obtain ⟨⟨r1, r2⟩, ⟨c1, c2⟩, hD, hL, hS, hP, _⟩ := h'
  unfold wpX_pin wpY_pin
  dsimp only
  rcases ew_cix r2 c2 v1 v2 with a | ⟨p, q, hp, hq, rfl, rfl⟩
  · exact ew_xc0 a (br_t rfl (ew_yc0 a (br_t rfl ⟨rfl, ew_mk h⟩)))
  · refine ew_xc1 r2 c2 hp hq (br_f (by decide) ?_)
    by_cases a : v3 < 0
    · exact br_t a (ew_yc1 r2 c2 hp hq (br_f (by decide) (br_t a ⟨rfl, ew_mk h⟩)))
    · by_cases b : v3 ≤ 2
      · have l1 := ew_rc hp hq
        have l2 := ew_RC r2 c2
        have vx : vp_in (nI (p * C + q)) 12 := vp_in_nI (by omega) (by omega)
        have vy : vp_in (nI (p * 4 + q)) 12 := vp_in_nI (by omega) (by omega)
        have e4 : nI p * 4 + nI q = nI (p * 4 + q) := by
          show nI p * nI 4 + nI q = _
          rw [pk_mul, nI_add]
        refine br_f a (br_t b (nm_r (e' := nI (p * C + q)) (by rw [pk_mul, nI_add]) ?_))
        rw [nI_clamp (n := p * C + q) (by omega)]
        refine ⟨vx, nm_e ⟨vx, nm_e (ew_yc1 r2 c2 hp hq (br_f (by decide) (br_f a (br_t b ?_))))⟩⟩
        rw [e4, nI_clamp (n := p * 4 + q) (by omega)]
        exact ⟨vy, nm_e ⟨vy, nm_e ⟨(hP p hp q hq).symm, ew_mk (ew_S_pin h hp hq v3)⟩⟩⟩
      · exact br_f a (br_f b (ew_yc1 r2 c2 hp hq (br_f (by decide) (br_f a (br_f b ⟨rfl, ew_mk h⟩)))))
theorem i_vc_pinned {k : Nat} {u : SX} {v : SY} (I : i_Rel k u v) (hk : k + 4 ≤ 2050) (v1 : Int32) (v2 : Int32) : wpX_pinned (fun r => wpY_pinned (fun r' => r' = r ∧ i_Rel (k + 4) u v) v v1 v2) u v1 v2 := by
  obtain ⟨R, C, D, LL, PX, SL, K, st, ln, pn, rfl, rfl, h⟩ := I
  have h' := h
  obtain ⟨⟨r1, r2⟩, ⟨c1, c2⟩, hD, hL, hS, hP, _⟩ := h'
  unfold wpX_pinned wpY_pinned
  dsimp only
  rcases ew_cix r2 c2 v1 v2 with a | ⟨p, q, hp, hq, rfl, rfl⟩
  · exact ew_xc0 a (br_t rfl (ew_yc0 a (br_t rfl ⟨rfl, ew_mk h⟩)))
  · have l1 := ew_rc hp hq
    have l2 := ew_RC r2 c2
    have vx : vp_in (nI (p * C + q)) 12 := vp_in_nI (by omega) (by omega)
    have vy : vp_in (nI (p * 4 + q)) 12 := vp_in_nI (by omega) (by omega)
    have e4 : nI p * 4 + nI q = nI (p * 4 + q) := by
      show nI p * nI 4 + nI q = _
      rw [pk_mul, nI_add]
    have eC : nI p * nI C + nI q = nI (p * C + q) := by rw [pk_mul, nI_add]
    rw [eC, e4, nI_clamp (n := p * C + q) (by omega), nI_clamp (n := p * 4 + q) (by omega)]
    exact ew_xc1 r2 c2 hp hq (br_f (by decide) ⟨vx, ew_yc1 r2 c2 hp hq (br_f (by decide) ⟨vy, (hP p hp q hq).symm, ew_mk h⟩)⟩)
theorem i_vc_fillings {k : Nat} {u : SX} {v : SY} (I : i_Rel k u v) (hk : k + 4 ≤ 2050) : wpX_fillings (fun r => wpY_fillings (fun r' => r' = r ∧ i_Rel (k + 4) u v) v) u := by
  obtain ⟨R, C, D, LL, PX, SL, K, st, ln, pn, rfl, rfl, h⟩ := I
  have h' := h
  obtain ⟨⟨r1, r2⟩, ⟨c1, c2⟩, hD, hL, hS, hP, _⟩ := h'
  obtain ⟨hB, hN⟩ := ew_num r2 c2
  obtain ⟨fit, hX, hY⟩ := ew_fitE r1 r2 c1 c2 hL hP (nI D) (nI D) SL K st K hN
  unfold wpX_fillings wpX_numbers wpY_fillings
  dsimp only
  rw [hB]
  refine ew_xct hX (Nat.le_refl _) (fun i hi => nI_leI (by omega) (by omega)) ?_
  exact ⟨2 ^ (R * C) + 1, ew_yct_l hY hN hB ⟨rfl, ew_mk h⟩ (2 ^ (R * C) + 1) 0 (by omega) (Nat.zero_le _)⟩
theorem i_vc_filling {k : Nat} {u : SX} {v : SY} (I : i_Rel k u v) (hk : k + 4 ≤ 2050) (v1 : Int32) : wpX_filling (fun r => wpY_filling (fun r' => r' = r ∧ i_Rel (k + 4) u v) v v1) u v1 := by
  obtain ⟨R, C, D, LL, PX, SL, K, st, ln, pn, rfl, rfl, h⟩ := I
  have h' := h
  obtain ⟨⟨r1, r2⟩, ⟨c1, c2⟩, hD, hL, hS, hP, _⟩ := h'
  obtain ⟨hB, hN⟩ := ew_num r2 c2
  obtain ⟨fit, hX, hY⟩ := ew_fitE r1 r2 c1 c2 hL hP (nI D) (nI D) SL K st K hN
  unfold wpX_filling wpX_numbers wpY_filling
  dsimp only
  rw [hB]
  obtain ⟨res, j1, j2⟩ := ew_fil hX hY hN hB v1 (2 ^ (R * C) + 1) 0 0 (by omega) (Nat.zero_le _)
  by_cases a : 0 ≤ v1
  · exact br_t a ⟨2 ^ (R * C) + 1, j1 _ (br_t a ⟨2 ^ (R * C) + 1, j2 _ ⟨rfl, ew_mk h⟩⟩)⟩
  · exact br_f a (br_f a ⟨rfl, ew_mk h⟩)
theorem i_vc_below {k : Nat} {u : SX} {v : SY} (I : i_Rel k u v) (hk : k + 4 ≤ 2050) (v1 : Int32) : wpX_below (fun r => wpY_below (fun r' => r' = r ∧ i_Rel (k + 4) u v) v v1) u v1 := by
  obtain ⟨R, C, D, LL, PX, SL, K, st, ln, pn, rfl, rfl, h⟩ := I
  have h' := h
  obtain ⟨⟨r1, r2⟩, ⟨c1, c2⟩, hD, hL, hS, hP, _⟩ := h'
  obtain ⟨hB, hN⟩ := ew_num r2 c2
  obtain ⟨fit, hX, hY⟩ := ew_fitE r1 r2 c1 c2 hL hP (nI D) (nI D) SL K st K hN
  unfold wpX_below wpX_numbers wX_below_16 wpY_below
  dsimp only
  rw [hB]
  have hN0 := Nat.two_pow_pos (R * C)
  have yp : ∀ res : Int32, res = nI (ew_cnt fit (min v1.toNatClampNeg (2 ^ (R * C)))) → ∃ n4, wY_below_4 (fun r' => r' = res ∧ i_Rel (k + 4) (nI R, nI C, nI D, LL, PX, SL, K) (nI D, nI R, nI C, st, K, ln, pn)) v1 (nI D) (nI R) (nI C) st K ln pn n4 0 0 := by
    intro res er
    have := ew_ybe_l hY hN hB (x1 := v1) (b := v1.toNatClampNeg) (fun i hi => ew_clle v1 (by omega)) (post := fun r' => r' = res ∧ i_Rel (k + 4) (nI R, nI C, nI D, LL, PX, SL, K) (nI D, nI R, nI C, st, K, ln, pn)) ⟨er.symm, ew_mk h⟩ (2 ^ (R * C) + 1) 0 (by omega) (Nat.zero_le _)
    rw [Nat.min_zero] at this
    exact ⟨_, this⟩
  by_cases a : nI (2 ^ (R * C)) ≤ v1
  · refine br_t a (ew_xct hX (Nat.le_refl _) (fun i hi => nI_leI (by omega) (by omega)) (yp _ ?_))
    have hb : 2 ^ (R * C) ≤ v1.toNatClampNeg := by
      have e : v1.toNatClampNeg = v1.toInt.toNat := rfl
      rw [Int32.le_iff_toInt_le, nI_toInt (by omega)] at a
      omega
    rw [show min v1.toNatClampNeg (2 ^ (R * C)) = 2 ^ (R * C) from Nat.min_eq_right hb]
  · have hb : v1.toNatClampNeg ≤ 2 ^ (R * C) := by
      have e : v1.toNatClampNeg = v1.toInt.toNat := rfl
      rw [Int32.le_iff_toInt_le, nI_toInt (by omega)] at a
      omega
    refine br_f a (ew_xct hX hb (fun i hi => ew_clle v1 (by omega)) (yp _ ?_))
    rw [show min v1.toNatClampNeg (2 ^ (R * C)) = v1.toNatClampNeg from Nat.min_eq_left hb]
theorem i_vc_forced {k : Nat} {u : SX} {v : SY} (I : i_Rel k u v) (hk : k + 4 ≤ 2050) (v1 : Int32) (v2 : Int32) : wpX_forced (fun r => wpY_forced (fun r' => r' = r ∧ i_Rel (k + 4) u v) v v1 v2) u v1 v2 := by
  obtain ⟨R, C, D, LL, PX, SL, K, st, ln, pn, rfl, rfl, h⟩ := I
  have h' := h
  obtain ⟨⟨r1, r2⟩, ⟨c1, c2⟩, hD, hL, hS, hP, _⟩ := h'
  obtain ⟨hB, hN⟩ := ew_num r2 c2
  obtain ⟨fit, hX, hY⟩ := ew_fitE r1 r2 c1 c2 hL hP (nI D) (nI D) SL K st K hN
  unfold wpX_forced wpX_numbers wpY_forced
  dsimp only
  rw [hB]
  rcases ew_cix r2 c2 v1 v2 with a | ⟨p, q, hp, hq, rfl, rfl⟩
  · exact ew_xc0 a (br_t rfl (ew_yc0 a (br_t rfl ⟨rfl, ew_mk h⟩)))
  · obtain ⟨res, j1, j2⟩ := ew_for r2 c2 hN hX hY hB hp hq (2 ^ (R * C) + 1) 0 false false rfl (by omega) (Nat.zero_le _)
    refine ew_xc1 r2 c2 hp hq (br_f (by decide) (nm_r (e' := nI (p * C + q)) (by rw [pk_mul, nI_add]) ⟨2 ^ (R * C) + 1, j1 _ ?_⟩))
    exact ew_yc1 r2 c2 hp hq (br_f (by decide) ⟨2 ^ (R * C) + 1, j2 _ ⟨rfl, ew_mk h⟩⟩)
theorem i_vc_lineWords {k : Nat} {u : SX} {v : SY} (I : i_Rel k u v) (hk : k + 4 ≤ 2050) (v1 : Int32) : wpX_lineWords (fun r => wpY_lineWords (fun r' => r' = r ∧ i_Rel (k + 4) u v) v v1) u v1 := by
  obtain ⟨R, C, D, LL, PX, SL, K, st, ln, pn, rfl, rfl, h⟩ := I
  have h' := h
  obtain ⟨⟨r1, r2⟩, ⟨c1, c2⟩, hD, hL, hS, hP, _⟩ := h'
  unfold wpX_lineWords wpY_lineWords
  dsimp only
  rcases ew_lix r2 c2 v1 with a | ⟨j, hj, rfl⟩
  · exact ew_xh0 a (br_t rfl (ew_yh0 a (br_t rfl ⟨rfl, ew_mk h⟩)))
  · have hb := (ew_len_in r1 r2 c1 c2 j).2
    have hf : ∀ w, (@decide (ew_wf R C LL PX j w) (Classical.propDecidable _)) = true ↔ ew_wf R C LL PX j w := fun w => @decide_eq_true_iff _ (Classical.propDecidable _)
    refine ew_xh1 r2 c2 hj (br_f (by decide) (ew_xll r2 (by omega) (nm_r (ew_one (by omega)) ⟨2 ^ ew_len R C j + 1, ?_⟩)))
    refine ew_xlws_l (fit := fun w => @decide (ew_wf R C LL PX j w) (Classical.propDecidable _)) r2 c2 hj hf ?_ (2 ^ ew_len R C j + 1) 0 (by omega) (Nat.zero_le _)
    refine ew_yh1 r2 c2 hj (br_f (by decide) (ew_yll r2 (by omega) ⟨2 ^ ew_len R C j + 1, ?_⟩))
    refine ew_ylws_l (fit := fun w => @decide (ew_wf R C LL PX j w) (Classical.propDecidable _)) r2 c2 hj (fun w hw => ?_) ⟨rfl, ew_mk h⟩ (2 ^ ew_len R C j + 1) 0 (by omega) (Nat.zero_le _)
    rw [hf w]
    unfold ew_wf
    rw [ew_kxy hP hj, ew_lb r1 r2 c1 c2 hL hj hw]
    exact And.comm
