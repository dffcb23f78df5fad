/-! the small methods, each with a general post -/
theorem kh_ix (x : Int32) {n : Nat} (hn : n < 2 ^ 31) : (x < 0 ∨ nI n ≤ x) ∨ ∃ j : Nat, j < n ∧ x = nI j := by
  rcases pk_ix x hn with h | h | h
  · exact Or.inl (Or.inl h)
  · exact Or.inl (Or.inr h)
  · exact Or.inr h
theorem kx_varN {post : Int32 → Prop} {v : Int32} (h : v < 0 ∨ nI 8 ≤ v) (hp : post 0) : wpX_isVariable post v := by
  unfold wpX_isVariable
  by_cases h0 : v < 0
  · exact br_t h0 hp
  · exact br_f h0 (br_t (h.resolve_left h0) hp)
theorem kx_varY {post : Int32 → Prop} {j : Nat} (hj : j < 8) (hp : post 1) : wpX_isVariable post (nI j) := by
  unfold wpX_isVariable
  exact br_f (nI_pos (by omega)) (br_f (nI_ge (b := 8) hj (by decide)) hp)
theorem ky_varN {post : Int32 → Prop} {u : SY} {v : Int32} (h : v < 0 ∨ nI 8 ≤ v) (hp : post 0) : wpY_var post u v := by
  obtain ⟨f, a1, a2, a3, a4, a5, a6⟩ := u
  unfold wpY_var
  by_cases h0 : v < 0
  · exact br_t h0 hp
  · exact br_f h0 (br_t (h.resolve_left h0) hp)
theorem ky_varY {post : Int32 → Prop} {u : SY} {j : Nat} (hj : j < 8) (hp : post 1) : wpY_var post u (nI j) := by
  obtain ⟨f, a1, a2, a3, a4, a5, a6⟩ := u
  unfold wpY_var
  exact br_f (nI_pos (by omega)) (br_f (nI_ge (b := 8) hj (by decide)) hp)
theorem kx_lkN {post : Int32 → Prop} {v : Int32} (h : v < 0 ∨ nI 2 ≤ v) (hp : post 0) : wpX_isLink post v := by
  unfold wpX_isLink
  by_cases h0 : v < 0
  · exact br_t h0 hp
  · exact br_f h0 (br_t (h.resolve_left h0) hp)
theorem kx_lkY {post : Int32 → Prop} {j : Nat} (hj : j < 2) (hp : post 1) : wpX_isLink post (nI j) := by
  unfold wpX_isLink
  exact br_f (nI_pos (by omega)) (br_f (nI_ge (b := 2) hj (by decide)) hp)
theorem kh_k0 {v : Int32} (h : v < 0 ∨ nI 2 ≤ v) : ¬ v = 0 := by
  intro e
  subst e
  revert h
  decide
theorem kh_k1 {v : Int32} (h : v < 0 ∨ nI 2 ≤ v) : ¬ v = 1 := by
  intro e
  subst e
  revert h
  decide
theorem kh_pl (t b : Nat) : nI t * 2 + nI b = nI (2 * t + b) := by
  show nI t * nI 2 + nI b = _
  rw [pk_mul, nI_add, Nat.mul_comm]
theorem kx_pl {post : Int32 → Prop} {t b : Nat} {y : Int32} (hy : y = nI b) (hp : post (nI (2 * t + b))) : wpX_linkPlace post (nI t) y := by
  subst hy
  unfold wpX_linkPlace
  rw [kh_pl]
  exact hp
theorem kh_10 : ¬ (1 : Int32) = 0 := by decide
theorem kh_m1 {q : Nat} (h0 : q ≠ 0) : nI q - 1 = nI (q - 1) := by
  obtain ⟨r, rfl⟩ : ∃ r, q = r + 1 := ⟨q - 1, by omega⟩
  exact nI_pred r
theorem kh_ne {t : Nat} (ht : t < 6) : ¬ nI t = (-1) := (by decide +kernel : ∀ t, t < 6 → ¬ nI t = (-1)) t ht
/-! X: slotOf, freeSlot, kindOf, faultOf -/
theorem kx_slot_loop {post : Int32 → Prop} {q : Nat} {f : Int32} {A NB LK : Nat → Int32} {s : Nat → Nat} (hq : q < 2 ^ 31) (hs : ∀ t, s t < 2 ^ 31) (H : ∀ t, t < 6 → s t = q → post (nI t)) (H' : (∀ t, t < 6 → s t ≠ q) → post (-1)) : ∀ d j : Nat, j + d = 6 → (∀ t, t < j → s t ≠ q) → wX_slotOf_8 post (nI q) f A (kh_e s) NB LK (d + 1) (nI j) := by
  intro d
  induction d with
  | zero =>
    intro j hj h
    have e : j = 6 := by omega
    subst e
    exact br_t (nI_le (a := 6) (Nat.le_refl _) (by decide)) (H' h)
  | succ d ih =>
    intro j hj h
    have e : kh_e s (nI j).toNatClampNeg = nI q ↔ s j = q := by rw [kh_at (by omega), nI_eq (hs j) hq]
    refine br_f (nI_ge (b := 6) (by omega) (by decide)) ⟨vp_in_nI (by omega) (by decide), br_c (fun z => H j (by omega) (e.mp z)) (fun z => nm_r (nI_1 j) (ih (j + 1) (by omega) ?_))⟩
    intro t ht
    rcases Nat.lt_or_ge t j with g | g
    · exact h t g
    · have e' : t = j := by omega
      rw [e']
      exact fun z' => z (e.mpr z')
theorem kx_slotN {post : Int32 → Prop} {q : Nat} {x f : Int32} {A NB LK : Nat → Int32} {s : Nat → Nat} (hx : x = nI q) (hq : q < 2 ^ 31) (hs : ∀ t, s t < 2 ^ 31) (h : q = 0 ∨ ∀ t, t < 6 → s t ≠ q) (hp : post (-1)) : wpX_slotOf post (f, A, kh_e s, NB, LK) x := by
  subst hx
  unfold wpX_slotOf
  refine br_c (fun _ => hp) (fun z => ⟨7, ?_⟩)
  have h' : ∀ t, t < 6 → s t ≠ q := by
    rcases h with h | h
    · subst h; exact absurd nI_0 z
    · exact h
  exact kx_slot_loop hq hs (fun t ht e => absurd e (h' t ht)) (fun _ => hp) 6 0 rfl (fun t ht => absurd ht (Nat.not_lt_zero t))
theorem kx_slotY {post : Int32 → Prop} {q t : Nat} {x f : Int32} {A NB LK : Nat → Int32} {s : Nat → Nat} (hx : x = nI q) (hq : q < 2 ^ 31) (hs : ∀ t, s t < 2 ^ 31) (h0 : q ≠ 0) (ht : t < 6) (he : s t = q) (un : ∀ t', t' < 6 → s t' = q → t' = t) (hp : post (nI t)) : wpX_slotOf post (f, A, kh_e s, NB, LK) x := by
  subst hx
  unfold wpX_slotOf
  refine br_f (nI_ne0 (by omega) hq) ⟨7, ?_⟩
  exact kx_slot_loop hq hs (fun t' ht' e => by rw [un t' ht' e]; exact hp) (fun h => absurd he (h t ht)) 6 0 rfl (fun t ht => absurd ht (Nat.not_lt_zero t))
theorem kx_free_loop {post : Int32 → Prop} {f : Int32} {A NB LK : Nat → Int32} {s : Nat → Nat} (hs : ∀ t, s t < 2 ^ 31) (H : ∀ t, t < 6 → s t = 0 → post (nI t)) (H' : (∀ t, t < 6 → s t ≠ 0) → post (-1)) : ∀ d j : Nat, j + d = 6 → (∀ t, t < j → s t ≠ 0) → wX_freeSlot_2 post f A (kh_e s) NB LK (d + 1) (nI j) := by
  intro d
  induction d with
  | zero =>
    intro j hj h
    have e : j = 6 := by omega
    subst e
    exact br_t (nI_le (a := 6) (Nat.le_refl _) (by decide)) (H' h)
  | succ d ih =>
    intro j hj h
    have e : kh_e s (nI j).toNatClampNeg = 0 ↔ s j = 0 := by rw [kh_at (by omega), ← nI_0, nI_eq (hs j) (by decide)]
    refine br_f (nI_ge (b := 6) (by omega) (by decide)) ⟨vp_in_nI (by omega) (by decide), br_c (fun z => H j (by omega) (e.mp z)) (fun z => nm_r (nI_1 j) (ih (j + 1) (by omega) ?_))⟩
    intro t ht
    rcases Nat.lt_or_ge t j with g | g
    · exact h t g
    · have e' : t = j := by omega
      rw [e']
      exact fun z' => z (e.mpr z')
theorem kx_free {post : Int32 → Prop} {f : Int32} {A NB LK : Nat → Int32} {s : Nat → Nat} (hs : ∀ t, s t < 2 ^ 31) (H : ∀ t, t < 6 → s t = 0 → post (nI t)) (H' : (∀ t, t < 6 → s t ≠ 0) → post (-1)) : wpX_freeSlot post (f, A, kh_e s, NB, LK) := by
  unfold wpX_freeSlot
  exact ⟨7, kx_free_loop hs H H' 6 0 rfl (fun t ht => absurd ht (Nat.not_lt_zero t))⟩
theorem kx_kind0 {post : Int32 → Prop} {u : SX} {x : Int32} (hx : x = nI 0) (hp : post 0) : wpX_kindOf post u x := by
  obtain ⟨f, a1, a2, a3, a4⟩ := u
  subst hx
  unfold wpX_kindOf
  exact br_t nI_0 hp
theorem kx_kind2 {post : Int32 → Prop} {q : Nat} {x f : Int32} {A NB LK : Nat → Int32} {s : Nat → Nat} (hx : x = nI q) (hq : q < 2 ^ 31) (hs : ∀ t, s t < 2 ^ 31) (h0 : q ≠ 0) (h : ∀ t, t < 6 → s t ≠ q) (hp : post 2) : wpX_kindOf post (f, A, kh_e s, NB, LK) x := by
  subst hx
  unfold wpX_kindOf
  exact br_f (nI_ne0 (by omega) hq) (kx_slotN rfl hq hs (Or.inr h) (br_t rfl hp))
theorem kx_kind1 {post : Int32 → Prop} {q t : Nat} {x f : Int32} {A NB LK : Nat → Int32} {s : Nat → Nat} (hx : x = nI q) (hq : q < 2 ^ 31) (hs : ∀ t, s t < 2 ^ 31) (h0 : q ≠ 0) (ht : t < 6) (he : s t = q) (un : ∀ t', t' < 6 → s t' = q → t' = t) (hp : post 1) : wpX_kindOf post (f, A, kh_e s, NB, LK) x := by
  subst hx
  unfold wpX_kindOf
  exact br_f (nI_ne0 (by omega) hq) (kx_slotY rfl hq hs h0 ht he un (br_f (kh_ne ht) hp))
theorem kx_f0 {post : Int32 → Prop} {x : Int32} (hx : x = nI 0) (hp : post (-3)) : wpX_faultOf post x := by
  subst hx
  unfold wpX_faultOf
  exact br_t nI_0 hp
theorem kx_f1 {post : Int32 → Prop} {x : Int32} {q : Nat} (hx : x = nI q) (h0 : q ≠ 0) (hq : q < 2 ^ 31) (hp : post (-4)) : wpX_faultOf post x := by
  subst hx
  unfold wpX_faultOf
  exact br_f (nI_ne0 (by omega) hq) hp
/-! Y: kind, through -/
theorem ky_kind0 {post : Int32 → Prop} {u : SY} {x : Int32} (hx : x = nI 0) (hp : post 0) : wpY_kind post u x := by
  obtain ⟨f, a1, a2, a3, a4, a5, a6⟩ := u
  subst hx
  unfold wpY_kind
  exact br_t (by decide) hp
theorem ky_kind2 {post : Int32 → Prop} {q : Nat} {x f : Int32} {V AL NM LF RT SN : Nat → Int32} (hx : x = nI q) (hq : q ≤ 512) (h0 : q ≠ 0) (ha : AL (q - 1) = 0) (hp : post 2) : wpY_kind post (f, V, AL, NM, LF, RT, SN) x := by
  subst hx
  unfold wpY_kind
  dsimp only
  rw [kh_m1 h0, nI_clamp (by omega)]
  exact br_f (nI_nle (by omega) (by omega)) (br_t (nI_le (b := 512) hq (by decide)) ⟨vp_in_nI (by omega) (by decide), br_t ha hp⟩)
theorem ky_kind1 {post : Int32 → Prop} {q : Nat} {x f : Int32} {V AL NM LF RT SN : Nat → Int32} (hx : x = nI q) (hq : q ≤ 512) (h0 : q ≠ 0) (ha : ¬ AL (q - 1) = 0) (hp : post 1) : wpY_kind post (f, V, AL, NM, LF, RT, SN) x := by
  subst hx
  unfold wpY_kind
  dsimp only
  rw [kh_m1 h0, nI_clamp (by omega)]
  exact br_f (nI_nle (by omega) (by omega)) (br_t (nI_le (b := 512) hq (by decide)) ⟨vp_in_nI (by omega) (by decide), br_f ha hp⟩)
theorem ky_thr0 {post : Int32 → Prop} {j : Nat} {f : Int32} {p : Nat → Nat} {AL NM LF RT SN : Nat → Int32} (hj : j < 8) (h0 : p j = 0) (hp : post (-3)) : wpY_through post (f, kh_e p, AL, NM, LF, RT, SN) (nI j) := by
  unfold wpY_through
  refine ⟨vp_in_nI hj (by decide), ?_⟩
  exact ky_kind0 (by rw [kh_at (by omega), h0]) (br_t rfl hp)
theorem ky_thr2 {post : Int32 → Prop} {j : Nat} {f : Int32} {p : Nat → Nat} {AL NM LF RT SN : Nat → Int32} (hj : j < 8) (hq : p j ≤ 512) (h0 : p j ≠ 0) (ha : AL (p j - 1) = 0) (hp : post (-4)) : wpY_through post (f, kh_e p, AL, NM, LF, RT, SN) (nI j) := by
  unfold wpY_through
  refine ⟨vp_in_nI hj (by decide), ?_⟩
  exact ky_kind2 (kh_at (by omega)) hq h0 ha (br_f (by decide) (br_t rfl hp))
theorem ky_thr1 {post : Int32 → Prop} {j : Nat} {f : Int32} {p : Nat → Nat} {AL NM LF RT SN : Nat → Int32} (hj : j < 8) (hq : p j ≤ 512) (h0 : p j ≠ 0) (ha : ¬ AL (p j - 1) = 0) (hp : post 0) : wpY_through post (f, kh_e p, AL, NM, LF, RT, SN) (nI j) := by
  unfold wpY_through
  refine ⟨vp_in_nI hj (by decide), ?_⟩
  exact ky_kind1 (kh_at (by omega)) hq h0 ha (br_f (by decide) (br_f (by decide) hp))
theorem kh_b0 : vp_nar .boolean 0 = 0 := rfl
theorem kh_b1 : vp_nar .boolean 1 = 1 := rfl
theorem ky_ix {p : Nat → Nat} {j : Nat} (hj : j < 8) (h0 : p j ≠ 0) : kh_e p (nI j).toNatClampNeg - 1 = nI (p j - 1) := by
  rw [kh_at (by omega), kh_m1 h0]
theorem ky_in {p : Nat → Nat} {j : Nat} (hj : j < 8) (h0 : p j ≠ 0) (hq : p j ≤ 512) : vp_in (kh_e p (nI j).toNatClampNeg - 1) 512 := by
  rw [ky_ix hj h0]
  exact vp_in_nI (by omega) (by decide)
theorem ky_cl {p : Nat → Nat} {j : Nat} (hj : j < 8) (h0 : p j ≠ 0) (hq : p j ≤ 512) : (kh_e p (nI j).toNatClampNeg - 1).toNatClampNeg = p j - 1 := by
  rw [ky_ix hj h0, nI_clamp (by omega)]
