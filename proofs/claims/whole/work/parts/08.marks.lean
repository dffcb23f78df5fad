/-! X: the marks are what is reached -/
theorem kb_one : ∀ t, t < 6 → ∀ i, i < 6 → bt ((1 : Int32) <<< (nI t &&& 31)) i = decide (i = t) := by decide +kernel
theorem kb_1 : ∀ i, i < 32 → bt 1 i = decide (i = 0) := by decide +kernel
theorem kb_mk (x : Int32) {t : Nat} (ht : t < 6) : ((x >>> (nI t &&& 31)) &&& 1) = 1 ↔ bt x t = true := by
  have e0 : bt (x >>> (nI t &&& 31)) 0 = bt x t := by
    rw [b_sshr t (by omega) x (by omega), if_pos (by omega), Nat.add_zero]
  constructor
  · intro h
    have h' : bt ((x >>> (nI t &&& 31)) &&& 1) 0 = bt 1 0 := by rw [h]
    rw [b_and, e0, kb_1 0 (by omega)] at h'
    simpa using h'
  · intro h
    refine b_ext (fun i hi => ?_)
    rw [b_and, kb_1 i hi]
    by_cases z : i = 0
    · rw [z, e0, h]; rfl
    · rw [decide_eq_false z, Bool.and_false]
theorem kx_mark {post : Int32 → Prop} {x y : Int32} {t : Nat} (hy : y = nI t) (ht : t < 6) (H1 : bt x t = true → post 1) (H0 : ¬ bt x t = true → post 0) : wpX_isMarked post x y := by
  subst hy
  unfold wpX_isMarked
  exact br_c (fun z => H1 ((kb_mk x ht).mp z)) (fun z => H0 (fun c => z ((kb_mk x ht).mpr c)))
theorem kx_add {k m q : Nat} {p s lk : Nat → Nat} {NB AL NM LF RT : Nat → Int32} {post : Int32 → Prop} {x z : Int32} (hI : kh_I k m p s lk NB AL NM LF RT) (hm : m ≤ 511) (hz : z = nI q) (hq : q ≤ m) (H : ∀ y : Int32, (∀ i, i < 6 → (bt y i = true ↔ bt x i = true ∨ (s i ≠ 0 ∧ q = s i))) → post y) : wpX_slotOf (fun r => wpX_withSlot post x r) (nI m, kh_e p, kh_e s, NB, kh_e lk) z := by
  rcases kh_case hI hq with h0 | ⟨h0, hd, ha⟩ | ⟨t, ht, he, h0, ha, un⟩
  · refine kx_slotN hz (by omega) (kh_sb hI hm) (Or.inl h0) ?_
    unfold wpX_withSlot
    refine br_t rfl (H x (fun i hi => ⟨fun h => Or.inl h, fun h => h.resolve_right (fun c => c.1 (by omega))⟩))
  · refine kx_slotN hz (by omega) (kh_sb hI hm) (Or.inr hd) ?_
    unfold wpX_withSlot
    refine br_t rfl (H x (fun i hi => ⟨fun h => Or.inl h, fun h => h.resolve_right (fun c => hd i hi c.2.symm)⟩))
  · refine kx_slotY hz (by omega) (kh_sb hI hm) h0 ht he un ?_
    unfold wpX_withSlot
    refine br_f (kh_ne ht) (H _ (fun i hi => ?_))
    rw [b_or, kb_one t ht i hi, Bool.or_eq_true, decide_eq_true_eq]
    refine ⟨fun h => ?_, fun h => ?_⟩
    · rcases h with h | h
      · exact Or.inl h
      · subst h; exact Or.inr ⟨by omega, he.symm⟩
    · rcases h with h | h
      · exact Or.inl h
      · exact Or.inr (un i hi h.2.symm)
theorem kx_vars_loop {k m : Nat} {p s lk : Nat → Nat} {NB AL NM LF RT : Nat → Int32} {post : Int32 → Prop} (hI : kh_I k m p s lk NB AL NM LF RT) (hm : m ≤ 511) (H : ∀ x : Int32, (∀ t, t < 6 → (bt x t = true ↔ kh_Root p s t)) → post x) : ∀ d j : Nat, j + d = 8 → ∀ x : Int32, (∀ t, t < 6 → (bt x t = true ↔ s t ≠ 0 ∧ ∃ i, i < j ∧ p i = s t)) → wX_slotsOfVariables_4 post (nI m) (kh_e p) (kh_e s) NB (kh_e lk) (d + 1) x (nI j) := by
  intro d
  induction d with
  | zero =>
    intro j hj x hx
    have e : j = 8 := by omega
    subst e
    exact br_t (nI_le (a := 8) (Nat.le_refl _) (by decide)) (H x hx)
  | succ d ih =>
    intro j hj x hx
    refine br_f (nI_ge (b := 8) (by omega) (by decide)) ⟨vp_in_nI (by omega) (by decide), ?_⟩
    refine kx_add hI hm (kh_at (by omega)) (hI.2.1 j) (fun y hy => nm_r (nI_1 j) (ih (j + 1) (by omega) y (fun t ht => ?_)))
    rw [hy t ht, hx t ht]
    refine ⟨fun h => ?_, fun h => ?_⟩
    · rcases h with ⟨h0, i, hi, e⟩ | ⟨h0, e⟩
      · exact ⟨h0, i, by omega, e⟩
      · exact ⟨h0, j, by omega, e⟩
    · obtain ⟨h0, i, hi, e⟩ := h
      rcases Nat.lt_or_ge i j with g | g
      · exact Or.inl ⟨h0, i, g, e⟩
      · have e' : i = j := by omega
        subst e'
        exact Or.inr ⟨h0, e⟩
theorem kx_vars {k m : Nat} {p s lk : Nat → Nat} {NB AL NM LF RT : Nat → Int32} {post : Int32 → Prop} (hI : kh_I k m p s lk NB AL NM LF RT) (hm : m ≤ 511) (H : ∀ x : Int32, (∀ t, t < 6 → (bt x t = true ↔ kh_Root p s t)) → post x) : wpX_slotsOfVariables post (nI m, kh_e p, kh_e s, NB, kh_e lk) := by
  unfold wpX_slotsOfVariables
  refine ⟨9, kx_vars_loop hI hm H 8 0 rfl 0 (fun t _ => ?_)⟩
  rw [b_0]
  exact ⟨fun z => absurd z (by decide), fun ⟨_, i, hi, _⟩ => absurd hi (Nat.not_lt_zero i)⟩
theorem kx_wider_loop {k m : Nat} {p s lk : Nat → Nat} {NB AL NM LF RT : Nat → Int32} {post : Int32 → Prop} {x : Int32} (hI : kh_I k m p s lk NB AL NM LF RT) (hm : m ≤ 511) (H : ∀ y : Int32, (∀ t, t < 6 → (bt y t = true ↔ bt x t = true ∨ (s t ≠ 0 ∧ ∃ i, i < 12 ∧ bt x (i / 2) = true ∧ lk i = s t))) → post y) : ∀ d j : Nat, j + d = 12 → ∀ y : Int32, (∀ t, t < 6 → (bt y t = true ↔ bt x t = true ∨ (s t ≠ 0 ∧ ∃ i, i < j ∧ bt x (i / 2) = true ∧ lk i = s t))) → wX_withLinkedSlots_4 post x (nI m) (kh_e p) (kh_e s) NB (kh_e lk) (d + 1) y (nI j) := by
  intro d
  induction d with
  | zero =>
    intro j hj y hy
    have e : j = 12 := by omega
    subst e
    exact br_t (nI_le (a := 12) (Nat.le_refl _) (by decide)) (H y hy)
  | succ d ih =>
    intro j hj y hy
    have ed : nI j / 2 = nI (j / 2) := pk_div (d := 2) (by omega) (by decide) (by decide)
    refine br_f (nI_ge (b := 12) (by omega) (by decide)) ⟨by decide, kx_mark ed (by omega) (fun z => br_f kh_10 ⟨vp_in_nI (by omega) (by decide), ?_⟩) (fun z => br_t rfl (nm_r (nI_1 j) (ih (j + 1) (by omega) y (fun t ht => ?_))))⟩
    · refine kx_add hI hm (kh_at (by omega)) (hI.2.2.2.1 j) (fun y' hy' => nm_r (nI_1 j) (ih (j + 1) (by omega) y' (fun t ht => ?_)))
      rw [hy' t ht, hy t ht]
      refine ⟨fun h => ?_, fun h => ?_⟩
      · rcases h with (h | ⟨h0, i, hi, e⟩) | ⟨h0, e⟩
        · exact Or.inl h
        · exact Or.inr ⟨h0, i, by omega, e⟩
        · exact Or.inr ⟨h0, j, by omega, z, e⟩
      · rcases h with h | ⟨h0, i, hi, e⟩
        · exact Or.inl (Or.inl h)
        · rcases Nat.lt_or_ge i j with g | g
          · exact Or.inl (Or.inr ⟨h0, i, g, e⟩)
          · have e' : i = j := by omega
            subst e'
            exact Or.inr ⟨h0, e.2⟩
    · rw [hy t ht]
      refine ⟨fun h => ?_, fun h => ?_⟩
      · rcases h with h | ⟨h0, i, hi, e⟩
        · exact Or.inl h
        · exact Or.inr ⟨h0, i, by omega, e⟩
      · rcases h with h | ⟨h0, i, hi, e⟩
        · exact Or.inl h
        · rcases Nat.lt_or_ge i j with g | g
          · exact Or.inr ⟨h0, i, g, e⟩
          · have e' : i = j := by omega
            subst e'
            exact absurd e.1 z
theorem kx_wider {k m : Nat} {p s lk : Nat → Nat} {NB AL NM LF RT : Nat → Int32} {post : Int32 → Prop} {x : Int32} (hI : kh_I k m p s lk NB AL NM LF RT) (hm : m ≤ 511) (H : ∀ y : Int32, (∀ t, t < 6 → (bt y t = true ↔ bt x t = true ∨ (s t ≠ 0 ∧ ∃ i, i < 12 ∧ bt x (i / 2) = true ∧ lk i = s t))) → post y) : wpX_withLinkedSlots post (nI m, kh_e p, kh_e s, NB, kh_e lk) x := by
  unfold wpX_withLinkedSlots
  refine ⟨13, kx_wider_loop hI hm H 12 0 rfl x (fun t _ => ?_)⟩
  exact ⟨fun h => Or.inl h, fun h => h.resolve_right (fun ⟨_, i, hi, _⟩ => absurd hi (Nat.not_lt_zero i))⟩
theorem kx_reach_loop {k m : Nat} {p s lk : Nat → Nat} {NB AL NM LF RT : Nat → Int32} {post : Int32 → Prop} (hI : kh_I k m p s lk NB AL NM LF RT) (hm : m ≤ 511) (H : ∀ x : Int32, kh_J p s lk 6 (bt x) → post x) : ∀ d j : Nat, j + d = 6 → ∀ x : Int32, kh_J p s lk j (bt x) → wX_reachedSlots_7 post (nI m) (kh_e p) (kh_e s) NB (kh_e lk) (d + 1) x (nI j) := by
  intro d
  induction d with
  | zero =>
    intro j hj x hx
    have e : j = 6 := by omega
    subst e
    exact br_t (nI_le (a := 6) (Nat.le_refl _) (by decide)) (H x hx)
  | succ d ih =>
    intro j hj x hx
    refine br_f (nI_ge (b := 6) (by omega) (by decide)) (kx_wider hI hm (fun y hy => nm_r (nI_1 j) (ih (j + 1) (by omega) y ?_)))
    refine kh_J_step hx (fun t ht h => (hy t ht).mpr (Or.inl h)) (fun t t' ht ht' h e => (hy t' ht').mpr (Or.inr ⟨e.1, ?_⟩)) (fun t ht h => ?_)
    · rcases e.2 with e | e
      · exact ⟨2 * t, by omega, by rw [show 2 * t / 2 = t by omega]; exact h, e⟩
      · exact ⟨2 * t + 1, by omega, by rw [show (2 * t + 1) / 2 = t by omega]; exact h, e⟩
    · rcases (hy t ht).mp h with h | ⟨h0, i, hi, hb, e⟩
      · exact hx.2.1 t ht h
      · refine kh_Re_step (a := i / 2) (by omega) ht (hx.2.1 (i / 2) (by omega) hb) ⟨h0, ?_⟩
        rcases (by omega : i = 2 * (i / 2) ∨ i = 2 * (i / 2) + 1) with c | c
        · rw [← c]; exact Or.inl e
        · rw [← c]; exact Or.inr e
theorem kx_reach {k m : Nat} {p s lk : Nat → Nat} {NB AL NM LF RT : Nat → Int32} {post : Int32 → Prop} (hI : kh_I k m p s lk NB AL NM LF RT) (hm : m ≤ 511) (H : ∀ x : Int32, (∀ t, t < 6 → (bt x t = true ↔ kh_Re p s lk t)) → post x) : wpX_reachedSlots post (nI m, kh_e p, kh_e s, NB, kh_e lk) := by
  unfold wpX_reachedSlots
  refine kx_vars hI hm (fun x hx => ⟨6, ?_⟩)
  exact kx_reach_loop hI hm (fun x hx => H x (fun t ht => kh_J_end hx t ht)) 5 1 rfl x (kh_J_1 hx)
/-! X: the loops of reached and sweep -/
theorem kx_rd_loop {post : Int32 → Prop} {f x : Int32} {A S NB LK : Nat → Int32} (hp : post (kh_sum (fun t => if bt x t = true then 1 else 0) 6)) : ∀ d j : Nat, j + d = 6 → wX_reached_9 post x f A S NB LK (d + 1) (kh_sum (fun t => if bt x t = true then 1 else 0) j) (nI j) := by
  intro d
  induction d with
  | zero =>
    intro j hj
    have e : j = 6 := by omega
    subst e
    exact br_t (nI_le (a := 6) (Nat.le_refl _) (by decide)) hp
  | succ d ih =>
    intro j hj
    have i' := ih (j + 1) (by omega)
    have es : kh_sum (fun t => if bt x t = true then 1 else 0) (j + 1) = kh_sum (fun t => if bt x t = true then 1 else 0) j + (if bt x j = true then 1 else 0) := rfl
    rw [es] at i'
    refine br_f (nI_ge (b := 6) (by omega) (by decide)) (kx_mark rfl (by omega) (fun z => br_f kh_10 (nm_e (nm_r (nI_1 j) ?_))) (fun z => br_t rfl (nm_r (nI_1 j) ?_)))
    · rw [if_pos z] at i'
      exact i'
    · rw [if_neg z, Int32.add_zero] at i'
      exact i'
def kx_sw (s : Nat → Nat) (x : Int32) (n : Nat) : Nat → Nat := fun t => if t < n ∧ bt x t = false then 0 else s t
theorem kx_sw_0 (s : Nat → Nat) (x : Int32) : kx_sw s x 0 = s := by
  funext t
  exact if_neg (fun h => absurd h.1 (Nat.not_lt_zero t))
theorem kx_sw_at (s : Nat → Nat) (x : Int32) (n : Nat) : kx_sw s x n n = s n := if_neg (fun h => absurd h.1 (Nat.lt_irrefl n))
theorem kx_sw_keep {s : Nat → Nat} {x : Int32} {n : Nat} (h : s n = 0 ∨ bt x n = true) : kx_sw s x (n + 1) = kx_sw s x n := by
  funext t
  unfold kx_sw
  by_cases e : t = n
  · subst e
    rw [if_neg (c := t < t ∧ bt x t = false) (fun h => absurd h.1 (Nat.lt_irrefl t))]
    rcases h with h | h
    · rw [h]; split <;> rfl
    · rw [if_neg (fun c => absurd (c.2.symm.trans h) (by decide))]
  · by_cases c : t < n ∧ bt x t = false
    · rw [if_pos c, if_pos ⟨by omega, c.2⟩]
    · rw [if_neg c, if_neg (fun c' => c ⟨by omega, c'.2⟩)]
theorem kx_sw_put {s : Nat → Nat} {x : Int32} {n : Nat} (h : ¬ bt x n = true) : kh_un (kx_sw s x n) n 0 = kx_sw s x (n + 1) := by
  funext t
  unfold kh_un kx_sw
  have hf : bt x n = false := by simpa using h
  by_cases e : t = n
  · subst e
    rw [if_pos rfl, if_pos ⟨by omega, hf⟩]
  · rw [if_neg e]
    by_cases c : t < n ∧ bt x t = false
    · rw [if_pos c, if_pos ⟨by omega, c.2⟩]
    · rw [if_neg c, if_neg (fun c' => c ⟨by omega, c'.2⟩)]
theorem kx_sw_loop {post : Int32 → SX → Prop} {f x : Int32} {A NB LK : Nat → Int32} {s : Nat → Nat} (hs : ∀ t, s t < 2 ^ 31) (hp : post (kh_sum (fun t => if s t = 0 then 0 else if bt x t = true then 0 else 1) 6) (f, A, kh_e (kx_sw s x 6), NB, LK)) : ∀ d j : Nat, j + d = 6 → wX_sweep_9 post x f (d + 1) (kh_sum (fun t => if s t = 0 then 0 else if bt x t = true then 0 else 1) j) (nI j) A (kh_e (kx_sw s x j)) NB LK := by
  intro d
  induction d with
  | zero =>
    intro j hj
    have e : j = 6 := by omega
    subst e
    exact br_t (nI_le (a := 6) (Nat.le_refl _) (by decide)) hp
  | succ d ih =>
    intro j hj
    have i' := ih (j + 1) (by omega)
    have es : kh_sum (fun t => if s t = 0 then 0 else if bt x t = true then 0 else 1) (j + 1) = kh_sum (fun t => if s t = 0 then 0 else if bt x t = true then 0 else 1) j + (if s j = 0 then 0 else if bt x j = true then 0 else 1) := rfl
    rw [es] at i'
    have e : kh_e (kx_sw s x j) (nI j).toNatClampNeg = 0 ↔ s j = 0 := by
      rw [kh_at (by omega), kx_sw_at, ← nI_0, nI_eq (hs j) (by decide)]
    refine br_f (nI_ge (b := 6) (by omega) (by decide)) ⟨vp_in_nI (by omega) (by decide), br_c (fun z => nm_r (nI_1 j) ?_) (fun z => kx_mark rfl (by omega) (fun y => br_f kh_10 (nm_r (nI_1 j) ?_)) (fun y => br_t rfl ⟨vp_in_nI (by omega) (by decide), nm_r ((kh_u (by omega) nI_0.symm).trans (congrArg kh_e (kx_sw_put y))) (nm_e (nm_r (nI_1 j) ?_))⟩))⟩
    · rw [if_pos (e.mp z), Int32.add_zero, kx_sw_keep (Or.inl (e.mp z))] at i'
      exact i'
    · rw [if_neg (fun c => z (e.mpr c)), if_pos y, Int32.add_zero, kx_sw_keep (Or.inr y)] at i'
      exact i'
    · rw [if_neg (fun c => z (e.mpr c)), if_neg y] at i'
      exact i'
