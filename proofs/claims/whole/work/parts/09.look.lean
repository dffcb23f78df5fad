/-! Y: what look leaves in seen is what is reached -/
theorem kh_alive {k m t : Nat} {p s lk : Nat → Nat} {NB AL NM LF RT : Nat → Int32} (h : kh_I k m p s lk NB AL NM LF RT) (ht : t < 6) (h0 : s t ≠ 0) : ¬ AL (s t - 1) = 0 := by
  intro z
  have l := h.2.2.1 t
  exact (h.2.2.2.2.2.1 (s t - 1) (by omega)).mp z t ht (by omega)
theorem kh_slot {k m i : Nat} {p s lk : Nat → Nat} {NB AL NM LF RT : Nat → Int32} (h : kh_I k m p s lk NB AL NM LF RT) (hi : i < m) (ha : ¬ AL i = 0) : ∃ t, t < 6 ∧ s t = i + 1 := by
  by_cases y : ∃ t, t < 6 ∧ s t = i + 1
  · exact y
  · exact absurd ((h.2.2.2.2.2.1 i hi).mpr (fun t ht e => y ⟨t, ht, e⟩)) ha
theorem ky_come {k m q : Nat} {p s lk : Nat → Nat} {NB AL NM LF RT SN : Nat → Int32} {x : Int32} {post : Int32 → SY → Prop} (hI : kh_I k m p s lk NB AL NM LF RT) (hm : m ≤ 511) (hx : x = nI q) (hq : q ≤ m) (H : ∀ (r : Int32) (SN' : Nat → Int32), (∀ i, ¬ SN' i = 0 ↔ ¬ SN i = 0 ∨ (i + 1 = q ∧ ¬ AL i = 0)) → post r (nI m, kh_e p, AL, NM, LF, RT, SN')) : wpY_come post (nI m, kh_e p, AL, NM, LF, RT, SN) x := by
  unfold wpY_come
  rcases kh_case hI hq with h0 | ⟨h0, hd, ha⟩ | ⟨t, ht, he, h0, ha, un⟩
  · refine ky_kind0 (by rw [hx, h0]) (br_f (by decide) (H 0 SN (fun i => ⟨fun h => Or.inl h, fun h => h.resolve_right (fun c => by omega)⟩)))
  · refine ky_kind2 hx (by omega) h0 ha (br_f (by decide) (H 0 SN (fun i => ⟨fun h => Or.inl h, fun h => h.resolve_right (fun c => ?_)⟩)))
    have e : q - 1 = i := by omega
    rw [e] at ha
    exact c.2 ha
  · have ex : x - 1 = nI (q - 1) := by rw [hx, kh_m1 h0]
    refine ky_kind1 hx (by omega) h0 ha (br_t rfl ?_)
    rw [ex, nI_clamp (by omega), kh_b1]
    refine ⟨vp_in_nI (by omega) (by decide), br_c (fun z => ⟨vp_in_nI (by omega) (by decide), nm_e (H 1 _ (fun i => ?_))⟩) (fun z => H 0 SN (fun i => ⟨fun h => Or.inl h, fun h => ?_⟩))⟩
    · by_cases e : i = q - 1
      · subst e
        rw [pk_us]
        exact ⟨fun _ => Or.inr ⟨by omega, ha⟩, fun _ => kh_10⟩
      · rw [pk_un e]
        exact ⟨fun h => Or.inl h, fun h => h.resolve_right (fun c => by omega)⟩
    · rcases h with h | h
      · exact h
      · have e : i = q - 1 := by omega
        rw [e]
        exact z
def kz_S (m : Nat) (p s lk : Nat → Nat) (SN : Nat → Int32) : Prop := ∀ i, i < m → ¬ SN i = 0 → ∃ t, t < 6 ∧ s t = i + 1 ∧ kh_Re p s lk t
def kz_A (s : Nat → Nat) (SN : Nat → Int32) : Nat → Bool := fun t => decide (s t ≠ 0 ∧ ¬ SN (s t - 1) = 0)
theorem kz_A_iff {s : Nat → Nat} {SN : Nat → Int32} {t : Nat} : kz_A s SN t = true ↔ (s t ≠ 0 ∧ ¬ SN (s t - 1) = 0) := decide_eq_true_iff
theorem kz_A_re {k m : Nat} {p s lk : Nat → Nat} {NB AL NM LF RT SN : Nat → Int32} (hI : kh_I k m p s lk NB AL NM LF RT) (hS : kz_S m p s lk SN) (t : Nat) (ht : t < 6) (h : kz_A s SN t = true) : kh_Re p s lk t := by
  obtain ⟨h0, hn⟩ := kz_A_iff.mp h
  have l := hI.2.2.1 t
  obtain ⟨t', ht', e, hr⟩ := hS (s t - 1) (by omega) hn
  have := hI.2.2.2.2.1 t' t ht' ht (by omega) (by omega)
  rw [← this]
  exact hr
theorem kz_come {k m q : Nat} {p s lk : Nat → Nat} {NB AL NM LF RT SN SN' : Nat → Int32} (hI : kh_I k m p s lk NB AL NM LF RT) (hS : kz_S m p s lk SN) (hc : ∀ i, ¬ SN' i = 0 ↔ ¬ SN i = 0 ∨ (i + 1 = q ∧ ¬ AL i = 0)) (hr : ∀ t, t < 6 → s t ≠ 0 → q = s t → kh_Re p s lk t) : kz_S m p s lk SN' := by
  intro i hi hn
  rcases (hc i).mp hn with h | ⟨e, ha⟩
  · exact hS i hi h
  · obtain ⟨t, ht, et⟩ := kh_slot hI hi ha
    exact ⟨t, ht, et, hr t ht (by omega) (by omega)⟩
theorem kz_got {k m t : Nat} {p s lk : Nat → Nat} {NB AL NM LF RT SN SN' : Nat → Int32} {q : Nat} (hI : kh_I k m p s lk NB AL NM LF RT) (hc : ∀ i, ¬ SN' i = 0 ↔ ¬ SN i = 0 ∨ (i + 1 = q ∧ ¬ AL i = 0)) (ht : t < 6) (h0 : s t ≠ 0) (e : q = s t) : ¬ SN' (s t - 1) = 0 := (hc (s t - 1)).mpr (Or.inr ⟨by omega, kh_alive hI ht h0⟩)
theorem ky_pass_loop {k m : Nat} {p s lk : Nat → Nat} {NB AL NM LF RT SN0 : Nat → Int32} {post : SY → Prop} {J : Int32 → Int32 → (Nat → Int32) → (Nat → Int32) → (Nat → Int32) → (Nat → Int32) → (Nat → Int32) → (Nat → Int32) → Prop} {c : Nat} (hI : kh_I k m p s lk NB AL NM LF RT) (hm : m ≤ 511) (H : ∀ SN : Nat → Int32, kz_S m p s lk SN → (∀ i, ¬ SN0 i = 0 → ¬ SN i = 0) → (∀ t t', t < 6 → t' < 6 → s t ≠ 0 → s t - 1 < m → ¬ SN0 (s t - 1) = 0 → kh_E s lk t t' → ¬ SN (s t' - 1) = 0) → J (nI (c + 1)) (nI m) (kh_e p) AL NM LF RT SN) : ∀ d j : Nat, j + d = m → ∀ SN : Nat → Int32, kz_S m p s lk SN → (∀ i, ¬ SN0 i = 0 → ¬ SN i = 0) → (∀ t t', t < 6 → t' < 6 → s t ≠ 0 → s t - 1 < j → ¬ SN0 (s t - 1) = 0 → kh_E s lk t t' → ¬ SN (s t' - 1) = 0) → wY_look_57 post J (nI c) (d + 1) (nI j) (nI m) (kh_e p) AL NM LF RT SN := by
  intro d
  induction d with
  | zero =>
    intro j hj SN hS h1 h2
    have e : j = m := by omega
    subst e
    exact br_t (nI_le (Nat.le_refl _) (by omega)) (nm_r (nI_1 c) (H SN hS h1 h2))
  | succ d ih =>
    intro j hj SN hS h1 h2
    refine br_f (nI_ge (by omega) (by omega)) ⟨vp_in_nI (by omega) (by decide), ?_⟩
    rw [nI_clamp (show j < 2 ^ 31 by omega)]
    by_cases z : SN j = 0
    · refine br_t z (nm_r (nI_1 j) (ih (j + 1) (by omega) SN hS h1 (fun t t' ht ht' h0 hl hn e => ?_)))
      rcases Nat.lt_or_ge (s t - 1) j with g | g
      · exact h2 t t' ht ht' h0 g hn e
      · have ej : s t - 1 = j := by omega
        rw [ej] at hn
        exact absurd z (h1 j hn)
    · obtain ⟨t0, ht0, es, hr⟩ := hS j (by omega) z
      have hn := hI.2.2.2.2.2.2 t0 ht0 (by omega)
      have ej : s t0 - 1 = j := by omega
      rw [ej] at hn
      refine br_f z ⟨vp_in_nI (by omega) (by decide), ?_⟩
      refine ky_come hI hm hn.2.1 (hI.2.2.2.1 _) (fun r1 SN1 c1 => ?_)
      have hS1 := kz_come hI hS c1 (fun t ht h0 e => kh_Re_step ht0 ht hr ⟨h0, Or.inl e⟩)
      refine ⟨vp_in_nI (by omega) (by decide), ?_⟩
      refine ky_come hI hm hn.2.2 (hI.2.2.2.1 _) (fun r2 SN2 c2 => ?_)
      have hS2 := kz_come hI hS1 c2 (fun t ht h0 e => kh_Re_step ht0 ht hr ⟨h0, Or.inr e⟩)
      refine nm_r (nI_1 j) (ih (j + 1) (by omega) SN2 hS2 (fun i h => (c2 i).mpr (Or.inl ((c1 i).mpr (Or.inl (h1 i h))))) (fun t t' ht ht' h0 hl hn e => ?_))
      rcases Nat.lt_or_ge (s t - 1) j with g | g
      · exact (c2 _).mpr (Or.inl ((c1 _).mpr (Or.inl (h2 t t' ht ht' h0 g hn e))))
      · have et : t = t0 := hI.2.2.2.2.1 t t0 ht ht0 (by omega) h0
        subst et
        rcases e.2 with e' | e'
        · exact (c2 _).mpr (Or.inl (kz_got hI c1 ht' e.1 e'))
        · exact kz_got hI c2 ht' e.1 e'
theorem ky_passes {k m : Nat} {p s lk : Nat → Nat} {NB AL NM LF RT : Nat → Int32} {post : SY → Prop} (hI : kh_I k m p s lk NB AL NM LF RT) (hm : m ≤ 511) (H : ∀ SN : Nat → Int32, kh_J p s lk 6 (kz_A s SN) → kz_S m p s lk SN → post (nI m, kh_e p, AL, NM, LF, RT, SN)) : ∀ d i : Nat, i + d = 6 → ∀ SN : Nat → Int32, kh_J p s lk i (kz_A s SN) → kz_S m p s lk SN → wY_look_49 post (d + 1) (nI i) (nI m) (kh_e p) AL NM LF RT SN := by
  intro d
  induction d with
  | zero =>
    intro i hi SN hJ hS
    have e : i = 6 := by omega
    subst e
    exact br_t (nI_le (a := 6) (Nat.le_refl _) (by decide)) (H SN hJ hS)
  | succ d ih =>
    intro i hi SN hJ hS
    refine br_f (nI_ge (b := 6) (by omega) (by decide)) ⟨m + 1, ?_⟩
    refine ky_pass_loop (SN0 := SN) hI hm (fun SN' hS' h1 h2 => ih (i + 1) (by omega) SN' ?_ hS') m 0 (Nat.zero_add m) SN hS (fun _ h => h) (fun t t' _ _ _ hl => absurd hl (Nat.not_lt_zero _))
    refine kh_J_step hJ (fun t ht h => ?_) (fun t t' ht ht' h e => ?_) (kz_A_re hI hS')
    · obtain ⟨h0, hn⟩ := kz_A_iff.mp h
      exact kz_A_iff.mpr ⟨h0, h1 _ hn⟩
    · obtain ⟨h0, hn⟩ := kz_A_iff.mp h
      have l := hI.2.2.1 t
      exact kz_A_iff.mpr ⟨e.1, h2 t t' ht ht' h0 (by omega) hn e⟩
theorem ky_roots {k m : Nat} {p s lk : Nat → Nat} {NB AL NM LF RT : Nat → Int32} {post : SY → Prop} (hI : kh_I k m p s lk NB AL NM LF RT) (hm : m ≤ 511) (H : ∀ SN : Nat → Int32, kh_J p s lk 0 (kz_A s SN) → kz_S m p s lk SN → ∃ n, wY_look_49 post n 0 (nI m) (kh_e p) AL NM LF RT SN) : ∀ d j : Nat, j + d = 8 → ∀ SN : Nat → Int32, kz_S m p s lk SN → (∀ t, t < 6 → s t ≠ 0 → (∃ i, i < j ∧ p i = s t) → ¬ SN (s t - 1) = 0) → wY_look_24 post (d + 1) (nI j) (nI m) (kh_e p) AL NM LF RT SN := by
  intro d
  induction d with
  | zero =>
    intro j hj SN hS h1
    have e : j = 8 := by omega
    subst e
    refine br_t (nI_le (a := 8) (Nat.le_refl _) (by decide)) (H SN (kh_J_0 (fun t ht hr => ?_) (kz_A_re hI hS)) hS)
    exact kz_A_iff.mpr ⟨hr.1, h1 t ht hr.1 hr.2⟩
  | succ d ih =>
    intro j hj SN hS h1
    refine br_f (nI_ge (b := 8) (by omega) (by decide)) ⟨vp_in_nI (by omega) (by decide), ?_⟩
    refine ky_come hI hm (kh_at (by omega)) (hI.2.1 j) (fun r SN' c => ?_)
    refine nm_r (nI_1 j) (ih (j + 1) (by omega) SN' (kz_come hI hS c (fun t ht h0 e => kh_Re_root ht ⟨h0, j, by omega, e⟩)) (fun t ht h0 hx => ?_))
    obtain ⟨i, hi, e⟩ := hx
    rcases Nat.lt_or_ge i j with g | g
    · exact (c _).mpr (Or.inl (h1 t ht h0 ⟨i, g, e⟩))
    · have e' : i = j := by omega
      subst e'
      exact kz_got hI c ht h0 e
theorem ky_clear {m : Nat} {V AL NM LF RT : Nat → Int32} {post : SY → Prop} (H : ∀ SN : Nat → Int32, (∀ i, i < 512 → SN i = 0) → ∃ n, wY_look_24 post n 0 (nI m) V AL NM LF RT SN) : ∀ d j : Nat, j + d = 512 → ∀ SN : Nat → Int32, (∀ i, i < j → SN i = 0) → wY_look_2 post (nI m) (d + 1) (nI j) V AL NM LF RT SN := by
  intro d
  induction d with
  | zero =>
    intro j hj SN h
    have e : j = 512 := by omega
    subst e
    exact br_t (nI_le (a := 512) (Nat.le_refl _) (by decide)) (H SN h)
  | succ d ih =>
    intro j hj SN h
    refine br_f (nI_ge (b := 512) (by omega) (by decide)) ⟨vp_in_nI (by omega) (by decide), nm_r (e' := upd SN j 0) (by rw [nI_clamp (by omega), kh_b0]) (nm_r (nI_1 j) (ih (j + 1) (by omega) _ (fun i hi => ?_)))⟩
    by_cases e : i = j
    · rw [e, pk_us]
    · rw [pk_un e]
      exact h i (by omega)
theorem ky_look {k m : Nat} {p s lk : Nat → Nat} {NB AL NM LF RT SN : Nat → Int32} {post : SY → Prop} (hI : kh_I k m p s lk NB AL NM LF RT) (hm : m ≤ 511) (H : ∀ SN' : Nat → Int32, (∀ t, t < 6 → s t ≠ 0 → (¬ SN' (s t - 1) = 0 ↔ kh_Re p s lk t)) → kz_S m p s lk SN' → post (nI m, kh_e p, AL, NM, LF, RT, SN')) : wpY_look post (nI m, kh_e p, AL, NM, LF, RT, SN) := by
  unfold wpY_look
  refine ⟨513, ky_clear (fun SN1 h1 => ⟨9, ?_⟩) 512 0 rfl SN (fun i hi => absurd hi (Nat.not_lt_zero i))⟩
  refine ky_roots hI hm (fun SN2 hJ hS => ⟨7, ?_⟩) 8 0 rfl SN1 (fun i hi hn => absurd (h1 i (by omega)) hn) (fun t ht h0 hx => ?_)
  · refine ky_passes hI hm (fun SN3 hJ3 hS3 => H SN3 (fun t ht h0 => ?_) hS3) 6 0 rfl SN2 hJ hS
    have e := kh_J_end hJ3 t ht
    rw [kz_A_iff] at e
    exact ⟨fun h => e.mp ⟨h0, h⟩, fun h => (e.mpr h).2⟩
  · obtain ⟨i, hi, _⟩ := hx
    exact absurd hi (Nat.not_lt_zero i)
/-! Y: the loops of reached and sweep -/
theorem ky_rd_loop {post : Int32 → SY → Prop} {m : Nat} {V AL NM LF RT SN : Nat → Int32} (hm : m ≤ 511) (hp : post (kh_sum (fun r => if SN r = 0 then 0 else 1) m) (nI m, V, AL, NM, LF, RT, SN)) : ∀ d j : Nat, j + d = m → wY_reached_8 post (nI m) V AL NM LF RT SN (d + 1) (kh_sum (fun r => if SN r = 0 then 0 else 1) j) (nI j) := by
  intro d
  induction d with
  | zero =>
    intro j hj
    have e : j = m := by omega
    subst e
    exact br_t (nI_le (Nat.le_refl _) (by omega)) hp
  | succ d ih =>
    intro j hj
    have i' := ih (j + 1) (by omega)
    have es : kh_sum (fun r => if SN r = 0 then 0 else 1) (j + 1) = kh_sum (fun r => if SN r = 0 then 0 else 1) j + (if SN j = 0 then 0 else 1) := rfl
    rw [es] at i'
    refine br_f (nI_ge (by omega) (by omega)) ⟨vp_in_nI (by omega) (by decide), ?_⟩
    rw [nI_clamp (by omega)]
    refine br_c (fun z => nm_e (nm_r (nI_1 j) ?_)) (fun z => nm_e (nm_r (nI_1 j) ?_))
    · rw [if_pos z] at i'
      exact i'
    · rw [if_neg z] at i'
      exact i'
def ky_sw (AL SN : Nat → Int32) (n : Nat) : Nat → Int32 := fun r => if r < n ∧ SN r = 0 then 0 else AL r
theorem ky_sw_0 (AL SN : Nat → Int32) : ky_sw AL SN 0 = AL := by
  funext t
  exact if_neg (fun h => absurd h.1 (Nat.not_lt_zero t))
theorem ky_sw_at (AL SN : Nat → Int32) (n : Nat) : ky_sw AL SN n n = AL n := if_neg (fun h => absurd h.1 (Nat.lt_irrefl n))
theorem ky_sw_keep {AL SN : Nat → Int32} {n : Nat} (h : AL n = 0 ∨ ¬ SN n = 0) : ky_sw AL SN (n + 1) = ky_sw AL SN n := by
  funext t
  unfold ky_sw
  by_cases e : t = n
  · subst e
    rw [if_neg (c := t < t ∧ SN t = 0) (fun h => absurd h.1 (Nat.lt_irrefl t))]
    rcases h with h | h
    · rw [h]; split <;> rfl
    · rw [if_neg (fun c => h c.2)]
  · by_cases c : t < n ∧ SN t = 0
    · rw [if_pos c, if_pos ⟨by omega, c.2⟩]
    · rw [if_neg c, if_neg (fun c' => c ⟨by omega, c'.2⟩)]
theorem ky_sw_put {AL SN : Nat → Int32} {n : Nat} (h : SN n = 0) : upd (ky_sw AL SN n) n 0 = ky_sw AL SN (n + 1) := by
  funext t
  unfold upd ky_sw
  by_cases e : t = n
  · subst e
    rw [if_pos rfl, if_pos ⟨by omega, h⟩]
  · rw [if_neg e]
    by_cases c : t < n ∧ SN t = 0
    · rw [if_pos c, if_pos ⟨by omega, c.2⟩]
    · rw [if_neg c, if_neg (fun c' => c ⟨by omega, c'.2⟩)]
theorem ky_sw_loop {post : Int32 → SY → Prop} {m : Nat} {V AL NM LF RT SN : Nat → Int32} (hm : m ≤ 511) (hp : post (kh_sum (fun r => if AL r = 0 then 0 else if SN r = 0 then 1 else 0) m) (nI m, V, ky_sw AL SN m, NM, LF, RT, SN)) : ∀ d j : Nat, j + d = m → wY_sweep_8 post (nI m) (d + 1) (kh_sum (fun r => if AL r = 0 then 0 else if SN r = 0 then 1 else 0) j) (nI j) V (ky_sw AL SN j) NM LF RT SN := by
  intro d
  induction d with
  | zero =>
    intro j hj
    have e : j = m := by omega
    subst e
    exact br_t (nI_le (Nat.le_refl _) (by omega)) hp
  | succ d ih =>
    intro j hj
    have i' := ih (j + 1) (by omega)
    have es : kh_sum (fun r => if AL r = 0 then 0 else if SN r = 0 then 1 else 0) (j + 1) = kh_sum (fun r => if AL r = 0 then 0 else if SN r = 0 then 1 else 0) j + (if AL j = 0 then 0 else if SN j = 0 then 1 else 0) := rfl
    rw [es] at i'
    refine br_f (nI_ge (by omega) (by omega)) ⟨vp_in_nI (by omega) (by decide), ?_⟩
    rw [nI_clamp (by omega), ky_sw_at, kh_b0]
    refine br_c (fun z => nm_r (nI_1 j) ?_) (fun z => ⟨vp_in_nI (by omega) (by decide), br_c (fun y => ⟨vp_in_nI (by omega) (by decide), nm_r (ky_sw_put y) (nm_e (nm_r (nI_1 j) ?_))⟩) (fun y => nm_r (nI_1 j) ?_)⟩)
    · rw [if_pos z, Int32.add_zero, ky_sw_keep (Or.inl z)] at i'
      exact i'
    · rw [if_neg z, if_pos y] at i'
      exact i'
    · rw [if_neg z, if_neg y, Int32.add_zero, ky_sw_keep (Or.inr y)] at i'
      exact i'
