/-! the relation: serials as naturals on both sides; what a slot holds is what its record holds -/
def kh_I (k m : Nat) (p s lk : Nat → Nat) (NB AL NM LF RT : Nat → Int32) : Prop :=
  4 * m ≤ k ∧ (∀ i, p i ≤ m) ∧ (∀ t, s t ≤ m) ∧ (∀ j, lk j ≤ m) ∧ (∀ t t', t < 6 → t' < 6 → s t = s t' → s t ≠ 0 → t = t') ∧ (∀ r, r < m → (AL r = 0 ↔ ∀ t, t < 6 → s t ≠ r + 1)) ∧ (∀ t, t < 6 → s t ≠ 0 → NB t = NM (s t - 1) ∧ LF (s t - 1) = nI (lk (2 * t)) ∧ RT (s t - 1) = nI (lk (2 * t + 1)))
def i_Rel (k : Nat) (u : SX) (v : SY) : Prop :=
  ∃ (m : Nat) (p s lk : Nat → Nat) (NB AL NM LF RT SN : Nat → Int32), u = (nI m, kh_e p, kh_e s, NB, kh_e lk) ∧ v = (nI m, kh_e p, AL, NM, LF, RT, SN) ∧ kh_I k m p s lk NB AL NM LF RT
theorem kh_R {k m : Nat} {p s lk : Nat → Nat} {NB AL NM LF RT SN : Nat → Int32} (h : kh_I k m p s lk NB AL NM LF RT) : i_Rel k (nI m, kh_e p, kh_e s, NB, kh_e lk) (nI m, kh_e p, AL, NM, LF, RT, SN) := ⟨m, p, s, lk, NB, AL, NM, LF, RT, SN, rfl, rfl, h⟩
theorem kh_I_up {k m : Nat} {p s lk : Nat → Nat} {NB AL NM LF RT : Nat → Int32} (h : kh_I k m p s lk NB AL NM LF RT) : kh_I (k + 4) m p s lk NB AL NM LF RT := ⟨by have := h.1; omega, h.2⟩
theorem i_up {k : Nat} {u : SX} {v : SY} (h : i_Rel k u v) : i_Rel (k + 4) u v := by
  obtain ⟨m, p, s, lk, NB, AL, NM, LF, RT, SN, rfl, rfl, hI⟩ := h
  exact kh_R (kh_I_up hI)
theorem i_vc0 : wpX_init (fun u => wpY_init (fun v => i_Rel 0 u v)) := by
  unfold wpX_init wpY_init
  refine ⟨0, fun _ => 0, fun _ => 0, fun _ => 0, fun _ => 0, fun _ => 0, fun _ => 0, fun _ => 0, fun _ => 0, fun _ => 0, rfl, rfl, ?_⟩
  exact ⟨by omega, fun _ => Nat.le_refl 0, fun _ => Nat.le_refl 0, fun _ => Nat.le_refl 0, fun _ _ _ _ _ h => absurd rfl h, fun r hr => absurd hr (Nat.not_lt_zero r), fun _ _ h => absurd rfl h⟩
theorem kh_bd {k m : Nat} {p s lk : Nat → Nat} {NB AL NM LF RT : Nat → Int32} (h : kh_I k m p s lk NB AL NM LF RT) (hk : k + 4 ≤ 2048) : m ≤ 511 := by
  have := h.1
  omega
theorem kh_sb {k m : Nat} {p s lk : Nat → Nat} {NB AL NM LF RT : Nat → Int32} (h : kh_I k m p s lk NB AL NM LF RT) (hm : m ≤ 511) (t : Nat) : s t < 2 ^ 31 := by
  have := h.2.2.1 t
  omega
theorem kh_case {k m q : Nat} {p s lk : Nat → Nat} {NB AL NM LF RT : Nat → Int32} (h : kh_I k m p s lk NB AL NM LF RT) (hq : q ≤ m) : q = 0 ∨ (q ≠ 0 ∧ (∀ t, t < 6 → s t ≠ q) ∧ AL (q - 1) = 0) ∨ ∃ t, t < 6 ∧ s t = q ∧ q ≠ 0 ∧ ¬ AL (q - 1) = 0 ∧ ∀ t', t' < 6 → s t' = q → t' = t := by
  by_cases h0 : q = 0
  · exact Or.inl h0
  · refine Or.inr ?_
    have ha := h.2.2.2.2.2.1 (q - 1) (by omega)
    have e : q - 1 + 1 = q := by omega
    rw [e] at ha
    by_cases z : ∃ t, t < 6 ∧ s t = q
    · obtain ⟨t, ht, he⟩ := z
      refine Or.inr ⟨t, ht, he, h0, fun w => ha.mp w t ht he, fun t' ht' he' => h.2.2.2.2.1 t' t ht' ht (by omega) (by omega)⟩
    · have z' : ∀ t, t < 6 → s t ≠ q := fun t ht he => z ⟨t, ht, he⟩
      exact Or.inl ⟨h0, z', ha.mpr z'⟩
/-! how the relation lasts -/
theorem kh_I_p {k m j q : Nat} {p s lk : Nat → Nat} {NB AL NM LF RT : Nat → Int32} (h : kh_I k m p s lk NB AL NM LF RT) (hq : q ≤ m) : kh_I k m (kh_un p j q) s lk NB AL NM LF RT :=
  ⟨h.1, kh_un_le h.2.1 (Nat.le_refl m) hq, h.2.2⟩
theorem kh_I_drop {k m : Nat} {p s s' lk : Nat → Nat} {NB AL AL' NM LF RT : Nat → Int32} (h : kh_I k m p s lk NB AL NM LF RT) (hz : ∀ t, s' t = s t ∨ s' t = 0) (ha' : ∀ r, r < m → (AL' r = 0 ↔ ∀ t, t < 6 → s' t ≠ r + 1)) : kh_I k m p s' lk NB AL' NM LF RT := by
  obtain ⟨h1, h2, h3, h4, inj, ha, hn⟩ := h
  refine ⟨h1, h2, fun t => ?_, h4, fun t t' ht ht' e n0 => ?_, ha', fun t ht n0 => ?_⟩
  · have := h3 t
    rcases hz t with z | z <;> omega
  · have z := (hz t).resolve_right n0
    have z' := (hz t').resolve_right (by omega)
    exact inj t t' ht ht' (by omega) (by omega)
  · have z := (hz t).resolve_right n0
    rw [z]
    exact hn t ht (by omega)
theorem kh_I_disp {k m t : Nat} {p s lk : Nat → Nat} {NB AL NM LF RT : Nat → Int32} (h : kh_I k m p s lk NB AL NM LF RT) (ht : t < 6) (h0 : s t ≠ 0) : kh_I k m p (kh_un s t 0) lk NB (upd AL (s t - 1) 0) NM LF RT := by
  refine kh_I_drop h (fun t' => ?_) (fun r hr => ?_)
  · by_cases e : t' = t
    · rw [e, kh_us]; exact Or.inr rfl
    · rw [kh_uo e]; exact Or.inl rfl
  · have ha := h.2.2.2.2.2.1 r hr
    by_cases e : r = s t - 1
    · rw [e, pk_us]
      refine ⟨fun _ t' ht' z => ?_, fun _ => rfl⟩
      by_cases e' : t' = t
      · rw [e', kh_us] at z; omega
      · rw [kh_uo e'] at z
        exact e' (h.2.2.2.2.1 t' t ht' ht (by omega) (by omega))
    · rw [pk_un e, ha]
      refine ⟨fun z t' ht' => ?_, fun z t' ht' => ?_⟩
      · by_cases e' : t' = t
        · rw [e', kh_us]; omega
        · rw [kh_uo e']; exact z t' ht'
      · by_cases e' : t' = t
        · rw [e']; omega
        · have := z t' ht'
          rw [kh_uo e'] at this
          exact this
theorem kh_ser {k m t t' : Nat} {p s lk : Nat → Nat} {NB AL NM LF RT : Nat → Int32} (h : kh_I k m p s lk NB AL NM LF RT) (ht : t < 6) (h0 : s t ≠ 0) (ht' : t' < 6) (h0' : s t' ≠ 0) (ne : t' ≠ t) : s t' - 1 ≠ s t - 1 := by
  intro e
  exact ne (h.2.2.2.2.1 t' t ht' ht (by omega) h0')
theorem kh_I_num {k m t : Nat} {n : Int32} {p s lk : Nat → Nat} {NB AL NM LF RT : Nat → Int32} (h : kh_I k m p s lk NB AL NM LF RT) (ht : t < 6) (h0 : s t ≠ 0) : kh_I k m p s lk (upd NB t n) AL (upd NM (s t - 1) n) LF RT := by
  refine ⟨h.1, h.2.1, h.2.2.1, h.2.2.2.1, h.2.2.2.2.1, h.2.2.2.2.2.1, fun t' ht' h0' => ?_⟩
  have hn := h.2.2.2.2.2.2 t' ht' h0'
  by_cases e : t' = t
  · subst e
    exact ⟨by rw [pk_us, pk_us], hn.2⟩
  · exact ⟨by rw [pk_un e, pk_un (kh_ser h ht h0 ht' h0' e)]; exact hn.1, hn.2⟩
theorem kh_I_lk0 {k m t q : Nat} {p s lk : Nat → Nat} {NB AL NM LF RT : Nat → Int32} (h : kh_I k m p s lk NB AL NM LF RT) (ht : t < 6) (h0 : s t ≠ 0) (hq : q ≤ m) : kh_I k m p s (kh_un lk (2 * t + 0) q) NB AL NM (upd LF (s t - 1) (nI q)) RT := by
  refine ⟨h.1, h.2.1, h.2.2.1, kh_un_le h.2.2.2.1 (Nat.le_refl m) hq, h.2.2.2.2.1, h.2.2.2.2.2.1, fun t' ht' h0' => ?_⟩
  have hn := h.2.2.2.2.2.2 t' ht' h0'
  rw [Nat.add_zero]
  by_cases e : t' = t
  · subst e
    exact ⟨hn.1, by rw [pk_us, kh_us], by rw [kh_uo (by omega)]; exact hn.2.2⟩
  · exact ⟨hn.1, by rw [pk_un (kh_ser h ht h0 ht' h0' e), kh_uo (by omega)]; exact hn.2.1, by rw [kh_uo (by omega)]; exact hn.2.2⟩
theorem kh_I_lk1 {k m t q : Nat} {p s lk : Nat → Nat} {NB AL NM LF RT : Nat → Int32} (h : kh_I k m p s lk NB AL NM LF RT) (ht : t < 6) (h0 : s t ≠ 0) (hq : q ≤ m) : kh_I k m p s (kh_un lk (2 * t + 1) q) NB AL NM LF (upd RT (s t - 1) (nI q)) := by
  refine ⟨h.1, h.2.1, h.2.2.1, kh_un_le h.2.2.2.1 (Nat.le_refl m) hq, h.2.2.2.2.1, h.2.2.2.2.2.1, fun t' ht' h0' => ?_⟩
  have hn := h.2.2.2.2.2.2 t' ht' h0'
  by_cases e : t' = t
  · subst e
    exact ⟨hn.1, by rw [kh_uo (by omega)]; exact hn.2.1, by rw [pk_us, kh_us]⟩
  · exact ⟨hn.1, by rw [kh_uo (by omega)]; exact hn.2.1, by rw [pk_un (kh_ser h ht h0 ht' h0' e), kh_uo (by omega)]; exact hn.2.2⟩
theorem kh_I_make {k m t j : Nat} {n : Int32} {p s lk : Nat → Nat} {NB AL NM LF RT : Nat → Int32} (h : kh_I k m p s lk NB AL NM LF RT) (ht : t < 6) (h0 : s t = 0) : kh_I (k + 4) (m + 1) (kh_un p j (m + 1)) (kh_un s t (m + 1)) (kh_un (kh_un lk (2 * t + 0) 0) (2 * t + 1) 0) (upd NB t n) (upd AL m 1) (upd NM m n) (upd LF m 0) (upd RT m 0) := by
  obtain ⟨h1, h2, h3, h4, inj, ha, hn⟩ := h
  refine ⟨by omega, kh_un_le h2 (by omega) (by omega), kh_un_le h3 (by omega) (by omega), kh_un_le (kh_un_le h4 (Nat.le_refl m) (Nat.zero_le m)) (by omega) (by omega), fun t1 t2 ht1 ht2 e n0 => ?_, fun r hr => ?_, fun t' ht' n0 => ?_⟩
  · by_cases e1 : t1 = t
    · by_cases e2 : t2 = t
      · omega
      · rw [e1, kh_us, kh_uo e2] at e
        have := h3 t2
        omega
    · by_cases e2 : t2 = t
      · rw [e2, kh_us, kh_uo e1] at e
        have := h3 t1
        omega
      · rw [kh_uo e1, kh_uo e2] at e
        rw [kh_uo e1] at n0
        exact inj t1 t2 ht1 ht2 e n0
  · by_cases e : r = m
    · rw [e, pk_us]
      refine ⟨fun z => absurd z kh_10, fun z => ?_⟩
      have := z t ht
      rw [kh_us] at this
      exact absurd rfl this
    · rw [pk_un e, ha r (by omega)]
      refine ⟨fun z t' ht' => ?_, fun z t' ht' => ?_⟩
      · by_cases e' : t' = t
        · rw [e', kh_us]; omega
        · rw [kh_uo e']; exact z t' ht'
      · by_cases e' : t' = t
        · rw [e']; omega
        · have := z t' ht'
          rw [kh_uo e'] at this
          exact this
  · by_cases e' : t' = t
    · rw [e', kh_us, Nat.add_sub_cancel, pk_us, pk_us, pk_us, pk_us, kh_us, kh_uo (by omega), Nat.add_zero, kh_us]
      exact ⟨rfl, nI_0.symm, nI_0.symm⟩
    · rw [kh_uo e'] at n0 ⊢
      have l := h3 t'
      have hn' := hn t' ht' n0
      rw [pk_un e', pk_un (show s t' - 1 ≠ m by omega), pk_un (show s t' - 1 ≠ m by omega), pk_un (show s t' - 1 ≠ m by omega), kh_uo (show 2 * t' ≠ 2 * t + 1 by omega), kh_uo (show 2 * t' ≠ 2 * t + 0 by omega), kh_uo (show 2 * t' + 1 ≠ 2 * t + 1 by omega), kh_uo (show 2 * t' + 1 ≠ 2 * t + 0 by omega)]
      exact hn'
