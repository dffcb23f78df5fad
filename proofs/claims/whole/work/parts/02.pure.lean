/-! pure rows: numbers as Nat, sums, the set that is reached -/
def kh_un (f : Nat → Nat) (k x : Nat) : Nat → Nat := fun j => if j = k then x else f j
def kh_e (f : Nat → Nat) : Nat → Int32 := fun i => nI (f i)
theorem kh_us {f : Nat → Nat} {k x : Nat} : kh_un f k x k = x := if_pos rfl
theorem kh_uo {f : Nat → Nat} {k x j : Nat} (h : j ≠ k) : kh_un f k x j = f j := if_neg h
theorem kh_u {f : Nat → Nat} {k q : Nat} {x : Int32} (hk : k < 2 ^ 31) (hx : x = nI q) : upd (kh_e f) (nI k).toNatClampNeg x = kh_e (kh_un f k q) := by
  rw [nI_clamp hk, hx]
  funext j
  unfold upd kh_e kh_un
  split <;> rfl
theorem kh_at {f : Nat → Nat} {k : Nat} (hk : k < 2 ^ 31) : kh_e f (nI k).toNatClampNeg = nI (f k) := by
  rw [nI_clamp hk]; rfl
theorem kh_un_le {f : Nat → Nat} {k q m m' : Nat} (hf : ∀ i, f i ≤ m) (hm : m ≤ m') (hq : q ≤ m') (i : Nat) : kh_un f k q i ≤ m' := by
  by_cases h : i = k
  · rw [h, kh_us]; exact hq
  · rw [kh_uo h]; exact Nat.le_trans (hf i) hm
def kh_sum (f : Nat → Int32) : Nat → Int32
  | 0 => 0
  | n + 1 => kh_sum f n + f n
def kh_cnt (b : Nat → Bool) : Nat → Nat
  | 0 => 0
  | n + 1 => kh_cnt b n + (if b n = true then 1 else 0)
theorem kh_sum_congr {f g : Nat → Int32} : ∀ n : Nat, (∀ i, i < n → f i = g i) → kh_sum f n = kh_sum g n := by
  intro n
  induction n with
  | zero => intro _; rfl
  | succ n ih =>
    intro h
    show kh_sum f n + f n = kh_sum g n + g n
    rw [ih (fun i hi => h i (by omega)), h n (by omega)]
theorem kh_sum_cnt (b : Nat → Bool) : ∀ n : Nat, kh_sum (fun t => if b t = true then 1 else 0) n = nI (kh_cnt b n) := by
  intro n
  induction n with
  | zero => exact nI_0.symm
  | succ n ih =>
    show kh_sum (fun t => if b t = true then 1 else 0) n + (if b n = true then 1 else 0) = nI (kh_cnt b n + (if b n = true then 1 else 0))
    rw [ih]
    by_cases h : b n = true
    · rw [if_pos h, if_pos h, nI_1]
    · rw [if_neg h, if_neg h, Int32.add_zero, Nat.add_zero]
theorem kh_cnt_le (b : Nat → Bool) : ∀ n : Nat, kh_cnt b n ≤ n := by
  intro n
  induction n with
  | zero => exact Nat.le_refl 0
  | succ n ih =>
    show kh_cnt b n + (if b n = true then 1 else 0) ≤ n + 1
    split <;> omega
theorem kh_cnt_all (b : Nat → Bool) : ∀ n : Nat, n ≤ kh_cnt b n → ∀ i, i < n → b i = true := by
  intro n
  induction n with
  | zero => intro _ i hi; omega
  | succ n ih =>
    intro h i hi
    have h' : n + 1 ≤ kh_cnt b n + (if b n = true then 1 else 0) := h
    have l := kh_cnt_le b n
    by_cases hb : b n = true
    · rw [if_pos hb] at h'
      rcases Nat.lt_or_ge i n with g | g
      · exact ih (by omega) i g
      · have : i = n := by omega
        rw [this]; exact hb
    · rw [if_neg hb] at h'
      omega
theorem kh_cnt_full (b : Nat → Bool) : ∀ n : Nat, (∀ i, i < n → b i = true) → kh_cnt b n = n := by
  intro n
  induction n with
  | zero => intro _; rfl
  | succ n ih =>
    intro h
    show kh_cnt b n + (if b n = true then 1 else 0) = n + 1
    rw [ih (fun i hi => h i (by omega)), if_pos (h n (by omega))]
theorem kh_cnt_mono {a b : Nat → Bool} : ∀ n : Nat, (∀ i, i < n → a i = true → b i = true) → kh_cnt a n ≤ kh_cnt b n := by
  intro n
  induction n with
  | zero => intro _; exact Nat.le_refl 0
  | succ n ih =>
    intro h
    have h1 := ih (fun i hi => h i (by omega))
    show kh_cnt a n + (if a n = true then 1 else 0) ≤ kh_cnt b n + (if b n = true then 1 else 0)
    by_cases ha : a n = true
    · rw [if_pos ha, if_pos (h n (by omega) ha)]; omega
    · rw [if_neg ha]; omega
theorem kh_cnt_grow {a b : Nat → Bool} : ∀ n : Nat, (∀ i, i < n → a i = true → b i = true) → (∃ i, i < n ∧ a i = false ∧ b i = true) → kh_cnt a n < kh_cnt b n := by
  intro n
  induction n with
  | zero => intro _ ⟨i, hi, _⟩; omega
  | succ n ih =>
    intro h ⟨i, hi, ha, hb⟩
    show kh_cnt a n + (if a n = true then 1 else 0) < kh_cnt b n + (if b n = true then 1 else 0)
    have hm := kh_cnt_mono n (fun i hi => h i (by omega))
    rcases Nat.lt_or_ge i n with g | g
    · have h1 := ih (fun i hi => h i (by omega)) ⟨i, g, ha, hb⟩
      by_cases han : a n = true
      · rw [if_pos han, if_pos (h n (by omega) han)]; omega
      · rw [if_neg han]; omega
    · have e : i = n := by omega
      subst e
      rw [hb, ha]
      simp only [Bool.false_eq_true, if_false, if_true]
      omega
/-! the bijection of slots and records -/
def kh_has (s : Nat → Nat) : Nat → Nat → Bool
  | 0, _ => false
  | n + 1, r => decide (s n = r + 1) || kh_has s n r
theorem kh_has_iff (s : Nat → Nat) : ∀ n r : Nat, kh_has s n r = true ↔ ∃ t, t < n ∧ s t = r + 1 := by
  intro n
  induction n with
  | zero => intro r; exact ⟨fun h => by rw [show kh_has s 0 r = false from rfl] at h; exact absurd h (by decide), fun ⟨t, ht, _⟩ => absurd ht (Nat.not_lt_zero t)⟩
  | succ n ih =>
    intro r
    show (decide (s n = r + 1) || kh_has s n r) = true ↔ _
    rw [Bool.or_eq_true, decide_eq_true_eq, ih r]
    constructor
    · rintro (h | ⟨t, ht, h⟩)
      · exact ⟨n, by omega, h⟩
      · exact ⟨t, by omega, h⟩
    · rintro ⟨t, ht, h⟩
      rcases Nat.lt_or_ge t n with g | g
      · exact Or.inr ⟨t, g, h⟩
      · have e : t = n := by omega
        rw [e] at h
        exact Or.inl h
theorem kh_sum_at {f g : Nat → Int32} {q : Nat} {d : Int32} : ∀ n : Nat, q < n → (∀ i, i < n → i ≠ q → g i = f i) → g q = f q + d → kh_sum g n = kh_sum f n + d := by
  intro n
  induction n with
  | zero => intro h; omega
  | succ n ih =>
    intro h hne he
    show kh_sum g n + g n = kh_sum f n + f n + d
    rcases Nat.lt_or_ge q n with c | c
    · rw [ih c (fun i hi => hne i (by omega)) he, hne n (by omega) (by omega), Int32.add_assoc, Int32.add_assoc, Int32.add_comm d]
    · have e : q = n := by omega
      subst e
      rw [kh_sum_congr q (fun i hi => hne i (by omega) (by omega)), he, Int32.add_assoc]
theorem kh_bij (w : Nat → Int32) (s : Nat → Nat) (m : Nat) (hs : ∀ t, s t ≤ m) : ∀ n : Nat, (∀ t t', t < n → t' < n → s t = s t' → s t ≠ 0 → t = t') → kh_sum (fun t => if s t = 0 then 0 else w (s t - 1)) n = kh_sum (fun r => if kh_has s n r = true then w r else 0) m := by
  intro n
  induction n with
  | zero =>
    intro _
    have : ∀ m : Nat, kh_sum (fun r => if kh_has s 0 r = true then w r else 0) m = 0 := by
      intro m
      induction m with
      | zero => rfl
      | succ m ih =>
        show kh_sum (fun r => if kh_has s 0 r = true then w r else 0) m + (if kh_has s 0 m = true then w m else 0) = 0
        rw [ih]
        exact Int32.add_zero 0
    exact (this m).symm
  | succ n ih =>
    intro inj
    have ih' := ih (fun t t' h h' => inj t t' (by omega) (by omega))
    show kh_sum (fun t => if s t = 0 then 0 else w (s t - 1)) n + (if s n = 0 then 0 else w (s n - 1)) = _
    rw [ih']
    by_cases h0 : s n = 0
    · rw [if_pos h0, Int32.add_zero]
      refine kh_sum_congr m (fun r _ => ?_)
      have e : kh_has s (n + 1) r = kh_has s n r := by
        show (decide (s n = r + 1) || kh_has s n r) = _
        rw [decide_eq_false (by omega), Bool.false_or]
      show (if kh_has s n r = true then w r else 0) = (if kh_has s (n + 1) r = true then w r else 0)
      rw [e]
    · rw [if_neg h0]
      refine (kh_sum_at (q := s n - 1) m (by have := hs n; omega) (fun r _ hr => ?_) ?_).symm
      · have e : kh_has s (n + 1) r = kh_has s n r := by
          show (decide (s n = r + 1) || kh_has s n r) = _
          rw [decide_eq_false (by omega), Bool.false_or]
        show (if kh_has s (n + 1) r = true then w r else 0) = (if kh_has s n r = true then w r else 0)
        rw [e]
      · have e1 : kh_has s (n + 1) (s n - 1) = true := (kh_has_iff s (n + 1) (s n - 1)).mpr ⟨n, by omega, by omega⟩
        have e2 : ¬ kh_has s n (s n - 1) = true := by
          intro h
          obtain ⟨t, ht, h⟩ := (kh_has_iff s n (s n - 1)).mp h
          have := inj t n (by omega) (by omega) (by omega) (by omega)
          omega
        show (if kh_has s (n + 1) (s n - 1) = true then w (s n - 1) else 0) = (if kh_has s n (s n - 1) = true then w (s n - 1) else 0) + w (s n - 1)
        rw [if_pos e1, if_neg e2, Int32.zero_add]
/-! what is reached, over slots -/
def kh_Root (p s : Nat → Nat) (t : Nat) : Prop := s t ≠ 0 ∧ ∃ i, i < 8 ∧ p i = s t
def kh_E (s lk : Nat → Nat) (t t' : Nat) : Prop := s t' ≠ 0 ∧ (lk (2 * t) = s t' ∨ lk (2 * t + 1) = s t')
def kh_Re (p s lk : Nat → Nat) (t : Nat) : Prop := ∀ C : Nat → Prop, (∀ a, a < 6 → kh_Root p s a → C a) → (∀ a b, a < 6 → b < 6 → C a → kh_E s lk a b → C b) → C t
theorem kh_Re_root {p s lk : Nat → Nat} {t : Nat} (ht : t < 6) (h : kh_Root p s t) : kh_Re p s lk t := fun _ hr _ => hr t ht h
theorem kh_Re_step {p s lk : Nat → Nat} {a b : Nat} (ha : a < 6) (hb : b < 6) (h : kh_Re p s lk a) (e : kh_E s lk a b) : kh_Re p s lk b := fun C hr hs => hs a b ha hb (h C hr hs) e
theorem kh_Re_live {p s lk : Nat → Nat} {t : Nat} (h : kh_Re p s lk t) : s t ≠ 0 := h (fun t => s t ≠ 0) (fun _ _ h => h.1) (fun _ _ _ _ _ e => e.1)
/-- a set of slots on the way: roots are in it, all of it is reached, and it is whole or has i members -/
def kh_J (p s lk : Nat → Nat) (i : Nat) (A : Nat → Bool) : Prop :=
  (∀ t, t < 6 → kh_Root p s t → A t = true) ∧ (∀ t, t < 6 → A t = true → kh_Re p s lk t) ∧ ((∀ t, t < 6 → kh_Re p s lk t → A t = true) ∨ i ≤ kh_cnt A 6)
theorem kh_J_step {p s lk : Nat → Nat} {i : Nat} {A B : Nat → Bool} (h : kh_J p s lk i A) (h1 : ∀ t, t < 6 → A t = true → B t = true) (h2 : ∀ t t', t < 6 → t' < 6 → A t = true → kh_E s lk t t' → B t' = true) (h3 : ∀ t, t < 6 → B t = true → kh_Re p s lk t) : kh_J p s lk (i + 1) B := by
  obtain ⟨r, _, d⟩ := h
  refine ⟨fun t ht hr => h1 t ht (r t ht hr), h3, ?_⟩
  rcases d with d | d
  · exact Or.inl (fun t ht hr => h1 t ht (d t ht hr))
  · by_cases g : ∃ t, t < 6 ∧ A t = false ∧ B t = true
    · have := kh_cnt_grow 6 h1 g
      exact Or.inr (by omega)
    · refine Or.inl (fun t ht hr => ?_)
      have same : ∀ t, t < 6 → B t = true → A t = true := by
        intro t ht hb
        cases ha : A t with
        | true => rfl
        | false => exact absurd ⟨t, ht, ha, hb⟩ g
      have := hr (fun t => t < 6 → A t = true) (fun a _ hr ha => r a ha hr) (fun a b ha hb ca e hb' => same b hb (h2 a b ha hb (ca ha) e))
      exact h1 t ht (this ht)
theorem kh_J_end {p s lk : Nat → Nat} {A : Nat → Bool} (h : kh_J p s lk 6 A) (t : Nat) (ht : t < 6) : A t = true ↔ kh_Re p s lk t := by
  obtain ⟨_, a, d⟩ := h
  refine ⟨a t ht, fun hr => ?_⟩
  rcases d with d | d
  · exact d t ht hr
  · exact kh_cnt_all A 6 d t ht
theorem kh_J_0 {p s lk : Nat → Nat} {A : Nat → Bool} (r : ∀ t, t < 6 → kh_Root p s t → A t = true) (h : ∀ t, t < 6 → A t = true → kh_Re p s lk t) : kh_J p s lk 0 A := ⟨r, h, Or.inr (Nat.zero_le _)⟩
theorem kh_J_1 {p s lk : Nat → Nat} {A : Nat → Bool} (h : ∀ t, t < 6 → (A t = true ↔ kh_Root p s t)) : kh_J p s lk 1 A := by
  refine ⟨fun t ht hr => (h t ht).mpr hr, fun t ht ha => kh_Re_root ht ((h t ht).mp ha), ?_⟩
  by_cases g : ∃ t, t < 6 ∧ A t = true
  · obtain ⟨t, ht, ha⟩ := g
    have := kh_cnt_grow (a := fun _ => false) (b := A) 6 (fun _ _ z => absurd z (by decide)) ⟨t, ht, rfl, ha⟩
    exact Or.inr (by omega)
  · refine Or.inl (fun t ht hr => ?_)
    exact absurd (hr (fun _ => False) (fun a ha hr => g ⟨a, ha, (h a ha).mpr hr⟩) (fun _ _ _ _ c _ => c)) id
