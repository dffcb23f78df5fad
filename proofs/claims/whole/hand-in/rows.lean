section
theorem pk_us {f : Nat → Int32} {k : Nat} {x : Int32} : upd f k x k = x := if_pos rfl
theorem pk_un {f : Nat → Int32} {k j : Nat} {x : Int32} (h : j ≠ k) : upd f k x j = f j := if_neg h
theorem pk_sub {a b : Nat} (h : b ≤ a) : nI a - nI b = nI (a - b) := by
  obtain ⟨c, rfl⟩ : ∃ c, a = c + b := ⟨a - b, by omega⟩
  rw [← nI_add, Int32.add_sub_cancel, Nat.add_sub_cancel]
theorem pk_mul (a b : Nat) : nI a * nI b = nI (a * b) := (Int32.ofNat_mul a b).symm
theorem pk_div {a d : Nat} (ha : a < 2 ^ 31) (h0 : 0 < d) (hd : d < 2 ^ 31) : nI a / nI d = nI (a / d) := by
  apply Int32.toInt_inj.mp
  rw [lg_idiv_nonneg (by rw [nI_toInt ha]; omega) (by rw [nI_toInt hd]; omega), nI_toInt ha, nI_toInt hd, nI_toInt (Nat.lt_of_le_of_lt (Nat.div_le_self a d) ha)]
  first | rfl | exact (Int.natCast_ediv _ _).symm
theorem pk_ix (x : Int32) {n : Nat} (hn : n < 2 ^ 31) : x < 0 ∨ nI n ≤ x ∨ ∃ j : Nat, j < n ∧ x = nI j := by
  by_cases h : x < 0
  · exact Or.inl h
  · obtain ⟨j, hj, rfl⟩ := nI_of h
    by_cases h2 : j < n
    · exact Or.inr (Or.inr ⟨j, h2, rfl⟩)
    · exact Or.inr (Or.inl (nI_le (by omega) hj))
theorem pk_in {x : Int32} (n N : Nat) (h : n < N) (hx : x = nI n := by rfl) (hN : N < 2 ^ 31 := by omega) : vp_in x N := by
  subst hx
  exact vp_in_nI h hN
theorem pk_cl {x : Int32} (n : Nat) (hx : x = nI n := by rfl) (h : n < 2 ^ 31 := by omega) : x.toNatClampNeg = n := by
  subst hx
  exact nI_clamp h
def bt (x : Int32) (i : Nat) : Bool := x.toBitVec.getLsbD i
theorem b_ext {x y : Int32} (h : ∀ i, i < 32 → bt x i = bt y i) : x = y := Int32.toBitVec_inj.mp (BitVec.eq_of_getLsbD_eq (fun i hi => h i hi))
theorem b_or (x y : Int32) (i : Nat) : bt (x ||| y) i = (bt x i || bt y i) := by unfold bt; rw [Int32.toBitVec_or, BitVec.getLsbD_or]
theorem b_and (x y : Int32) (i : Nat) : bt (x &&& y) i = (bt x i && bt y i) := by unfold bt; rw [Int32.toBitVec_and, BitVec.getLsbD_and]
theorem b_big {x : Int32} {i : Nat} (h : 32 ≤ i) : bt x i = false := BitVec.getLsbD_of_ge _ _ h
theorem b_0 (i : Nat) : bt 0 i = false := BitVec.getLsbD_zero
theorem s_l : ∀ n, n < 32 → ((nI n &&& 31).toBitVec.smod 32).toNat = n := by decide +kernel
theorem b_sshr (n : Nat) (hn : n < 32) (x : Int32) {i : Nat} (hi : i < 32) : bt (x >>> (nI n &&& 31)) i = if n + i < 32 then bt x (n + i) else bt x 31 := by
  unfold bt
  rw [Int32.toBitVec_shiftRight]
  show (x.toBitVec.sshiftRight ((nI n &&& 31).toBitVec.smod 32).toNat).getLsbD i = _
  rw [s_l n hn, BitVec.getLsbD_sshiftRight, BitVec.msb_eq_getLsbD_last]
  simp [hi]
theorem nf_sh : ∀ l, l < 32 → ((1 : Int32) <<< (nI l &&& 31)).toBitVec = BitVec.twoPow 32 l := by decide +kernel
end
section
/-! pure rows: numbers as Nat, sums, the set that is reached -/
def kh_un (f : Nat → Nat) (k x : Nat) : Nat → Nat := fun j => if j = k then x else f j
def kh_e (f : Nat → Nat) : Nat → Int32 := fun i => nI (f i)
theorem kh_us {f : Nat → Nat} {k x : Nat} : kh_un f k x k = x := if_pos rfl
theorem kh_uo {f : Nat → Nat} {k x j : Nat} (h : j ≠ k) : kh_un f k x j = f j := if_neg h
theorem kh_u {f : Nat → Nat} {k q : Nat} {x : Int32} (hk : k < 2 ^ 31) (hx : x = nI q) : upd (kh_e f) (nI k).toNatClampNeg x = kh_e (kh_un f k q) := by
  rw [nI_clamp hk, hx]
  funext j
  unfold upd kh_e kh_un
  split <;> rfl
theorem kh_at {f : Nat → Nat} {k : Nat} (hk : k < 2 ^ 31) : kh_e f (nI k).toNatClampNeg = nI (f k) := by
  rw [nI_clamp hk]; rfl
theorem kh_un_le {f : Nat → Nat} {k q m m' : Nat} (hf : ∀ i, f i ≤ m) (hm : m ≤ m') (hq : q ≤ m') (i : Nat) : kh_un f k q i ≤ m' := by
  by_cases h : i = k
  · rw [h, kh_us]; exact hq
  · rw [kh_uo h]; exact Nat.le_trans (hf i) hm
def kh_sum (f : Nat → Int32) : Nat → Int32
  | 0 => 0
  | n + 1 => kh_sum f n + f n
def kh_cnt (b : Nat → Bool) : Nat → Nat
  | 0 => 0
  | n + 1 => kh_cnt b n + (if b n = true then 1 else 0)
theorem kh_sum_congr {f g : Nat → Int32} : ∀ n : Nat, (∀ i, i < n → f i = g i) → kh_sum f n = kh_sum g n := by
  intro n
  induction n with
  | zero => intro _; rfl
  | succ n ih =>
    intro h
    show kh_sum f n + f n = kh_sum g n + g n
    rw [ih (fun i hi => h i (by omega)), h n (by omega)]
theorem kh_sum_cnt (b : Nat → Bool) : ∀ n : Nat, kh_sum (fun t => if b t = true then 1 else 0) n = nI (kh_cnt b n) := by
  intro n
  induction n with
  | zero => exact nI_0.symm
  | succ n ih =>
    show kh_sum (fun t => if b t = true then 1 else 0) n + (if b n = true then 1 else 0) = nI (kh_cnt b n + (if b n = true then 1 else 0))
    rw [ih]
    by_cases h : b n = true
    · rw [if_pos h, if_pos h, nI_1]
    · rw [if_neg h, if_neg h, Int32.add_zero, Nat.add_zero]
theorem kh_cnt_le (b : Nat → Bool) : ∀ n : Nat, kh_cnt b n ≤ n := by
  intro n
  induction n with
  | zero => exact Nat.le_refl 0
  | succ n ih =>
    show kh_cnt b n + (if b n = true then 1 else 0) ≤ n + 1
    split <;> omega
theorem kh_cnt_all (b : Nat → Bool) : ∀ n : Nat, n ≤ kh_cnt b n → ∀ i, i < n → b i = true := by
  intro n
  induction n with
  | zero => intro _ i hi; omega
  | succ n ih =>
    intro h i hi
    have h' : n + 1 ≤ kh_cnt b n + (if b n = true then 1 else 0) := h
    have l := kh_cnt_le b n
    by_cases hb : b n = true
    · rw [if_pos hb] at h'
      rcases Nat.lt_or_ge i n with g | g
      · exact ih (by omega) i g
      · have : i = n := by omega
        rw [this]; exact hb
    · rw [if_neg hb] at h'
      omega
theorem kh_cnt_full (b : Nat → Bool) : ∀ n : Nat, (∀ i, i < n → b i = true) → kh_cnt b n = n := by
  intro n
  induction n with
  | zero => intro _; rfl
  | succ n ih =>
    intro h
    show kh_cnt b n + (if b n = true then 1 else 0) = n + 1
    rw [ih (fun i hi => h i (by omega)), if_pos (h n (by omega))]
theorem kh_cnt_mono {a b : Nat → Bool} : ∀ n : Nat, (∀ i, i < n → a i = true → b i = true) → kh_cnt a n ≤ kh_cnt b n := by
  intro n
  induction n with
  | zero => intro _; exact Nat.le_refl 0
  | succ n ih =>
    intro h
    have h1 := ih (fun i hi => h i (by omega))
    show kh_cnt a n + (if a n = true then 1 else 0) ≤ kh_cnt b n + (if b n = true then 1 else 0)
    by_cases ha : a n = true
    · rw [if_pos ha, if_pos (h n (by omega) ha)]; omega
    · rw [if_neg ha]; omega
theorem kh_cnt_grow {a b : Nat → Bool} : ∀ n : Nat, (∀ i, i < n → a i = true → b i = true) → (∃ i, i < n ∧ a i = false ∧ b i = true) → kh_cnt a n < kh_cnt b n := by
  intro n
  induction n with
  | zero => intro _ ⟨i, hi, _⟩; omega
  | succ n ih =>
    intro h ⟨i, hi, ha, hb⟩
    show kh_cnt a n + (if a n = true then 1 else 0) < kh_cnt b n + (if b n = true then 1 else 0)
    have hm := kh_cnt_mono n (fun i hi => h i (by omega))
    rcases Nat.lt_or_ge i n with g | g
    · have h1 := ih (fun i hi => h i (by omega)) ⟨i, g, ha, hb⟩
      by_cases han : a n = true
      · rw [if_pos han, if_pos (h n (by omega) han)]; omega
      · rw [if_neg han]; omega
    · have e : i = n := by omega
      subst e
      rw [hb, ha]
      simp only [Bool.false_eq_true, if_false, if_true]
      omega
/-! the bijection of slots and records -/
def kh_has (s : Nat → Nat) : Nat → Nat → Bool
  | 0, _ => false
  | n + 1, r => decide (s n = r + 1) || kh_has s n r
theorem kh_has_iff (s : Nat → Nat) : ∀ n r : Nat, kh_has s n r = true ↔ ∃ t, t < n ∧ s t = r + 1 := by
  intro n
  induction n with
  | zero => intro r; exact ⟨fun h => by rw [show kh_has s 0 r = false from rfl] at h; exact absurd h (by decide), fun ⟨t, ht, _⟩ => absurd ht (Nat.not_lt_zero t)⟩
  | succ n ih =>
    intro r
    show (decide (s n = r + 1) || kh_has s n r) = true ↔ _
    rw [Bool.or_eq_true, decide_eq_true_eq, ih r]
    constructor
    · rintro (h | ⟨t, ht, h⟩)
      · exact ⟨n, by omega, h⟩
      · exact ⟨t, by omega, h⟩
    · rintro ⟨t, ht, h⟩
      rcases Nat.lt_or_ge t n with g | g
      · exact Or.inr ⟨t, g, h⟩
      · have e : t = n := by omega
        rw [e] at h
        exact Or.inl h
theorem kh_sum_at {f g : Nat → Int32} {q : Nat} {d : Int32} : ∀ n : Nat, q < n → (∀ i, i < n → i ≠ q → g i = f i) → g q = f q + d → kh_sum g n = kh_sum f n + d := by
  intro n
  induction n with
  | zero => intro h; omega
  | succ n ih =>
    intro h hne he
    show kh_sum g n + g n = kh_sum f n + f n + d
    rcases Nat.lt_or_ge q n with c | c
    · rw [ih c (fun i hi => hne i (by omega)) he, hne n (by omega) (by omega), Int32.add_assoc, Int32.add_assoc, Int32.add_comm d]
    · have e : q = n := by omega
      subst e
      rw [kh_sum_congr q (fun i hi => hne i (by omega) (by omega)), he, Int32.add_assoc]
theorem kh_bij (w : Nat → Int32) (s : Nat → Nat) (m : Nat) (hs : ∀ t, s t ≤ m) : ∀ n : Nat, (∀ t t', t < n → t' < n → s t = s t' → s t ≠ 0 → t = t') → kh_sum (fun t => if s t = 0 then 0 else w (s t - 1)) n = kh_sum (fun r => if kh_has s n r = true then w r else 0) m := by
  intro n
  induction n with
  | zero =>
    intro _
    have : ∀ m : Nat, kh_sum (fun r => if kh_has s 0 r = true then w r else 0) m = 0 := by
      intro m
      induction m with
      | zero => rfl
      | succ m ih =>
        show kh_sum (fun r => if kh_has s 0 r = true then w r else 0) m + (if kh_has s 0 m = true then w m else 0) = 0
        rw [ih]
        exact Int32.add_zero 0
    exact (this m).symm
  | succ n ih =>
    intro inj
    have ih' := ih (fun t t' h h' => inj t t' (by omega) (by omega))
    show kh_sum (fun t => if s t = 0 then 0 else w (s t - 1)) n + (if s n = 0 then 0 else w (s n - 1)) = _
    rw [ih']
    by_cases h0 : s n = 0
    · rw [if_pos h0, Int32.add_zero]
      refine kh_sum_congr m (fun r _ => ?_)
      have e : kh_has s (n + 1) r = kh_has s n r := by
        show (decide (s n = r + 1) || kh_has s n r) = _
        rw [decide_eq_false (by omega), Bool.false_or]
      show (if kh_has s n r = true then w r else 0) = (if kh_has s (n + 1) r = true then w r else 0)
      rw [e]
    · rw [if_neg h0]
      refine (kh_sum_at (q := s n - 1) m (by have := hs n; omega) (fun r _ hr => ?_) ?_).symm
      · have e : kh_has s (n + 1) r = kh_has s n r := by
          show (decide (s n = r + 1) || kh_has s n r) = _
          rw [decide_eq_false (by omega), Bool.false_or]
        show (if kh_has s (n + 1) r = true then w r else 0) = (if kh_has s n r = true then w r else 0)
        rw [e]
      · have e1 : kh_has s (n + 1) (s n - 1) = true := (kh_has_iff s (n + 1) (s n - 1)).mpr ⟨n, by omega, by omega⟩
        have e2 : ¬ kh_has s n (s n - 1) = true := by
          intro h
          obtain ⟨t, ht, h⟩ := (kh_has_iff s n (s n - 1)).mp h
          have := inj t n (by omega) (by omega) (by omega) (by omega)
          omega
        show (if kh_has s (n + 1) (s n - 1) = true then w (s n - 1) else 0) = (if kh_has s n (s n - 1) = true then w (s n - 1) else 0) + w (s n - 1)
        rw [if_pos e1, if_neg e2, Int32.zero_add]
/-! what is reached, over slots -/
def kh_Root (p s : Nat → Nat) (t : Nat) : Prop := s t ≠ 0 ∧ ∃ i, i < 8 ∧ p i = s t
def kh_E (s lk : Nat → Nat) (t t' : Nat) : Prop := s t' ≠ 0 ∧ (lk (2 * t) = s t' ∨ lk (2 * t + 1) = s t')
def kh_Re (p s lk : Nat → Nat) (t : Nat) : Prop := ∀ C : Nat → Prop, (∀ a, a < 6 → kh_Root p s a → C a) → (∀ a b, a < 6 → b < 6 → C a → kh_E s lk a b → C b) → C t
theorem kh_Re_root {p s lk : Nat → Nat} {t : Nat} (ht : t < 6) (h : kh_Root p s t) : kh_Re p s lk t := fun _ hr _ => hr t ht h
theorem kh_Re_step {p s lk : Nat → Nat} {a b : Nat} (ha : a < 6) (hb : b < 6) (h : kh_Re p s lk a) (e : kh_E s lk a b) : kh_Re p s lk b := fun C hr hs => hs a b ha hb (h C hr hs) e
theorem kh_Re_live {p s lk : Nat → Nat} {t : Nat} (h : kh_Re p s lk t) : s t ≠ 0 := h (fun t => s t ≠ 0) (fun _ _ h => h.1) (fun _ _ _ _ _ e => e.1)
/-- a set of slots on the way: roots are in it, all of it is reached, and it is whole or has i members -/
def kh_J (p s lk : Nat → Nat) (i : Nat) (A : Nat → Bool) : Prop :=
  (∀ t, t < 6 → kh_Root p s t → A t = true) ∧ (∀ t, t < 6 → A t = true → kh_Re p s lk t) ∧ ((∀ t, t < 6 → kh_Re p s lk t → A t = true) ∨ i ≤ kh_cnt A 6)
theorem kh_J_step {p s lk : Nat → Nat} {i : Nat} {A B : Nat → Bool} (h : kh_J p s lk i A) (h1 : ∀ t, t < 6 → A t = true → B t = true) (h2 : ∀ t t', t < 6 → t' < 6 → A t = true → kh_E s lk t t' → B t' = true) (h3 : ∀ t, t < 6 → B t = true → kh_Re p s lk t) : kh_J p s lk (i + 1) B := by
  obtain ⟨r, _, d⟩ := h
  refine ⟨fun t ht hr => h1 t ht (r t ht hr), h3, ?_⟩
  rcases d with d | d
  · exact Or.inl (fun t ht hr => h1 t ht (d t ht hr))
  · by_cases g : ∃ t, t < 6 ∧ A t = false ∧ B t = true
    · have := kh_cnt_grow 6 h1 g
      exact Or.inr (by omega)
    · refine Or.inl (fun t ht hr => ?_)
      have same : ∀ t, t < 6 → B t = true → A t = true := by
        intro t ht hb
        cases ha : A t with
        | true => rfl
        | false => exact absurd ⟨t, ht, ha, hb⟩ g
      have := hr (fun t => t < 6 → A t = true) (fun a _ hr ha => r a ha hr) (fun a b ha hb ca e hb' => same b hb (h2 a b ha hb (ca ha) e))
      exact h1 t ht (this ht)
theorem kh_J_end {p s lk : Nat → Nat} {A : Nat → Bool} (h : kh_J p s lk 6 A) (t : Nat) (ht : t < 6) : A t = true ↔ kh_Re p s lk t := by
  obtain ⟨_, a, d⟩ := h
  refine ⟨a t ht, fun hr => ?_⟩
  rcases d with d | d
  · exact d t ht hr
  · exact kh_cnt_all A 6 d t ht
theorem kh_J_0 {p s lk : Nat → Nat} {A : Nat → Bool} (r : ∀ t, t < 6 → kh_Root p s t → A t = true) (h : ∀ t, t < 6 → A t = true → kh_Re p s lk t) : kh_J p s lk 0 A := ⟨r, h, Or.inr (Nat.zero_le _)⟩
theorem kh_J_1 {p s lk : Nat → Nat} {A : Nat → Bool} (h : ∀ t, t < 6 → (A t = true ↔ kh_Root p s t)) : kh_J p s lk 1 A := by
  refine ⟨fun t ht hr => (h t ht).mpr hr, fun t ht ha => kh_Re_root ht ((h t ht).mp ha), ?_⟩
  by_cases g : ∃ t, t < 6 ∧ A t = true
  · obtain ⟨t, ht, ha⟩ := g
    have := kh_cnt_grow (a := fun _ => false) (b := A) 6 (fun _ _ z => absurd z (by decide)) ⟨t, ht, rfl, ha⟩
    exact Or.inr (by omega)
  · refine Or.inl (fun t ht hr => ?_)
    exact absurd (hr (fun _ => False) (fun a ha hr => g ⟨a, ha, (h a ha).mpr hr⟩) (fun _ _ _ _ c _ => c)) id
end
section
/-! the small methods, each with a general post -/
theorem kh_ix (x : Int32) {n : Nat} (hn : n < 2 ^ 31) : (x < 0 ∨ nI n ≤ x) ∨ ∃ j : Nat, j < n ∧ x = nI j := by
  rcases pk_ix x hn with h | h | h
  · exact Or.inl (Or.inl h)
  · exact Or.inl (Or.inr h)
  · exact Or.inr h
theorem kx_varN {post : Int32 → Prop} {v : Int32} (h : v < 0 ∨ nI 8 ≤ v) (hp : post 0) : wpX_isVariable post v := by
  unfold wpX_isVariable
  by_cases h0 : v < 0
  · exact br_t h0 hp
  · exact br_f h0 (br_t (h.resolve_left h0) hp)
theorem kx_varY {post : Int32 → Prop} {j : Nat} (hj : j < 8) (hp : post 1) : wpX_isVariable post (nI j) := by
  unfold wpX_isVariable
  exact br_f (nI_pos (by omega)) (br_f (nI_ge (b := 8) hj (by decide)) hp)
theorem ky_varN {post : Int32 → Prop} {u : SY} {v : Int32} (h : v < 0 ∨ nI 8 ≤ v) (hp : post 0) : wpY_var post u v := by
  obtain ⟨f, a1, a2, a3, a4, a5, a6⟩ := u
  unfold wpY_var
  by_cases h0 : v < 0
  · exact br_t h0 hp
  · exact br_f h0 (br_t (h.resolve_left h0) hp)
theorem ky_varY {post : Int32 → Prop} {u : SY} {j : Nat} (hj : j < 8) (hp : post 1) : wpY_var post u (nI j) := by
  obtain ⟨f, a1, a2, a3, a4, a5, a6⟩ := u
  unfold wpY_var
  exact br_f (nI_pos (by omega)) (br_f (nI_ge (b := 8) hj (by decide)) hp)
theorem kx_lkN {post : Int32 → Prop} {v : Int32} (h : v < 0 ∨ nI 2 ≤ v) (hp : post 0) : wpX_isLink post v := by
  unfold wpX_isLink
  by_cases h0 : v < 0
  · exact br_t h0 hp
  · exact br_f h0 (br_t (h.resolve_left h0) hp)
theorem kx_lkY {post : Int32 → Prop} {j : Nat} (hj : j < 2) (hp : post 1) : wpX_isLink post (nI j) := by
  unfold wpX_isLink
  exact br_f (nI_pos (by omega)) (br_f (nI_ge (b := 2) hj (by decide)) hp)
theorem kh_k0 {v : Int32} (h : v < 0 ∨ nI 2 ≤ v) : ¬ v = 0 := by
  intro e
  subst e
  revert h
  decide
theorem kh_k1 {v : Int32} (h : v < 0 ∨ nI 2 ≤ v) : ¬ v = 1 := by
  intro e
  subst e
  revert h
  decide
theorem kh_pl (t b : Nat) : nI t * 2 + nI b = nI (2 * t + b) := by
  show nI t * nI 2 + nI b = _
  rw [pk_mul, nI_add, Nat.mul_comm]
theorem kx_pl {post : Int32 → Prop} {t b : Nat} {y : Int32} (hy : y = nI b) (hp : post (nI (2 * t + b))) : wpX_linkPlace post (nI t) y := by
  subst hy
  unfold wpX_linkPlace
  rw [kh_pl]
  exact hp
theorem kh_10 : ¬ (1 : Int32) = 0 := by decide
theorem kh_m1 {q : Nat} (h0 : q ≠ 0) : nI q - 1 = nI (q - 1) := by
  obtain ⟨r, rfl⟩ : ∃ r, q = r + 1 := ⟨q - 1, by omega⟩
  exact nI_pred r
theorem kh_ne {t : Nat} (ht : t < 6) : ¬ nI t = (-1) := (by decide +kernel : ∀ t, t < 6 → ¬ nI t = (-1)) t ht
/-! X: slotOf, freeSlot, kindOf, faultOf -/
theorem kx_slot_loop {post : Int32 → Prop} {q : Nat} {f : Int32} {A NB LK : Nat → Int32} {s : Nat → Nat} (hq : q < 2 ^ 31) (hs : ∀ t, s t < 2 ^ 31) (H : ∀ t, t < 6 → s t = q → post (nI t)) (H' : (∀ t, t < 6 → s t ≠ q) → post (-1)) : ∀ d j : Nat, j + d = 6 → (∀ t, t < j → s t ≠ q) → wX_slotOf_8 post (nI q) f A (kh_e s) NB LK (d + 1) (nI j) := by
  intro d
  induction d with
  | zero =>
    intro j hj h
    have e : j = 6 := by omega
    subst e
    exact br_t (nI_le (a := 6) (Nat.le_refl _) (by decide)) (H' h)
  | succ d ih =>
    intro j hj h
    have e : kh_e s (nI j).toNatClampNeg = nI q ↔ s j = q := by rw [kh_at (by omega), nI_eq (hs j) hq]
    refine br_f (nI_ge (b := 6) (by omega) (by decide)) ⟨vp_in_nI (by omega) (by decide), br_c (fun z => H j (by omega) (e.mp z)) (fun z => nm_r (nI_1 j) (ih (j + 1) (by omega) ?_))⟩
    intro t ht
    rcases Nat.lt_or_ge t j with g | g
    · exact h t g
    · have e' : t = j := by omega
      rw [e']
      exact fun z' => z (e.mpr z')
theorem kx_slotN {post : Int32 → Prop} {q : Nat} {x f : Int32} {A NB LK : Nat → Int32} {s : Nat → Nat} (hx : x = nI q) (hq : q < 2 ^ 31) (hs : ∀ t, s t < 2 ^ 31) (h : q = 0 ∨ ∀ t, t < 6 → s t ≠ q) (hp : post (-1)) : wpX_slotOf post (f, A, kh_e s, NB, LK) x := by
  subst hx
  unfold wpX_slotOf
  refine br_c (fun _ => hp) (fun z => ⟨7, ?_⟩)
  have h' : ∀ t, t < 6 → s t ≠ q := by
    rcases h with h | h
    · subst h; exact absurd nI_0 z
    · exact h
  exact kx_slot_loop hq hs (fun t ht e => absurd e (h' t ht)) (fun _ => hp) 6 0 rfl (fun t ht => absurd ht (Nat.not_lt_zero t))
theorem kx_slotY {post : Int32 → Prop} {q t : Nat} {x f : Int32} {A NB LK : Nat → Int32} {s : Nat → Nat} (hx : x = nI q) (hq : q < 2 ^ 31) (hs : ∀ t, s t < 2 ^ 31) (h0 : q ≠ 0) (ht : t < 6) (he : s t = q) (un : ∀ t', t' < 6 → s t' = q → t' = t) (hp : post (nI t)) : wpX_slotOf post (f, A, kh_e s, NB, LK) x := by
  subst hx
  unfold wpX_slotOf
  refine br_f (nI_ne0 (by omega) hq) ⟨7, ?_⟩
  exact kx_slot_loop hq hs (fun t' ht' e => by rw [un t' ht' e]; exact hp) (fun h => absurd he (h t ht)) 6 0 rfl (fun t ht => absurd ht (Nat.not_lt_zero t))
theorem kx_free_loop {post : Int32 → Prop} {f : Int32} {A NB LK : Nat → Int32} {s : Nat → Nat} (hs : ∀ t, s t < 2 ^ 31) (H : ∀ t, t < 6 → s t = 0 → post (nI t)) (H' : (∀ t, t < 6 → s t ≠ 0) → post (-1)) : ∀ d j : Nat, j + d = 6 → (∀ t, t < j → s t ≠ 0) → wX_freeSlot_2 post f A (kh_e s) NB LK (d + 1) (nI j) := by
  intro d
  induction d with
  | zero =>
    intro j hj h
    have e : j = 6 := by omega
    subst e
    exact br_t (nI_le (a := 6) (Nat.le_refl _) (by decide)) (H' h)
  | succ d ih =>
    intro j hj h
    have e : kh_e s (nI j).toNatClampNeg = 0 ↔ s j = 0 := by rw [kh_at (by omega), ← nI_0, nI_eq (hs j) (by decide)]
    refine br_f (nI_ge (b := 6) (by omega) (by decide)) ⟨vp_in_nI (by omega) (by decide), br_c (fun z => H j (by omega) (e.mp z)) (fun z => nm_r (nI_1 j) (ih (j + 1) (by omega) ?_))⟩
    intro t ht
    rcases Nat.lt_or_ge t j with g | g
    · exact h t g
    · have e' : t = j := by omega
      rw [e']
      exact fun z' => z (e.mpr z')
theorem kx_free {post : Int32 → Prop} {f : Int32} {A NB LK : Nat → Int32} {s : Nat → Nat} (hs : ∀ t, s t < 2 ^ 31) (H : ∀ t, t < 6 → s t = 0 → post (nI t)) (H' : (∀ t, t < 6 → s t ≠ 0) → post (-1)) : wpX_freeSlot post (f, A, kh_e s, NB, LK) := by
  unfold wpX_freeSlot
  exact ⟨7, kx_free_loop hs H H' 6 0 rfl (fun t ht => absurd ht (Nat.not_lt_zero t))⟩
theorem kx_kind0 {post : Int32 → Prop} {u : SX} {x : Int32} (hx : x = nI 0) (hp : post 0) : wpX_kindOf post u x := by
  obtain ⟨f, a1, a2, a3, a4⟩ := u
  subst hx
  unfold wpX_kindOf
  exact br_t nI_0 hp
theorem kx_kind2 {post : Int32 → Prop} {q : Nat} {x f : Int32} {A NB LK : Nat → Int32} {s : Nat → Nat} (hx : x = nI q) (hq : q < 2 ^ 31) (hs : ∀ t, s t < 2 ^ 31) (h0 : q ≠ 0) (h : ∀ t, t < 6 → s t ≠ q) (hp : post 2) : wpX_kindOf post (f, A, kh_e s, NB, LK) x := by
  subst hx
  unfold wpX_kindOf
  exact br_f (nI_ne0 (by omega) hq) (kx_slotN rfl hq hs (Or.inr h) (br_t rfl hp))
theorem kx_kind1 {post : Int32 → Prop} {q t : Nat} {x f : Int32} {A NB LK : Nat → Int32} {s : Nat → Nat} (hx : x = nI q) (hq : q < 2 ^ 31) (hs : ∀ t, s t < 2 ^ 31) (h0 : q ≠ 0) (ht : t < 6) (he : s t = q) (un : ∀ t', t' < 6 → s t' = q → t' = t) (hp : post 1) : wpX_kindOf post (f, A, kh_e s, NB, LK) x := by
  subst hx
  unfold wpX_kindOf
  exact br_f (nI_ne0 (by omega) hq) (kx_slotY rfl hq hs h0 ht he un (br_f (kh_ne ht) hp))
theorem kx_f0 {post : Int32 → Prop} {x : Int32} (hx : x = nI 0) (hp : post (-3)) : wpX_faultOf post x := by
  subst hx
  unfold wpX_faultOf
  exact br_t nI_0 hp
theorem kx_f1 {post : Int32 → Prop} {x : Int32} {q : Nat} (hx : x = nI q) (h0 : q ≠ 0) (hq : q < 2 ^ 31) (hp : post (-4)) : wpX_faultOf post x := by
  subst hx
  unfold wpX_faultOf
  exact br_f (nI_ne0 (by omega) hq) hp
/-! Y: kind, through -/
theorem ky_kind0 {post : Int32 → Prop} {u : SY} {x : Int32} (hx : x = nI 0) (hp : post 0) : wpY_kind post u x := by
  obtain ⟨f, a1, a2, a3, a4, a5, a6⟩ := u
  subst hx
  unfold wpY_kind
  exact br_t (by decide) hp
theorem ky_kind2 {post : Int32 → Prop} {q : Nat} {x f : Int32} {V AL NM LF RT SN : Nat → Int32} (hx : x = nI q) (hq : q ≤ 512) (h0 : q ≠ 0) (ha : AL (q - 1) = 0) (hp : post 2) : wpY_kind post (f, V, AL, NM, LF, RT, SN) x := by
  subst hx
  unfold wpY_kind
  dsimp only
  rw [kh_m1 h0, nI_clamp (by omega)]
  exact br_f (nI_nle (by omega) (by omega)) (br_t (nI_le (b := 512) hq (by decide)) ⟨vp_in_nI (by omega) (by decide), br_t ha hp⟩)
theorem ky_kind1 {post : Int32 → Prop} {q : Nat} {x f : Int32} {V AL NM LF RT SN : Nat → Int32} (hx : x = nI q) (hq : q ≤ 512) (h0 : q ≠ 0) (ha : ¬ AL (q - 1) = 0) (hp : post 1) : wpY_kind post (f, V, AL, NM, LF, RT, SN) x := by
  subst hx
  unfold wpY_kind
  dsimp only
  rw [kh_m1 h0, nI_clamp (by omega)]
  exact br_f (nI_nle (by omega) (by omega)) (br_t (nI_le (b := 512) hq (by decide)) ⟨vp_in_nI (by omega) (by decide), br_f ha hp⟩)
theorem ky_thr0 {post : Int32 → Prop} {j : Nat} {f : Int32} {p : Nat → Nat} {AL NM LF RT SN : Nat → Int32} (hj : j < 8) (h0 : p j = 0) (hp : post (-3)) : wpY_through post (f, kh_e p, AL, NM, LF, RT, SN) (nI j) := by
  unfold wpY_through
  refine ⟨vp_in_nI hj (by decide), ?_⟩
  exact ky_kind0 (by rw [kh_at (by omega), h0]) (br_t rfl hp)
theorem ky_thr2 {post : Int32 → Prop} {j : Nat} {f : Int32} {p : Nat → Nat} {AL NM LF RT SN : Nat → Int32} (hj : j < 8) (hq : p j ≤ 512) (h0 : p j ≠ 0) (ha : AL (p j - 1) = 0) (hp : post (-4)) : wpY_through post (f, kh_e p, AL, NM, LF, RT, SN) (nI j) := by
  unfold wpY_through
  refine ⟨vp_in_nI hj (by decide), ?_⟩
  exact ky_kind2 (kh_at (by omega)) hq h0 ha (br_f (by decide) (br_t rfl hp))
theorem ky_thr1 {post : Int32 → Prop} {j : Nat} {f : Int32} {p : Nat → Nat} {AL NM LF RT SN : Nat → Int32} (hj : j < 8) (hq : p j ≤ 512) (h0 : p j ≠ 0) (ha : ¬ AL (p j - 1) = 0) (hp : post 0) : wpY_through post (f, kh_e p, AL, NM, LF, RT, SN) (nI j) := by
  unfold wpY_through
  refine ⟨vp_in_nI hj (by decide), ?_⟩
  exact ky_kind1 (kh_at (by omega)) hq h0 ha (br_f (by decide) (br_f (by decide) hp))
theorem kh_b0 : vp_nar .boolean 0 = 0 := rfl
theorem kh_b1 : vp_nar .boolean 1 = 1 := rfl
theorem ky_ix {p : Nat → Nat} {j : Nat} (hj : j < 8) (h0 : p j ≠ 0) : kh_e p (nI j).toNatClampNeg - 1 = nI (p j - 1) := by
  rw [kh_at (by omega), kh_m1 h0]
theorem ky_in {p : Nat → Nat} {j : Nat} (hj : j < 8) (h0 : p j ≠ 0) (hq : p j ≤ 512) : vp_in (kh_e p (nI j).toNatClampNeg - 1) 512 := by
  rw [ky_ix hj h0]
  exact vp_in_nI (by omega) (by decide)
theorem ky_cl {p : Nat → Nat} {j : Nat} (hj : j < 8) (h0 : p j ≠ 0) (hq : p j ≤ 512) : (kh_e p (nI j).toNatClampNeg - 1).toNatClampNeg = p j - 1 := by
  rw [ky_ix hj h0, nI_clamp (by omega)]
end
section
/-! the relation: serials as naturals on both sides; what a slot holds is what its record holds -/
def kh_I (k m : Nat) (p s lk : Nat → Nat) (NB AL NM LF RT : Nat → Int32) : Prop :=
  4 * m ≤ k ∧ (∀ i, p i ≤ m) ∧ (∀ t, s t ≤ m) ∧ (∀ j, lk j ≤ m) ∧ (∀ t t', t < 6 → t' < 6 → s t = s t' → s t ≠ 0 → t = t') ∧ (∀ r, r < m → (AL r = 0 ↔ ∀ t, t < 6 → s t ≠ r + 1)) ∧ (∀ t, t < 6 → s t ≠ 0 → NB t = NM (s t - 1) ∧ LF (s t - 1) = nI (lk (2 * t)) ∧ RT (s t - 1) = nI (lk (2 * t + 1)))
def i_Rel (k : Nat) (u : SX) (v : SY) : Prop :=
  ∃ (m : Nat) (p s lk : Nat → Nat) (NB AL NM LF RT SN : Nat → Int32), u = (nI m, kh_e p, kh_e s, NB, kh_e lk) ∧ v = (nI m, kh_e p, AL, NM, LF, RT, SN) ∧ kh_I k m p s lk NB AL NM LF RT
theorem kh_R {k m : Nat} {p s lk : Nat → Nat} {NB AL NM LF RT SN : Nat → Int32} (h : kh_I k m p s lk NB AL NM LF RT) : i_Rel k (nI m, kh_e p, kh_e s, NB, kh_e lk) (nI m, kh_e p, AL, NM, LF, RT, SN) := ⟨m, p, s, lk, NB, AL, NM, LF, RT, SN, rfl, rfl, h⟩
theorem kh_I_up {k m : Nat} {p s lk : Nat → Nat} {NB AL NM LF RT : Nat → Int32} (h : kh_I k m p s lk NB AL NM LF RT) : kh_I (k + 4) m p s lk NB AL NM LF RT := ⟨by have := h.1; omega, h.2⟩
theorem i_up {k : Nat} {u : SX} {v : SY} (h : i_Rel k u v) : i_Rel (k + 4) u v := by
  obtain ⟨m, p, s, lk, NB, AL, NM, LF, RT, SN, rfl, rfl, hI⟩ := h
  exact kh_R (kh_I_up hI)
theorem i_vc0 : wpX_init (fun u => wpY_init (fun v => i_Rel 0 u v)) := by
  unfold wpX_init wpY_init
  refine ⟨0, fun _ => 0, fun _ => 0, fun _ => 0, fun _ => 0, fun _ => 0, fun _ => 0, fun _ => 0, fun _ => 0, fun _ => 0, rfl, rfl, ?_⟩
  exact ⟨by omega, fun _ => Nat.le_refl 0, fun _ => Nat.le_refl 0, fun _ => Nat.le_refl 0, fun _ _ _ _ _ h => absurd rfl h, fun r hr => absurd hr (Nat.not_lt_zero r), fun _ _ h => absurd rfl h⟩
theorem kh_bd {k m : Nat} {p s lk : Nat → Nat} {NB AL NM LF RT : Nat → Int32} (h : kh_I k m p s lk NB AL NM LF RT) (hk : k + 4 ≤ 2048) : m ≤ 511 := by
  have := h.1
  omega
theorem kh_sb {k m : Nat} {p s lk : Nat → Nat} {NB AL NM LF RT : Nat → Int32} (h : kh_I k m p s lk NB AL NM LF RT) (hm : m ≤ 511) (t : Nat) : s t < 2 ^ 31 := by
  have := h.2.2.1 t
  omega
theorem kh_case {k m q : Nat} {p s lk : Nat → Nat} {NB AL NM LF RT : Nat → Int32} (h : kh_I k m p s lk NB AL NM LF RT) (hq : q ≤ m) : q = 0 ∨ (q ≠ 0 ∧ (∀ t, t < 6 → s t ≠ q) ∧ AL (q - 1) = 0) ∨ ∃ t, t < 6 ∧ s t = q ∧ q ≠ 0 ∧ ¬ AL (q - 1) = 0 ∧ ∀ t', t' < 6 → s t' = q → t' = t := by
  by_cases h0 : q = 0
  · exact Or.inl h0
  · refine Or.inr ?_
    have ha := h.2.2.2.2.2.1 (q - 1) (by omega)
    have e : q - 1 + 1 = q := by omega
    rw [e] at ha
    by_cases z : ∃ t, t < 6 ∧ s t = q
    · obtain ⟨t, ht, he⟩ := z
      refine Or.inr ⟨t, ht, he, h0, fun w => ha.mp w t ht he, fun t' ht' he' => h.2.2.2.2.1 t' t ht' ht (by omega) (by omega)⟩
    · have z' : ∀ t, t < 6 → s t ≠ q := fun t ht he => z ⟨t, ht, he⟩
      exact Or.inl ⟨h0, z', ha.mpr z'⟩
/-! how the relation lasts -/
theorem kh_I_p {k m j q : Nat} {p s lk : Nat → Nat} {NB AL NM LF RT : Nat → Int32} (h : kh_I k m p s lk NB AL NM LF RT) (hq : q ≤ m) : kh_I k m (kh_un p j q) s lk NB AL NM LF RT :=
  ⟨h.1, kh_un_le h.2.1 (Nat.le_refl m) hq, h.2.2⟩
theorem kh_I_drop {k m : Nat} {p s s' lk : Nat → Nat} {NB AL AL' NM LF RT : Nat → Int32} (h : kh_I k m p s lk NB AL NM LF RT) (hz : ∀ t, s' t = s t ∨ s' t = 0) (ha' : ∀ r, r < m → (AL' r = 0 ↔ ∀ t, t < 6 → s' t ≠ r + 1)) : kh_I k m p s' lk NB AL' NM LF RT := by
  obtain ⟨h1, h2, h3, h4, inj, ha, hn⟩ := h
  refine ⟨h1, h2, fun t => ?_, h4, fun t t' ht ht' e n0 => ?_, ha', fun t ht n0 => ?_⟩
  · have := h3 t
    rcases hz t with z | z <;> omega
  · have z := (hz t).resolve_right n0
    have z' := (hz t').resolve_right (by omega)
    exact inj t t' ht ht' (by omega) (by omega)
  · have z := (hz t).resolve_right n0
    rw [z]
    exact hn t ht (by omega)
theorem kh_I_disp {k m t : Nat} {p s lk : Nat → Nat} {NB AL NM LF RT : Nat → Int32} (h : kh_I k m p s lk NB AL NM LF RT) (ht : t < 6) (h0 : s t ≠ 0) : kh_I k m p (kh_un s t 0) lk NB (upd AL (s t - 1) 0) NM LF RT := by
  refine kh_I_drop h (fun t' => ?_) (fun r hr => ?_)
  · by_cases e : t' = t
    · rw [e, kh_us]; exact Or.inr rfl
    · rw [kh_uo e]; exact Or.inl rfl
  · have ha := h.2.2.2.2.2.1 r hr
    by_cases e : r = s t - 1
    · rw [e, pk_us]
      refine ⟨fun _ t' ht' z => ?_, fun _ => rfl⟩
      by_cases e' : t' = t
      · rw [e', kh_us] at z; omega
      · rw [kh_uo e'] at z
        exact e' (h.2.2.2.2.1 t' t ht' ht (by omega) (by omega))
    · rw [pk_un e, ha]
      refine ⟨fun z t' ht' => ?_, fun z t' ht' => ?_⟩
      · by_cases e' : t' = t
        · rw [e', kh_us]; omega
        · rw [kh_uo e']; exact z t' ht'
      · by_cases e' : t' = t
        · rw [e']; omega
        · have := z t' ht'
          rw [kh_uo e'] at this
          exact this
theorem kh_ser {k m t t' : Nat} {p s lk : Nat → Nat} {NB AL NM LF RT : Nat → Int32} (h : kh_I k m p s lk NB AL NM LF RT) (ht : t < 6) (h0 : s t ≠ 0) (ht' : t' < 6) (h0' : s t' ≠ 0) (ne : t' ≠ t) : s t' - 1 ≠ s t - 1 := by
  intro e
  exact ne (h.2.2.2.2.1 t' t ht' ht (by omega) h0')
theorem kh_I_num {k m t : Nat} {n : Int32} {p s lk : Nat → Nat} {NB AL NM LF RT : Nat → Int32} (h : kh_I k m p s lk NB AL NM LF RT) (ht : t < 6) (h0 : s t ≠ 0) : kh_I k m p s lk (upd NB t n) AL (upd NM (s t - 1) n) LF RT := by
  refine ⟨h.1, h.2.1, h.2.2.1, h.2.2.2.1, h.2.2.2.2.1, h.2.2.2.2.2.1, fun t' ht' h0' => ?_⟩
  have hn := h.2.2.2.2.2.2 t' ht' h0'
  by_cases e : t' = t
  · subst e
    exact ⟨by rw [pk_us, pk_us], hn.2⟩
  · exact ⟨by rw [pk_un e, pk_un (kh_ser h ht h0 ht' h0' e)]; exact hn.1, hn.2⟩
theorem kh_I_lk0 {k m t q : Nat} {p s lk : Nat → Nat} {NB AL NM LF RT : Nat → Int32} (h : kh_I k m p s lk NB AL NM LF RT) (ht : t < 6) (h0 : s t ≠ 0) (hq : q ≤ m) : kh_I k m p s (kh_un lk (2 * t + 0) q) NB AL NM (upd LF (s t - 1) (nI q)) RT := by
  refine ⟨h.1, h.2.1, h.2.2.1, kh_un_le h.2.2.2.1 (Nat.le_refl m) hq, h.2.2.2.2.1, h.2.2.2.2.2.1, fun t' ht' h0' => ?_⟩
  have hn := h.2.2.2.2.2.2 t' ht' h0'
  rw [Nat.add_zero]
  by_cases e : t' = t
  · subst e
    exact ⟨hn.1, by rw [pk_us, kh_us], by rw [kh_uo (by omega)]; exact hn.2.2⟩
  · exact ⟨hn.1, by rw [pk_un (kh_ser h ht h0 ht' h0' e), kh_uo (by omega)]; exact hn.2.1, by rw [kh_uo (by omega)]; exact hn.2.2⟩
theorem kh_I_lk1 {k m t q : Nat} {p s lk : Nat → Nat} {NB AL NM LF RT : Nat → Int32} (h : kh_I k m p s lk NB AL NM LF RT) (ht : t < 6) (h0 : s t ≠ 0) (hq : q ≤ m) : kh_I k m p s (kh_un lk (2 * t + 1) q) NB AL NM LF (upd RT (s t - 1) (nI q)) := by
  refine ⟨h.1, h.2.1, h.2.2.1, kh_un_le h.2.2.2.1 (Nat.le_refl m) hq, h.2.2.2.2.1, h.2.2.2.2.2.1, fun t' ht' h0' => ?_⟩
  have hn := h.2.2.2.2.2.2 t' ht' h0'
  by_cases e : t' = t
  · subst e
    exact ⟨hn.1, by rw [kh_uo (by omega)]; exact hn.2.1, by rw [pk_us, kh_us]⟩
  · exact ⟨hn.1, by rw [kh_uo (by omega)]; exact hn.2.1, by rw [pk_un (kh_ser h ht h0 ht' h0' e), kh_uo (by omega)]; exact hn.2.2⟩
theorem kh_I_make {k m t j : Nat} {n : Int32} {p s lk : Nat → Nat} {NB AL NM LF RT : Nat → Int32} (h : kh_I k m p s lk NB AL NM LF RT) (ht : t < 6) (h0 : s t = 0) : kh_I (k + 4) (m + 1) (kh_un p j (m + 1)) (kh_un s t (m + 1)) (kh_un (kh_un lk (2 * t + 0) 0) (2 * t + 1) 0) (upd NB t n) (upd AL m 1) (upd NM m n) (upd LF m 0) (upd RT m 0) := by
  obtain ⟨h1, h2, h3, h4, inj, ha, hn⟩ := h
  refine ⟨by omega, kh_un_le h2 (by omega) (by omega), kh_un_le h3 (by omega) (by omega), kh_un_le (kh_un_le h4 (Nat.le_refl m) (Nat.zero_le m)) (by omega) (by omega), fun t1 t2 ht1 ht2 e n0 => ?_, fun r hr => ?_, fun t' ht' n0 => ?_⟩
  · by_cases e1 : t1 = t
    · by_cases e2 : t2 = t
      · omega
      · rw [e1, kh_us, kh_uo e2] at e
        have := h3 t2
        omega
    · by_cases e2 : t2 = t
      · rw [e2, kh_us, kh_uo e1] at e
        have := h3 t1
        omega
      · rw [kh_uo e1, kh_uo e2] at e
        rw [kh_uo e1] at n0
        exact inj t1 t2 ht1 ht2 e n0
  · by_cases e : r = m
    · rw [e, pk_us]
      refine ⟨fun z => absurd z kh_10, fun z => ?_⟩
      have := z t ht
      rw [kh_us] at this
      exact absurd rfl this
    · rw [pk_un e, ha r (by omega)]
      refine ⟨fun z t' ht' => ?_, fun z t' ht' => ?_⟩
      · by_cases e' : t' = t
        · rw [e', kh_us]; omega
        · rw [kh_uo e']; exact z t' ht'
      · by_cases e' : t' = t
        · rw [e']; omega
        · have := z t' ht'
          rw [kh_uo e'] at this
          exact this
  · by_cases e' : t' = t
    · rw [e', kh_us, Nat.add_sub_cancel, pk_us, pk_us, pk_us, pk_us, kh_us, kh_uo (by omega), Nat.add_zero, kh_us]
      exact ⟨rfl, nI_0.symm, nI_0.symm⟩
    · rw [kh_uo e'] at n0 ⊢
      have l := h3 t'
      have hn' := hn t' ht' n0
      rw [pk_un e', pk_un (show s t' - 1 ≠ m by omega), pk_un (show s t' - 1 ≠ m by omega), pk_un (show s t' - 1 ≠ m by omega), kh_uo (show 2 * t' ≠ 2 * t + 1 by omega), kh_uo (show 2 * t' ≠ 2 * t + 0 by omega), kh_uo (show 2 * t' + 1 ≠ 2 * t + 1 by omega), kh_uo (show 2 * t' + 1 ≠ 2 * t + 0 by omega)]
      exact hn'
end
section
/-! the calls without a loop over records -/
theorem kh_b2 {b : Nat} {A B : Prop} (hb : b < 2) (h : A) : (nI b = 0 → A) ∧ (¬ nI b = 0 → ((nI b = 1 → A) ∧ (¬ nI b = 1 → B))) := by
  refine ⟨fun _ => h, fun z => ⟨fun _ => h, fun z' => ?_⟩⟩
  rcases (by omega : b = 0 ∨ b = 1) with e | e
  · subst e; exact absurd nI_0 z
  · subst e; exact absurd rfl z'
theorem i_vc_setNil {k : Nat} {u : SX} {v : SY} (I : i_Rel k u v) (hk : k + 4 ≤ 2048) (v1 : Int32) : wpX_setNil (fun r u' => wpY_setNil (fun r' v' => r' = r ∧ i_Rel (k + 4) u' v') v v1) u v1 := by
  obtain ⟨m, p, s, lk, NB, AL, NM, LF, RT, SN, rfl, rfl, hI⟩ := I
  unfold wpX_setNil wpY_setNil
  dsimp only
  rcases kh_ix v1 (n := 8) (by decide) with h | ⟨j, hj, rfl⟩
  · exact kx_varN h (br_t rfl (ky_varN h (br_t rfl ⟨rfl, kh_R (kh_I_up hI)⟩)))
  · refine kx_varY hj (br_f kh_10 ⟨vp_in_nI hj (by decide), nm_r (kh_u (by omega) nI_0.symm) ?_⟩)
    refine ky_varY hj (br_f kh_10 ⟨vp_in_nI hj (by decide), nm_r (kh_u (by omega) nI_0.symm) ⟨rfl, ?_⟩⟩)
    exact kh_R (kh_I_p (kh_I_up hI) (Nat.zero_le m))
theorem i_vc_copy {k : Nat} {u : SX} {v : SY} (I : i_Rel k u v) (hk : k + 4 ≤ 2048) (v1 : Int32) (v2 : Int32) : wpX_copy (fun r u' => wpY_copy (fun r' v' => r' = r ∧ i_Rel (k + 4) u' v') v v1 v2) u v1 v2 := by
  obtain ⟨m, p, s, lk, NB, AL, NM, LF, RT, SN, rfl, rfl, hI⟩ := I
  unfold wpX_copy wpY_copy
  dsimp only
  rcases kh_ix v1 (n := 8) (by decide) with h | ⟨j, hj, rfl⟩
  · exact kx_varN h (br_t rfl (ky_varN h (br_t rfl ⟨rfl, kh_R (kh_I_up hI)⟩)))
  · refine kx_varY hj (br_f kh_10 ?_)
    rcases kh_ix v2 (n := 8) (by decide) with h | ⟨w, hw, rfl⟩
    · exact kx_varN h (br_t rfl (ky_varY hj (br_f kh_10 (ky_varN h (br_t rfl ⟨rfl, kh_R (kh_I_up hI)⟩)))))
    · refine kx_varY hw (br_f kh_10 ⟨vp_in_nI hw (by decide), vp_in_nI hj (by decide), nm_r (kh_u (by omega) (kh_at (by omega))) ?_⟩)
      refine ky_varY hj (br_f kh_10 (ky_varY hw (br_f kh_10 ⟨vp_in_nI hw (by decide), vp_in_nI hj (by decide), nm_r (kh_u (by omega) (kh_at (by omega))) ⟨rfl, ?_⟩⟩)))
      exact kh_R (kh_I_p (kh_I_up hI) (hI.2.1 w))
theorem i_vc_dispose {k : Nat} {u : SX} {v : SY} (I : i_Rel k u v) (hk : k + 4 ≤ 2048) (v1 : Int32) : wpX_dispose (fun r u' => wpY_dispose (fun r' v' => r' = r ∧ i_Rel (k + 4) u' v') v v1) u v1 := by
  obtain ⟨m, p, s, lk, NB, AL, NM, LF, RT, SN, rfl, rfl, hI⟩ := I
  unfold wpX_dispose wpY_dispose
  dsimp only
  have hm := kh_bd hI hk
  rcases kh_ix v1 (n := 8) (by decide) with h | ⟨j, hj, rfl⟩
  · exact kx_varN h (br_t rfl (ky_varN h (br_t rfl ⟨rfl, kh_R (kh_I_up hI)⟩)))
  · have hpj := hI.2.1 j
    refine kx_varY hj (br_f kh_10 ⟨vp_in_nI hj (by decide), ?_⟩)
    rcases kh_case hI hpj with h0 | ⟨h0, hd, ha⟩ | ⟨t, ht, he, h0, ha, un⟩
    · refine kx_slotN (kh_at (by omega)) (by omega) (kh_sb hI hm) (Or.inl h0) (br_t rfl ⟨vp_in_nI hj (by decide), kx_f0 (by rw [kh_at (by omega), h0]) ?_⟩)
      exact ky_varY hj (br_f kh_10 (ky_thr0 hj h0 (br_f (by decide) ⟨rfl, kh_R (kh_I_up hI)⟩)))
    · refine kx_slotN (kh_at (by omega)) (by omega) (kh_sb hI hm) (Or.inr hd) (br_t rfl ⟨vp_in_nI hj (by decide), kx_f1 (kh_at (by omega)) h0 (by omega) ?_⟩)
      exact ky_varY hj (br_f kh_10 (ky_thr2 hj (by omega) h0 ha (br_f (by decide) ⟨rfl, kh_R (kh_I_up hI)⟩)))
    · refine kx_slotY (kh_at (by omega)) (by omega) (kh_sb hI hm) h0 ht he un (br_f (kh_ne ht) ⟨vp_in_nI ht (by decide), nm_r (kh_u (by omega) nI_0.symm) ?_⟩)
      refine ky_varY hj (br_f kh_10 (ky_thr1 hj (by omega) h0 ha (br_t rfl ⟨vp_in_nI hj (by decide), ky_in hj h0 (by omega), nm_r (e' := upd AL (s t - 1) 0) (by rw [ky_cl hj h0 (by omega), kh_b0, he]) ⟨rfl, ?_⟩⟩)))
      exact kh_R (kh_I_disp (kh_I_up hI) ht (by omega))
theorem i_vc_setNumber {k : Nat} {u : SX} {v : SY} (I : i_Rel k u v) (hk : k + 4 ≤ 2048) (v1 : Int32) (v2 : Int32) : wpX_setNumber (fun r u' => wpY_setNumber (fun r' v' => r' = r ∧ i_Rel (k + 4) u' v') v v1 v2) u v1 v2 := by
  obtain ⟨m, p, s, lk, NB, AL, NM, LF, RT, SN, rfl, rfl, hI⟩ := I
  unfold wpX_setNumber wpY_setNumber
  dsimp only
  have hm := kh_bd hI hk
  rcases kh_ix v1 (n := 8) (by decide) with h | ⟨j, hj, rfl⟩
  · exact kx_varN h (br_t rfl (ky_varN h (br_t rfl ⟨rfl, kh_R (kh_I_up hI)⟩)))
  · have hpj := hI.2.1 j
    refine kx_varY hj (br_f kh_10 ⟨vp_in_nI hj (by decide), ?_⟩)
    rcases kh_case hI hpj with h0 | ⟨h0, hd, ha⟩ | ⟨t, ht, he, h0, ha, un⟩
    · refine kx_slotN (kh_at (by omega)) (by omega) (kh_sb hI hm) (Or.inl h0) (br_t rfl ⟨vp_in_nI hj (by decide), kx_f0 (by rw [kh_at (by omega), h0]) ?_⟩)
      exact ky_varY hj (br_f kh_10 (ky_thr0 hj h0 (br_f (by decide) ⟨rfl, kh_R (kh_I_up hI)⟩)))
    · refine kx_slotN (kh_at (by omega)) (by omega) (kh_sb hI hm) (Or.inr hd) (br_t rfl ⟨vp_in_nI hj (by decide), kx_f1 (kh_at (by omega)) h0 (by omega) ?_⟩)
      exact ky_varY hj (br_f kh_10 (ky_thr2 hj (by omega) h0 ha (br_f (by decide) ⟨rfl, kh_R (kh_I_up hI)⟩)))
    · refine kx_slotY (kh_at (by omega)) (by omega) (kh_sb hI hm) h0 ht he un (br_f (kh_ne ht) ⟨vp_in_nI ht (by decide), nm_r (e' := upd NB t v2) (by rw [nI_clamp (by omega)]) ?_⟩)
      refine ky_varY hj (br_f kh_10 (ky_thr1 hj (by omega) h0 ha (br_t rfl ⟨vp_in_nI hj (by decide), ky_in hj h0 (by omega), nm_r (e' := upd NM (s t - 1) v2) (by rw [ky_cl hj h0 (by omega), he]) ⟨rfl, ?_⟩⟩)))
      exact kh_R (kh_I_num (kh_I_up hI) ht (by omega))
theorem i_vc_setLink {k : Nat} {u : SX} {v : SY} (I : i_Rel k u v) (hk : k + 4 ≤ 2048) (v1 : Int32) (v2 : Int32) (v3 : Int32) : wpX_setLink (fun r u' => wpY_setLink (fun r' v' => r' = r ∧ i_Rel (k + 4) u' v') v v1 v2 v3) u v1 v2 v3 := by
  obtain ⟨m, p, s, lk, NB, AL, NM, LF, RT, SN, rfl, rfl, hI⟩ := I
  unfold wpX_setLink wpY_setLink
  dsimp only
  have hm := kh_bd hI hk
  rcases kh_ix v1 (n := 8) (by decide) with h | ⟨j, hj, rfl⟩
  · exact kx_varN h (br_t rfl (ky_varN h (br_t rfl ⟨rfl, kh_R (kh_I_up hI)⟩)))
  refine kx_varY hj (br_f kh_10 ?_)
  rcases kh_ix v3 (n := 8) (by decide) with h | ⟨w, hw, rfl⟩
  · exact kx_varN h (br_t rfl (ky_varY hj (br_f kh_10 (ky_varN h (br_t rfl ⟨rfl, kh_R (kh_I_up hI)⟩)))))
  refine kx_varY hw (br_f kh_10 ?_)
  rcases kh_ix v2 (n := 2) (by decide) with h | ⟨b, hb, rfl⟩
  · exact kx_lkN h (br_t rfl (ky_varY hj (br_f kh_10 (ky_varY hw (br_f kh_10 (br_f (kh_k0 h) (br_f (kh_k1 h) ⟨rfl, kh_R (kh_I_up hI)⟩)))))))
  have hpj := hI.2.1 j
  have hpw := hI.2.1 w
  refine kx_lkY hb (br_f kh_10 ⟨vp_in_nI hj (by decide), ?_⟩)
  rcases kh_case hI hpj with h0 | ⟨h0, hd, ha⟩ | ⟨t, ht, he, h0, ha, un⟩
  · refine kx_slotN (kh_at (by omega)) (by omega) (kh_sb hI hm) (Or.inl h0) (br_t rfl ⟨vp_in_nI hj (by decide), kx_f0 (by rw [kh_at (by omega), h0]) ?_⟩)
    refine ky_varY hj (br_f kh_10 (ky_varY hw (br_f kh_10 (kh_b2 hb ?_))))
    unfold wY_setLink_27 wY_setLink_65
    exact ky_thr0 hj h0 (br_f (by decide) (br_f (by decide) ⟨rfl, kh_R (kh_I_up hI)⟩))
  · refine kx_slotN (kh_at (by omega)) (by omega) (kh_sb hI hm) (Or.inr hd) (br_t rfl ⟨vp_in_nI hj (by decide), kx_f1 (kh_at (by omega)) h0 (by omega) ?_⟩)
    refine ky_varY hj (br_f kh_10 (ky_varY hw (br_f kh_10 (kh_b2 hb ?_))))
    unfold wY_setLink_27 wY_setLink_65
    exact ky_thr2 hj (by omega) h0 ha (br_f (by decide) (br_f (by decide) ⟨rfl, kh_R (kh_I_up hI)⟩))
  · refine kx_slotY (kh_at (by omega)) (by omega) (kh_sb hI hm) h0 ht he un (br_f (kh_ne ht) (kx_pl rfl ⟨vp_in_nI hw (by decide), vp_in_nI (by omega) (by decide), nm_r (kh_u (by omega) (kh_at (by omega))) ?_⟩))
    refine ky_varY hj (br_f kh_10 (ky_varY hw (br_f kh_10 (kh_b2 hb ?_))))
    unfold wY_setLink_27 wY_setLink_65
    refine ky_thr1 hj (by omega) h0 ha (br_t rfl ?_)
    rcases (by omega : b = 0 ∨ b = 1) with e | e
    · subst e
      refine br_t nI_0 ⟨vp_in_nI hj (by decide), vp_in_nI hw (by decide), ky_in hj h0 (by omega), nm_r (e' := upd LF (s t - 1) (nI (p w))) (by rw [ky_cl hj h0 (by omega), he, kh_at (by omega)]) ⟨rfl, ?_⟩⟩
      exact kh_R (kh_I_lk0 (kh_I_up hI) ht (by omega) hpw)
    · subst e
      refine br_f (by decide) (br_t rfl ⟨vp_in_nI hj (by decide), vp_in_nI hw (by decide), ky_in hj h0 (by omega), nm_r (e' := upd RT (s t - 1) (nI (p w))) (by rw [ky_cl hj h0 (by omega), he, kh_at (by omega)]) ⟨rfl, ?_⟩⟩)
      exact kh_R (kh_I_lk1 (kh_I_up hI) ht (by omega) hpw)
theorem i_vc_follow {k : Nat} {u : SX} {v : SY} (I : i_Rel k u v) (hk : k + 4 ≤ 2048) (v1 : Int32) (v2 : Int32) (v3 : Int32) : wpX_follow (fun r u' => wpY_follow (fun r' v' => r' = r ∧ i_Rel (k + 4) u' v') v v1 v2 v3) u v1 v2 v3 := by
  obtain ⟨m, p, s, lk, NB, AL, NM, LF, RT, SN, rfl, rfl, hI⟩ := I
  unfold wpX_follow wpY_follow
  dsimp only
  have hm := kh_bd hI hk
  rcases kh_ix v1 (n := 8) (by decide) with h | ⟨w, hw, rfl⟩
  · exact kx_varN h (br_t rfl (ky_varN h (br_t rfl ⟨rfl, kh_R (kh_I_up hI)⟩)))
  refine kx_varY hw (br_f kh_10 ?_)
  rcases kh_ix v2 (n := 8) (by decide) with h | ⟨j, hj, rfl⟩
  · exact kx_varN h (br_t rfl (ky_varY hw (br_f kh_10 (ky_varN h (br_t rfl ⟨rfl, kh_R (kh_I_up hI)⟩)))))
  refine kx_varY hj (br_f kh_10 ?_)
  rcases kh_ix v3 (n := 2) (by decide) with h | ⟨b, hb, rfl⟩
  · exact kx_lkN h (br_t rfl (ky_varY hw (br_f kh_10 (ky_varY hj (br_f kh_10 (br_f (kh_k0 h) (br_f (kh_k1 h) ⟨rfl, kh_R (kh_I_up hI)⟩)))))))
  have hpj := hI.2.1 j
  refine kx_lkY hb (br_f kh_10 ⟨vp_in_nI hj (by decide), ?_⟩)
  rcases kh_case hI hpj with h0 | ⟨h0, hd, ha⟩ | ⟨t, ht, he, h0, ha, un⟩
  · refine kx_slotN (kh_at (by omega)) (by omega) (kh_sb hI hm) (Or.inl h0) (br_t rfl ⟨vp_in_nI hj (by decide), kx_f0 (by rw [kh_at (by omega), h0]) ?_⟩)
    refine ky_varY hw (br_f kh_10 (ky_varY hj (br_f kh_10 (kh_b2 hb ?_))))
    unfold wY_follow_27
    exact ky_thr0 hj h0 (br_f (by decide) ⟨rfl, kh_R (kh_I_up hI)⟩)
  · refine kx_slotN (kh_at (by omega)) (by omega) (kh_sb hI hm) (Or.inr hd) (br_t rfl ⟨vp_in_nI hj (by decide), kx_f1 (kh_at (by omega)) h0 (by omega) ?_⟩)
    refine ky_varY hw (br_f kh_10 (ky_varY hj (br_f kh_10 (kh_b2 hb ?_))))
    unfold wY_follow_27
    exact ky_thr2 hj (by omega) h0 ha (br_f (by decide) ⟨rfl, kh_R (kh_I_up hI)⟩)
  · refine kx_slotY (kh_at (by omega)) (by omega) (kh_sb hI hm) h0 ht he un (br_f (kh_ne ht) (kx_pl rfl ⟨vp_in_nI (by omega) (by decide), vp_in_nI hw (by decide), nm_r (kh_u (by omega) (kh_at (by omega))) ?_⟩))
    refine ky_varY hw (br_f kh_10 (ky_varY hj (br_f kh_10 (kh_b2 hb ?_))))
    unfold wY_follow_27
    refine ky_thr1 hj (by omega) h0 ha (br_t rfl ?_)
    have hn := hI.2.2.2.2.2.2 t ht (by omega)
    rcases (by omega : b = 0 ∨ b = 1) with e | e
    · subst e
      refine br_t nI_0 ⟨vp_in_nI hj (by decide), ky_in hj h0 (by omega), vp_in_nI hw (by decide), nm_r (kh_u (q := lk (2 * t + 0)) (by omega) (by rw [ky_cl hj h0 (by omega), ← he]; exact hn.2.1)) ⟨rfl, ?_⟩⟩
      exact kh_R (kh_I_p (kh_I_up hI) (hI.2.2.2.1 _))
    · subst e
      refine br_f (by decide) ⟨vp_in_nI hj (by decide), ky_in hj h0 (by omega), vp_in_nI hw (by decide), nm_r (kh_u (q := lk (2 * t + 1)) (by omega) (by rw [ky_cl hj h0 (by omega), ← he]; exact hn.2.2)) ⟨rfl, ?_⟩⟩
      exact kh_R (kh_I_p (kh_I_up hI) (hI.2.2.2.1 _))
end
section
/-! the calls that read -/
theorem i_vc_holds {k : Nat} {u : SX} {v : SY} (I : i_Rel k u v) (hk : k + 4 ≤ 2048) (v1 : Int32) : wpX_holds (fun r => wpY_holds (fun r' => r' = r ∧ i_Rel (k + 4) u v) v v1) u v1 := by
  have hu := i_up I
  obtain ⟨m, p, s, lk, NB, AL, NM, LF, RT, SN, rfl, rfl, hI⟩ := I
  unfold wpX_holds wpY_holds
  dsimp only
  have hm := kh_bd hI hk
  rcases kh_ix v1 (n := 8) (by decide) with h | ⟨j, hj, rfl⟩
  · exact kx_varN h (br_t rfl (ky_varN h (br_t rfl ⟨rfl, hu⟩)))
  · have hpj := hI.2.1 j
    refine kx_varY hj (br_f kh_10 ⟨vp_in_nI hj (by decide), ?_⟩)
    rcases kh_case hI hpj with h0 | ⟨h0, hd, ha⟩ | ⟨t, ht, he, h0, ha, un⟩
    · exact kx_kind0 (by rw [kh_at (by omega), h0]) (ky_varY hj (br_f kh_10 ⟨vp_in_nI hj (by decide), ky_kind0 (by rw [kh_at (by omega), h0]) ⟨rfl, hu⟩⟩))
    · exact kx_kind2 (kh_at (by omega)) (by omega) (kh_sb hI hm) h0 hd (ky_varY hj (br_f kh_10 ⟨vp_in_nI hj (by decide), ky_kind2 (kh_at (by omega)) (by omega) h0 ha ⟨rfl, hu⟩⟩))
    · exact kx_kind1 (kh_at (by omega)) (by omega) (kh_sb hI hm) h0 ht he un (ky_varY hj (br_f kh_10 ⟨vp_in_nI hj (by decide), ky_kind1 (kh_at (by omega)) (by omega) h0 ha ⟨rfl, hu⟩⟩))
theorem ky_holdsN {post : Int32 → Prop} {u : SY} {v : Int32} (h : v < 0 ∨ nI 8 ≤ v) (hp : post (-1)) : wpY_holds post u v := by
  obtain ⟨f, a1, a2, a3, a4, a5, a6⟩ := u
  unfold wpY_holds
  exact ky_varN h (br_t rfl hp)
theorem ky_holds0 {post : Int32 → Prop} {j : Nat} {f : Int32} {p : Nat → Nat} {AL NM LF RT SN : Nat → Int32} (hj : j < 8) (h0 : p j = 0) (hp : post 0) : wpY_holds post (f, kh_e p, AL, NM, LF, RT, SN) (nI j) := by
  unfold wpY_holds
  exact ky_varY hj (br_f kh_10 ⟨vp_in_nI hj (by decide), ky_kind0 (by rw [kh_at (by omega), h0]) hp⟩)
theorem ky_holds2 {post : Int32 → Prop} {j : Nat} {f : Int32} {p : Nat → Nat} {AL NM LF RT SN : Nat → Int32} (hj : j < 8) (hq : p j ≤ 512) (h0 : p j ≠ 0) (ha : AL (p j - 1) = 0) (hp : post 2) : wpY_holds post (f, kh_e p, AL, NM, LF, RT, SN) (nI j) := by
  unfold wpY_holds
  exact ky_varY hj (br_f kh_10 ⟨vp_in_nI hj (by decide), ky_kind2 (kh_at (by omega)) hq h0 ha hp⟩)
theorem ky_holds1 {post : Int32 → Prop} {j : Nat} {f : Int32} {p : Nat → Nat} {AL NM LF RT SN : Nat → Int32} (hj : j < 8) (hq : p j ≤ 512) (h0 : p j ≠ 0) (ha : ¬ AL (p j - 1) = 0) (hp : post 1) : wpY_holds post (f, kh_e p, AL, NM, LF, RT, SN) (nI j) := by
  unfold wpY_holds
  exact ky_varY hj (br_f kh_10 ⟨vp_in_nI hj (by decide), ky_kind1 (kh_at (by omega)) hq h0 ha hp⟩)
theorem i_vc_number {k : Nat} {u : SX} {v : SY} (I : i_Rel k u v) (hk : k + 4 ≤ 2048) (v1 : Int32) : wpX_number (fun r => wpY_number (fun r' => r' = r ∧ i_Rel (k + 4) u v) v v1) u v1 := by
  have hu := i_up I
  obtain ⟨m, p, s, lk, NB, AL, NM, LF, RT, SN, rfl, rfl, hI⟩ := I
  unfold wpX_number wpY_number
  dsimp only
  have hm := kh_bd hI hk
  rcases kh_ix v1 (n := 8) (by decide) with h | ⟨j, hj, rfl⟩
  · exact kx_varN h (br_t rfl (ky_holdsN h (br_f (by decide) ⟨rfl, hu⟩)))
  · have hpj := hI.2.1 j
    refine kx_varY hj (br_f kh_10 ⟨vp_in_nI hj (by decide), ?_⟩)
    rcases kh_case hI hpj with h0 | ⟨h0, hd, ha⟩ | ⟨t, ht, he, h0, ha, un⟩
    · exact kx_slotN (kh_at (by omega)) (by omega) (kh_sb hI hm) (Or.inl h0) (br_t rfl (ky_holds0 hj h0 (br_f (by decide) ⟨rfl, hu⟩)))
    · exact kx_slotN (kh_at (by omega)) (by omega) (kh_sb hI hm) (Or.inr hd) (br_t rfl (ky_holds2 hj (by omega) h0 ha (br_f (by decide) ⟨rfl, hu⟩)))
    · have hn := hI.2.2.2.2.2.2 t ht (by omega)
      refine kx_slotY (kh_at (by omega)) (by omega) (kh_sb hI hm) h0 ht he un (br_f (kh_ne ht) ⟨vp_in_nI ht (by decide), ?_⟩)
      refine ky_holds1 hj (by omega) h0 ha (br_t rfl ⟨vp_in_nI hj (by decide), ky_in hj h0 (by omega), ?_, hu⟩)
      rw [ky_cl hj h0 (by omega), nI_clamp (by omega), hn.1, he]
theorem i_vc_linkHolds {k : Nat} {u : SX} {v : SY} (I : i_Rel k u v) (hk : k + 4 ≤ 2048) (v1 : Int32) (v2 : Int32) : wpX_linkHolds (fun r => wpY_linkHolds (fun r' => r' = r ∧ i_Rel (k + 4) u v) v v1 v2) u v1 v2 := by
  have hu := i_up I
  obtain ⟨m, p, s, lk, NB, AL, NM, LF, RT, SN, rfl, rfl, hI⟩ := I
  unfold wpX_linkHolds wpY_linkHolds
  dsimp only
  have hm := kh_bd hI hk
  rcases kh_ix v1 (n := 8) (by decide) with h | ⟨j, hj, rfl⟩
  · refine kx_varN h (br_t rfl ?_)
    have hY : wY_linkHolds_9 (fun r' => r' = -1 ∧ i_Rel (k + 4) (nI m, kh_e p, kh_e s, NB, kh_e lk) (nI m, kh_e p, AL, NM, LF, RT, SN)) v1 v2 (nI m) (kh_e p) AL NM LF RT SN := by
      unfold wY_linkHolds_9
      exact ky_holdsN h (br_f (by decide) ⟨rfl, hu⟩)
    exact br_c (fun _ => hY) (fun _ => br_c (fun _ => hY) (fun _ => ⟨rfl, hu⟩))
  refine kx_varY hj (br_f kh_10 ?_)
  rcases kh_ix v2 (n := 2) (by decide) with h | ⟨b, hb, rfl⟩
  · exact kx_lkN h (br_t rfl (br_f (kh_k0 h) (br_f (kh_k1 h) ⟨rfl, hu⟩)))
  have hpj := hI.2.1 j
  refine kx_lkY hb (br_f kh_10 ⟨vp_in_nI hj (by decide), ?_⟩)
  rcases kh_case hI hpj with h0 | ⟨h0, hd, ha⟩ | ⟨t, ht, he, h0, ha, un⟩
  · refine kx_slotN (kh_at (by omega)) (by omega) (kh_sb hI hm) (Or.inl h0) (br_t rfl (kh_b2 hb ?_))
    unfold wY_linkHolds_9
    exact ky_holds0 hj h0 (br_f (by decide) ⟨rfl, hu⟩)
  · refine kx_slotN (kh_at (by omega)) (by omega) (kh_sb hI hm) (Or.inr hd) (br_t rfl (kh_b2 hb ?_))
    unfold wY_linkHolds_9
    exact ky_holds2 hj (by omega) h0 ha (br_f (by decide) ⟨rfl, hu⟩)
  · have hn := hI.2.2.2.2.2.2 t ht (by omega)
    have hl := hI.2.2.2.1 (2 * t + b)
    refine kx_slotY (kh_at (by omega)) (by omega) (kh_sb hI hm) h0 ht he un (br_f (kh_ne ht) (kx_pl rfl ⟨vp_in_nI (by omega) (by decide), ?_⟩))
    have fin : ∀ r : Int32, (∀ (post : Int32 → Prop) (x : Int32), x = nI (lk (2 * t + b)) → post r → wpY_kind post (nI m, kh_e p, AL, NM, LF, RT, SN) x) → ((nI b = 0 → wY_linkHolds_9 (fun r' => r' = r ∧ i_Rel (k + 4) (nI m, kh_e p, kh_e s, NB, kh_e lk) (nI m, kh_e p, AL, NM, LF, RT, SN)) (nI j) (nI b) (nI m) (kh_e p) AL NM LF RT SN) ∧ (¬ nI b = 0 → ((nI b = 1 → wY_linkHolds_9 (fun r' => r' = r ∧ i_Rel (k + 4) (nI m, kh_e p, kh_e s, NB, kh_e lk) (nI m, kh_e p, AL, NM, LF, RT, SN)) (nI j) (nI b) (nI m) (kh_e p) AL NM LF RT SN) ∧ (¬ nI b = 1 → (-1 = r ∧ i_Rel (k + 4) (nI m, kh_e p, kh_e s, NB, kh_e lk) (nI m, kh_e p, AL, NM, LF, RT, SN)))))) := by
      intro r hr
      refine kh_b2 hb ?_
      unfold wY_linkHolds_9 wY_linkHolds_53
      refine ky_holds1 hj (by omega) h0 ha (br_t rfl ?_)
      rcases (by omega : b = 0 ∨ b = 1) with e | e
      · subst e
        exact br_t nI_0 ⟨vp_in_nI hj (by decide), ky_in hj h0 (by omega), hr _ _ (by rw [ky_cl hj h0 (by omega), ← he]; exact hn.2.1) ⟨rfl, hu⟩⟩
      · subst e
        exact br_f (by decide) ⟨vp_in_nI hj (by decide), ky_in hj h0 (by omega), hr _ _ (by rw [ky_cl hj h0 (by omega), ← he]; exact hn.2.2) ⟨rfl, hu⟩⟩
    rcases kh_case hI hl with g0 | ⟨g0, gd, ga⟩ | ⟨t', gt, ge, g0, ga, gun⟩
    · exact kx_kind0 (by rw [kh_at (by omega), g0]) (fin 0 (fun post x hx hp => ky_kind0 (by rw [hx, g0]) hp))
    · exact kx_kind2 (kh_at (by omega)) (by omega) (kh_sb hI hm) g0 gd (fin 2 (fun post x hx hp => ky_kind2 hx (by omega) g0 ga hp))
    · exact kx_kind1 (kh_at (by omega)) (by omega) (kh_sb hI hm) g0 gt ge gun (fin 1 (fun post x hx hp => ky_kind1 hx (by omega) g0 ga hp))
theorem i_vc_same {k : Nat} {u : SX} {v : SY} (I : i_Rel k u v) (hk : k + 4 ≤ 2048) (v1 : Int32) (v2 : Int32) : wpX_same (fun r => wpY_same (fun r' => r' = r ∧ i_Rel (k + 4) u v) v v1 v2) u v1 v2 := by
  have hu := i_up I
  obtain ⟨m, p, s, lk, NB, AL, NM, LF, RT, SN, rfl, rfl, hI⟩ := I
  unfold wpX_same wpY_same
  dsimp only
  have hm := kh_bd hI hk
  rcases kh_ix v1 (n := 8) (by decide) with h | ⟨j, hj, rfl⟩
  · exact kx_varN h (br_t rfl (ky_varN h (br_t rfl ⟨rfl, hu⟩)))
  refine kx_varY hj (br_f kh_10 ?_)
  rcases kh_ix v2 (n := 8) (by decide) with h | ⟨w, hw, rfl⟩
  · exact kx_varN h (br_t rfl (ky_varY hj (br_f kh_10 (ky_varN h (br_t rfl ⟨rfl, hu⟩)))))
  refine kx_varY hw (br_f kh_10 ⟨vp_in_nI hj (by decide), vp_in_nI hw (by decide), ?_⟩)
  by_cases z : kh_e p (nI j).toNatClampNeg = kh_e p (nI w).toNatClampNeg
  · refine br_t z ⟨vp_in_nI hj (by decide), ?_⟩
    have hpj := hI.2.1 j
    rcases kh_case hI hpj with h0 | ⟨h0, hd, ha⟩ | ⟨t, ht, he, h0, ha, un⟩
    · refine kx_kind0 (by rw [kh_at (by omega), h0]) (br_f (by decide) ?_)
      exact ky_varY hj (br_f kh_10 (ky_varY hw (br_f kh_10 ⟨vp_in_nI hj (by decide), vp_in_nI hw (by decide), br_t z ⟨vp_in_nI hj (by decide), ky_kind0 (by rw [kh_at (by omega), h0]) (br_f (by decide) ⟨rfl, hu⟩)⟩⟩)))
    · refine kx_kind2 (kh_at (by omega)) (by omega) (kh_sb hI hm) h0 hd (br_t rfl ?_)
      exact ky_varY hj (br_f kh_10 (ky_varY hw (br_f kh_10 ⟨vp_in_nI hj (by decide), vp_in_nI hw (by decide), br_t z ⟨vp_in_nI hj (by decide), ky_kind2 (kh_at (by omega)) (by omega) h0 ha (br_t rfl ⟨rfl, hu⟩)⟩⟩)))
    · refine kx_kind1 (kh_at (by omega)) (by omega) (kh_sb hI hm) h0 ht he un (br_f (by decide) ?_)
      exact ky_varY hj (br_f kh_10 (ky_varY hw (br_f kh_10 ⟨vp_in_nI hj (by decide), vp_in_nI hw (by decide), br_t z ⟨vp_in_nI hj (by decide), ky_kind1 (kh_at (by omega)) (by omega) h0 ha (br_f (by decide) ⟨rfl, hu⟩)⟩⟩)))
  · exact br_f z (ky_varY hj (br_f kh_10 (ky_varY hw (br_f kh_10 ⟨vp_in_nI hj (by decide), vp_in_nI hw (by decide), br_f z ⟨rfl, hu⟩⟩))))
end
section
/-! live, total, make -/
theorem kh_sums {k m : Nat} {p s lk : Nat → Nat} {NB AL NM LF RT : Nat → Int32} (h : kh_I k m p s lk NB AL NM LF RT) (w : Nat → Int32) : kh_sum (fun t => if s t = 0 then 0 else w (s t - 1)) 6 = kh_sum (fun r => if AL r = 0 then 0 else w r) m := by
  rw [kh_bij w s m h.2.2.1 6 h.2.2.2.2.1]
  refine kh_sum_congr m (fun r hr => ?_)
  have ha := h.2.2.2.2.2.1 r hr
  show (if kh_has s 6 r = true then w r else 0) = (if AL r = 0 then 0 else w r)
  by_cases z : AL r = 0
  · rw [if_pos z, if_neg]
    intro c
    obtain ⟨t, ht, e⟩ := (kh_has_iff s 6 r).mp c
    exact ha.mp z t ht e
  · rw [if_neg z, if_pos]
    refine (kh_has_iff s 6 r).mpr ?_
    by_cases y : ∃ t, t < 6 ∧ s t = r + 1
    · exact y
    · exact absurd (ha.mpr (fun t ht e => y ⟨t, ht, e⟩)) z
theorem kh_e0 {s : Nat → Nat} {j : Nat} (hj : j < 2 ^ 31) (hs : s j < 2 ^ 31) : kh_e s (nI j).toNatClampNeg = 0 ↔ s j = 0 := by
  rw [kh_at hj, ← nI_0, nI_eq hs (by decide)]
theorem kx_live_loop {post : Int32 → Prop} {f : Int32} {A NB LK : Nat → Int32} {s : Nat → Nat} (hs : ∀ t, s t < 2 ^ 31) (hp : post (kh_sum (fun t => if s t = 0 then 0 else 1) 6)) : ∀ d j : Nat, j + d = 6 → wX_live_4 post f A (kh_e s) NB LK (d + 1) (kh_sum (fun t => if s t = 0 then 0 else 1) j) (nI j) := by
  intro d
  induction d with
  | zero =>
    intro j hj
    have e : j = 6 := by omega
    subst e
    exact br_t (nI_le (a := 6) (Nat.le_refl _) (by decide)) hp
  | succ d ih =>
    intro j hj
    have e := kh_e0 (s := s) (show j < 2 ^ 31 by omega) (hs j)
    have i' := ih (j + 1) (by omega)
    have es : kh_sum (fun t => if s t = 0 then 0 else 1) (j + 1) = kh_sum (fun t => if s t = 0 then 0 else 1) j + (if s j = 0 then 0 else 1) := rfl
    rw [es] at i'
    refine br_f (nI_ge (b := 6) (by omega) (by decide)) ⟨vp_in_nI (by omega) (by decide), br_c (fun z => nm_r (nI_1 j) ?_) (fun z => nm_e (nm_r (nI_1 j) ?_))⟩
    · rw [if_pos (e.mp z), Int32.add_zero] at i'
      exact i'
    · rw [if_neg (fun c => z (e.mpr c))] at i'
      exact i'
theorem kx_live {post : Int32 → Prop} {f : Int32} {A NB LK : Nat → Int32} {s : Nat → Nat} (hs : ∀ t, s t < 2 ^ 31) (hp : post (kh_sum (fun t => if s t = 0 then 0 else 1) 6)) : wpX_live post (f, A, kh_e s, NB, LK) := by
  unfold wpX_live
  exact ⟨7, kx_live_loop hs hp 6 0 rfl⟩
theorem kx_total_loop {post : Int32 → Prop} {f : Int32} {A NB LK : Nat → Int32} {s : Nat → Nat} (hs : ∀ t, s t < 2 ^ 31) (hp : post (kh_sum (fun t => if s t = 0 then 0 else NB t) 6)) : ∀ d j : Nat, j + d = 6 → wX_total_4 post f A (kh_e s) NB LK (d + 1) (kh_sum (fun t => if s t = 0 then 0 else NB t) j) (nI j) := by
  intro d
  induction d with
  | zero =>
    intro j hj
    have e : j = 6 := by omega
    subst e
    exact br_t (nI_le (a := 6) (Nat.le_refl _) (by decide)) hp
  | succ d ih =>
    intro j hj
    have e := kh_e0 (s := s) (show j < 2 ^ 31 by omega) (hs j)
    have i' := ih (j + 1) (by omega)
    have es : kh_sum (fun t => if s t = 0 then 0 else NB t) (j + 1) = kh_sum (fun t => if s t = 0 then 0 else NB t) j + (if s j = 0 then 0 else NB j) := rfl
    rw [es] at i'
    refine br_f (nI_ge (b := 6) (by omega) (by decide)) ⟨vp_in_nI (by omega) (by decide), br_c (fun z => nm_r (nI_1 j) ?_) (fun z => ⟨vp_in_nI (by omega) (by decide), nm_e (nm_r (nI_1 j) ?_)⟩)⟩
    · rw [if_pos (e.mp z), Int32.add_zero] at i'
      exact i'
    · rw [if_neg (fun c => z (e.mpr c))] at i'
      rw [nI_clamp (by omega)]
      exact i'
theorem kx_total {post : Int32 → Prop} {f : Int32} {A NB LK : Nat → Int32} {s : Nat → Nat} (hs : ∀ t, s t < 2 ^ 31) (hp : post (kh_sum (fun t => if s t = 0 then 0 else NB t) 6)) : wpX_total post (f, A, kh_e s, NB, LK) := by
  unfold wpX_total
  exact ⟨7, kx_total_loop hs hp 6 0 rfl⟩
theorem ky_live_loop {post : Int32 → Prop} {m : Nat} {V AL NM LF RT SN : Nat → Int32} (hm : m ≤ 511) (hp : post (kh_sum (fun r => if AL r = 0 then 0 else 1) m)) : ∀ d j : Nat, j + d = m → wY_live_4 post (nI m) V AL NM LF RT SN (d + 1) (kh_sum (fun r => if AL r = 0 then 0 else 1) j) (nI j) := by
  intro d
  induction d with
  | zero =>
    intro j hj
    have e : j = m := by omega
    subst e
    exact br_t (nI_le (Nat.le_refl _) (by omega)) hp
  | succ d ih =>
    intro j hj
    have i' := ih (j + 1) (by omega)
    have es : kh_sum (fun r => if AL r = 0 then 0 else 1) (j + 1) = kh_sum (fun r => if AL r = 0 then 0 else 1) j + (if AL j = 0 then 0 else 1) := rfl
    rw [es] at i'
    refine br_f (nI_ge (by omega) (by omega)) ⟨vp_in_nI (by omega) (by decide), ?_⟩
    rw [nI_clamp (by omega)]
    refine br_c (fun z => nm_e (nm_r (nI_1 j) ?_)) (fun z => nm_e (nm_r (nI_1 j) ?_))
    · rw [if_pos z] at i'
      exact i'
    · rw [if_neg z] at i'
      exact i'
theorem ky_live {post : Int32 → Prop} {m : Nat} {V AL NM LF RT SN : Nat → Int32} (hm : m ≤ 511) (hp : post (kh_sum (fun r => if AL r = 0 then 0 else 1) m)) : wpY_live post (nI m, V, AL, NM, LF, RT, SN) := by
  unfold wpY_live
  exact ⟨m + 1, ky_live_loop hm hp m 0 (Nat.zero_add m)⟩
theorem ky_total_loop {post : Int32 → Prop} {m : Nat} {V AL NM LF RT SN : Nat → Int32} (hm : m ≤ 511) (hp : post (kh_sum (fun r => if AL r = 0 then 0 else NM r) m)) : ∀ d j : Nat, j + d = m → wY_total_4 post (nI m) V AL NM LF RT SN (d + 1) (kh_sum (fun r => if AL r = 0 then 0 else NM r) j) (nI j) := by
  intro d
  induction d with
  | zero =>
    intro j hj
    have e : j = m := by omega
    subst e
    exact br_t (nI_le (Nat.le_refl _) (by omega)) hp
  | succ d ih =>
    intro j hj
    have i' := ih (j + 1) (by omega)
    have es : kh_sum (fun r => if AL r = 0 then 0 else NM r) (j + 1) = kh_sum (fun r => if AL r = 0 then 0 else NM r) j + (if AL j = 0 then 0 else NM j) := rfl
    rw [es] at i'
    refine br_f (nI_ge (by omega) (by omega)) ⟨vp_in_nI (by omega) (by decide), ?_⟩
    rw [nI_clamp (by omega)]
    refine br_c (fun z => nm_e (nm_r (nI_1 j) ?_)) (fun z => ⟨vp_in_nI (by omega) (by decide), nm_e (nm_r (nI_1 j) ?_)⟩)
    · rw [if_pos z] at i'
      exact i'
    · rw [if_neg z] at i'
      exact i'
theorem ky_total {post : Int32 → Prop} {m : Nat} {V AL NM LF RT SN : Nat → Int32} (hm : m ≤ 511) (hp : post (kh_sum (fun r => if AL r = 0 then 0 else NM r) m)) : wpY_total post (nI m, V, AL, NM, LF, RT, SN) := by
  unfold wpY_total
  exact ⟨m + 1, ky_total_loop hm hp m 0 (Nat.zero_add m)⟩
theorem i_vc_live {k : Nat} {u : SX} {v : SY} (I : i_Rel k u v) (hk : k + 4 ≤ 2048) : wpX_live (fun r => wpY_live (fun r' => r' = r ∧ i_Rel (k + 4) u v) v) u := by
  have hu := i_up I
  obtain ⟨m, p, s, lk, NB, AL, NM, LF, RT, SN, rfl, rfl, hI⟩ := I
  have hm := kh_bd hI hk
  exact kx_live (kh_sb hI hm) (ky_live hm ⟨(kh_sums hI (fun _ => 1)).symm, hu⟩)
theorem i_vc_total {k : Nat} {u : SX} {v : SY} (I : i_Rel k u v) (hk : k + 4 ≤ 2048) : wpX_total (fun r => wpY_total (fun r' => r' = r ∧ i_Rel (k + 4) u v) v) u := by
  have hu := i_up I
  obtain ⟨m, p, s, lk, NB, AL, NM, LF, RT, SN, rfl, rfl, hI⟩ := I
  have hm := kh_bd hI hk
  refine kx_total (kh_sb hI hm) (ky_total hm ⟨?_, hu⟩)
  rw [← kh_sums hI NM]
  refine kh_sum_congr 6 (fun t ht => ?_)
  show (if s t = 0 then 0 else NM (s t - 1)) = (if s t = 0 then 0 else NB t)
  by_cases z : s t = 0
  · rw [if_pos z, if_pos z]
  · rw [if_neg z, if_neg z, (hI.2.2.2.2.2.2 t ht z).1]
theorem kh_lv (s : Nat → Nat) : kh_sum (fun t => if s t = 0 then 0 else 1) 6 = nI (kh_cnt (fun t => !decide (s t = 0)) 6) := by
  rw [← kh_sum_cnt]
  refine kh_sum_congr 6 (fun t _ => ?_)
  show (if s t = 0 then (0 : Int32) else 1) = (if (!decide (s t = 0)) = true then 1 else 0)
  by_cases z : s t = 0
  · rw [if_pos z, if_neg (by simp [z])]
  · rw [if_neg z, if_pos (by simp [z])]
theorem i_vc_make {k : Nat} {u : SX} {v : SY} (I : i_Rel k u v) (hk : k + 4 ≤ 2048) (v1 : Int32) (v2 : Int32) : wpX_make (fun r u' => wpY_make (fun r' v' => r' = r ∧ i_Rel (k + 4) u' v') v v1 v2) u v1 v2 := by
  obtain ⟨m, p, s, lk, NB, AL, NM, LF, RT, SN, rfl, rfl, hI⟩ := I
  unfold wpX_make wpY_make
  dsimp only
  have hm := kh_bd hI hk
  rcases kh_ix v1 (n := 8) (by decide) with h | ⟨j, hj, rfl⟩
  · exact kx_varN h (br_t rfl (ky_varN h (br_t rfl ⟨rfl, kh_R (kh_I_up hI)⟩)))
  have lv : kh_sum (fun r => if AL r = 0 then 0 else 1) m = nI (kh_cnt (fun t => !decide (s t = 0)) 6) := (kh_sums hI (fun _ => 1)).symm.trans (kh_lv s)
  have le := kh_cnt_le (fun t => !decide (s t = 0)) 6
  refine kx_varY hj (br_f kh_10 (kx_free (kh_sb hI hm) (fun t ht h0 => ?_) (fun hall => ?_)))
  · have lt : kh_cnt (fun t => !decide (s t = 0)) 6 < 6 := by
      rcases Nat.lt_or_ge (kh_cnt (fun t => !decide (s t = 0)) 6) 6 with g | g
      · exact g
      · have := kh_cnt_all (fun t => !decide (s t = 0)) 6 g t ht
        simp [h0] at this
    refine br_f (kh_ne ht) (nm_r (nI_1 m) ⟨vp_in_nI ht (by decide), nm_r (kh_u (by omega) rfl) ⟨vp_in_nI ht (by decide), nm_r (e' := upd NB t v2) (by rw [nI_clamp (by omega)]) (kx_pl (b := 0) nI_0.symm ⟨vp_in_nI (by omega) (by decide), nm_r (kh_u (by omega) nI_0.symm) (kx_pl (b := 1) rfl ⟨vp_in_nI (by omega) (by decide), nm_r (kh_u (by omega) nI_0.symm) ⟨vp_in_nI hj (by decide), nm_r (kh_u (by omega) rfl) ?_⟩⟩)⟩)⟩⟩)
    refine ky_varY hj (br_f kh_10 (ky_live hm ?_))
    rw [lv]
    refine br_f (nI_ge (b := 6) lt (by decide)) (br_t (nI_lt (b := 512) (by omega) (by decide)) ?_)
    refine ⟨vp_in_nI (by omega) (by decide), nm_r (e' := upd AL m 1) (by rw [nI_clamp (by omega), kh_b1]) ⟨vp_in_nI (by omega) (by decide), nm_r (e' := upd NM m v2) (by rw [nI_clamp (by omega)]) ⟨vp_in_nI (by omega) (by decide), nm_r (e' := upd LF m 0) (by rw [nI_clamp (by omega)]) ⟨vp_in_nI (by omega) (by decide), nm_r (e' := upd RT m 0) (by rw [nI_clamp (by omega)]) (nm_r (nI_1 m) ⟨vp_in_nI hj (by decide), nm_r (kh_u (by omega) rfl) ⟨rfl, ?_⟩⟩)⟩⟩⟩⟩
    exact kh_R (kh_I_make hI ht h0)
  · refine br_t rfl (ky_varY hj (br_f kh_10 (ky_live hm ?_)))
    have full : kh_cnt (fun t => !decide (s t = 0)) 6 = 6 := kh_cnt_full _ 6 (fun t ht => by simp [hall t ht])
    rw [lv, full]
    exact br_t (nI_le (a := 6) (Nat.le_refl _) (by decide)) ⟨rfl, kh_R (kh_I_up hI)⟩
end
section
/-! X: the marks are what is reached -/
theorem kb_one : ∀ t, t < 6 → ∀ i, i < 6 → bt ((1 : Int32) <<< (nI t &&& 31)) i = decide (i = t) := by decide +kernel
theorem kb_1 : ∀ i, i < 32 → bt 1 i = decide (i = 0) := by decide +kernel
theorem kb_mk (x : Int32) {t : Nat} (ht : t < 6) : ((x >>> (nI t &&& 31)) &&& 1) = 1 ↔ bt x t = true := by
  have e0 : bt (x >>> (nI t &&& 31)) 0 = bt x t := by
    rw [b_sshr t (by omega) x (by omega), if_pos (by omega), Nat.add_zero]
  constructor
  · intro h
    have h' : bt ((x >>> (nI t &&& 31)) &&& 1) 0 = bt 1 0 := by rw [h]
    rw [b_and, e0, kb_1 0 (by omega)] at h'
    simpa using h'
  · intro h
    refine b_ext (fun i hi => ?_)
    rw [b_and, kb_1 i hi]
    by_cases z : i = 0
    · rw [z, e0, h]; rfl
    · rw [decide_eq_false z, Bool.and_false]
theorem kx_mark {post : Int32 → Prop} {x y : Int32} {t : Nat} (hy : y = nI t) (ht : t < 6) (H1 : bt x t = true → post 1) (H0 : ¬ bt x t = true → post 0) : wpX_isMarked post x y := by
  subst hy
  unfold wpX_isMarked
  exact br_c (fun z => H1 ((kb_mk x ht).mp z)) (fun z => H0 (fun c => z ((kb_mk x ht).mpr c)))
theorem kx_add {k m q : Nat} {p s lk : Nat → Nat} {NB AL NM LF RT : Nat → Int32} {post : Int32 → Prop} {x z : Int32} (hI : kh_I k m p s lk NB AL NM LF RT) (hm : m ≤ 511) (hz : z = nI q) (hq : q ≤ m) (H : ∀ y : Int32, (∀ i, i < 6 → (bt y i = true ↔ bt x i = true ∨ (s i ≠ 0 ∧ q = s i))) → post y) : wpX_slotOf (fun r => wpX_withSlot post x r) (nI m, kh_e p, kh_e s, NB, kh_e lk) z := by
  rcases kh_case hI hq with h0 | ⟨h0, hd, ha⟩ | ⟨t, ht, he, h0, ha, un⟩
  · refine kx_slotN hz (by omega) (kh_sb hI hm) (Or.inl h0) ?_
    unfold wpX_withSlot
    refine br_t rfl (H x (fun i hi => ⟨fun h => Or.inl h, fun h => h.resolve_right (fun c => c.1 (by omega))⟩))
  · refine kx_slotN hz (by omega) (kh_sb hI hm) (Or.inr hd) ?_
    unfold wpX_withSlot
    refine br_t rfl (H x (fun i hi => ⟨fun h => Or.inl h, fun h => h.resolve_right (fun c => hd i hi c.2.symm)⟩))
  · refine kx_slotY hz (by omega) (kh_sb hI hm) h0 ht he un ?_
    unfold wpX_withSlot
    refine br_f (kh_ne ht) (H _ (fun i hi => ?_))
    rw [b_or, kb_one t ht i hi, Bool.or_eq_true, decide_eq_true_eq]
    refine ⟨fun h => ?_, fun h => ?_⟩
    · rcases h with h | h
      · exact Or.inl h
      · subst h; exact Or.inr ⟨by omega, he.symm⟩
    · rcases h with h | h
      · exact Or.inl h
      · exact Or.inr (un i hi h.2.symm)
theorem kx_vars_loop {k m : Nat} {p s lk : Nat → Nat} {NB AL NM LF RT : Nat → Int32} {post : Int32 → Prop} (hI : kh_I k m p s lk NB AL NM LF RT) (hm : m ≤ 511) (H : ∀ x : Int32, (∀ t, t < 6 → (bt x t = true ↔ kh_Root p s t)) → post x) : ∀ d j : Nat, j + d = 8 → ∀ x : Int32, (∀ t, t < 6 → (bt x t = true ↔ s t ≠ 0 ∧ ∃ i, i < j ∧ p i = s t)) → wX_slotsOfVariables_4 post (nI m) (kh_e p) (kh_e s) NB (kh_e lk) (d + 1) x (nI j) := by
  intro d
  induction d with
  | zero =>
    intro j hj x hx
    have e : j = 8 := by omega
    subst e
    exact br_t (nI_le (a := 8) (Nat.le_refl _) (by decide)) (H x hx)
  | succ d ih =>
    intro j hj x hx
    refine br_f (nI_ge (b := 8) (by omega) (by decide)) ⟨vp_in_nI (by omega) (by decide), ?_⟩
    refine kx_add hI hm (kh_at (by omega)) (hI.2.1 j) (fun y hy => nm_r (nI_1 j) (ih (j + 1) (by omega) y (fun t ht => ?_)))
    rw [hy t ht, hx t ht]
    refine ⟨fun h => ?_, fun h => ?_⟩
    · rcases h with ⟨h0, i, hi, e⟩ | ⟨h0, e⟩
      · exact ⟨h0, i, by omega, e⟩
      · exact ⟨h0, j, by omega, e⟩
    · obtain ⟨h0, i, hi, e⟩ := h
      rcases Nat.lt_or_ge i j with g | g
      · exact Or.inl ⟨h0, i, g, e⟩
      · have e' : i = j := by omega
        subst e'
        exact Or.inr ⟨h0, e⟩
theorem kx_vars {k m : Nat} {p s lk : Nat → Nat} {NB AL NM LF RT : Nat → Int32} {post : Int32 → Prop} (hI : kh_I k m p s lk NB AL NM LF RT) (hm : m ≤ 511) (H : ∀ x : Int32, (∀ t, t < 6 → (bt x t = true ↔ kh_Root p s t)) → post x) : wpX_slotsOfVariables post (nI m, kh_e p, kh_e s, NB, kh_e lk) := by
  unfold wpX_slotsOfVariables
  refine ⟨9, kx_vars_loop hI hm H 8 0 rfl 0 (fun t _ => ?_)⟩
  rw [b_0]
  exact ⟨fun z => absurd z (by decide), fun ⟨_, i, hi, _⟩ => absurd hi (Nat.not_lt_zero i)⟩
theorem kx_wider_loop {k m : Nat} {p s lk : Nat → Nat} {NB AL NM LF RT : Nat → Int32} {post : Int32 → Prop} {x : Int32} (hI : kh_I k m p s lk NB AL NM LF RT) (hm : m ≤ 511) (H : ∀ y : Int32, (∀ t, t < 6 → (bt y t = true ↔ bt x t = true ∨ (s t ≠ 0 ∧ ∃ i, i < 12 ∧ bt x (i / 2) = true ∧ lk i = s t))) → post y) : ∀ d j : Nat, j + d = 12 → ∀ y : Int32, (∀ t, t < 6 → (bt y t = true ↔ bt x t = true ∨ (s t ≠ 0 ∧ ∃ i, i < j ∧ bt x (i / 2) = true ∧ lk i = s t))) → wX_withLinkedSlots_4 post x (nI m) (kh_e p) (kh_e s) NB (kh_e lk) (d + 1) y (nI j) := by
  intro d
  induction d with
  | zero =>
    intro j hj y hy
    have e : j = 12 := by omega
    subst e
    exact br_t (nI_le (a := 12) (Nat.le_refl _) (by decide)) (H y hy)
  | succ d ih =>
    intro j hj y hy
    have ed : nI j / 2 = nI (j / 2) := pk_div (d := 2) (by omega) (by decide) (by decide)
    refine br_f (nI_ge (b := 12) (by omega) (by decide)) ⟨by decide, kx_mark ed (by omega) (fun z => br_f kh_10 ⟨vp_in_nI (by omega) (by decide), ?_⟩) (fun z => br_t rfl (nm_r (nI_1 j) (ih (j + 1) (by omega) y (fun t ht => ?_))))⟩
    · refine kx_add hI hm (kh_at (by omega)) (hI.2.2.2.1 j) (fun y' hy' => nm_r (nI_1 j) (ih (j + 1) (by omega) y' (fun t ht => ?_)))
      rw [hy' t ht, hy t ht]
      refine ⟨fun h => ?_, fun h => ?_⟩
      · rcases h with (h | ⟨h0, i, hi, e⟩) | ⟨h0, e⟩
        · exact Or.inl h
        · exact Or.inr ⟨h0, i, by omega, e⟩
        · exact Or.inr ⟨h0, j, by omega, z, e⟩
      · rcases h with h | ⟨h0, i, hi, e⟩
        · exact Or.inl (Or.inl h)
        · rcases Nat.lt_or_ge i j with g | g
          · exact Or.inl (Or.inr ⟨h0, i, g, e⟩)
          · have e' : i = j := by omega
            subst e'
            exact Or.inr ⟨h0, e.2⟩
    · rw [hy t ht]
      refine ⟨fun h => ?_, fun h => ?_⟩
      · rcases h with h | ⟨h0, i, hi, e⟩
        · exact Or.inl h
        · exact Or.inr ⟨h0, i, by omega, e⟩
      · rcases h with h | ⟨h0, i, hi, e⟩
        · exact Or.inl h
        · rcases Nat.lt_or_ge i j with g | g
          · exact Or.inr ⟨h0, i, g, e⟩
          · have e' : i = j := by omega
            subst e'
            exact absurd e.1 z
theorem kx_wider {k m : Nat} {p s lk : Nat → Nat} {NB AL NM LF RT : Nat → Int32} {post : Int32 → Prop} {x : Int32} (hI : kh_I k m p s lk NB AL NM LF RT) (hm : m ≤ 511) (H : ∀ y : Int32, (∀ t, t < 6 → (bt y t = true ↔ bt x t = true ∨ (s t ≠ 0 ∧ ∃ i, i < 12 ∧ bt x (i / 2) = true ∧ lk i = s t))) → post y) : wpX_withLinkedSlots post (nI m, kh_e p, kh_e s, NB, kh_e lk) x := by
  unfold wpX_withLinkedSlots
  refine ⟨13, kx_wider_loop hI hm H 12 0 rfl x (fun t _ => ?_)⟩
  exact ⟨fun h => Or.inl h, fun h => h.resolve_right (fun ⟨_, i, hi, _⟩ => absurd hi (Nat.not_lt_zero i))⟩
theorem kx_reach_loop {k m : Nat} {p s lk : Nat → Nat} {NB AL NM LF RT : Nat → Int32} {post : Int32 → Prop} (hI : kh_I k m p s lk NB AL NM LF RT) (hm : m ≤ 511) (H : ∀ x : Int32, kh_J p s lk 6 (bt x) → post x) : ∀ d j : Nat, j + d = 6 → ∀ x : Int32, kh_J p s lk j (bt x) → wX_reachedSlots_7 post (nI m) (kh_e p) (kh_e s) NB (kh_e lk) (d + 1) x (nI j) := by
  intro d
  induction d with
  | zero =>
    intro j hj x hx
    have e : j = 6 := by omega
    subst e
    exact br_t (nI_le (a := 6) (Nat.le_refl _) (by decide)) (H x hx)
  | succ d ih =>
    intro j hj x hx
    refine br_f (nI_ge (b := 6) (by omega) (by decide)) (kx_wider hI hm (fun y hy => nm_r (nI_1 j) (ih (j + 1) (by omega) y ?_)))
    refine kh_J_step hx (fun t ht h => (hy t ht).mpr (Or.inl h)) (fun t t' ht ht' h e => (hy t' ht').mpr (Or.inr ⟨e.1, ?_⟩)) (fun t ht h => ?_)
    · rcases e.2 with e | e
      · exact ⟨2 * t, by omega, by rw [show 2 * t / 2 = t by omega]; exact h, e⟩
      · exact ⟨2 * t + 1, by omega, by rw [show (2 * t + 1) / 2 = t by omega]; exact h, e⟩
    · rcases (hy t ht).mp h with h | ⟨h0, i, hi, hb, e⟩
      · exact hx.2.1 t ht h
      · refine kh_Re_step (a := i / 2) (by omega) ht (hx.2.1 (i / 2) (by omega) hb) ⟨h0, ?_⟩
        rcases (by omega : i = 2 * (i / 2) ∨ i = 2 * (i / 2) + 1) with c | c
        · rw [← c]; exact Or.inl e
        · rw [← c]; exact Or.inr e
theorem kx_reach {k m : Nat} {p s lk : Nat → Nat} {NB AL NM LF RT : Nat → Int32} {post : Int32 → Prop} (hI : kh_I k m p s lk NB AL NM LF RT) (hm : m ≤ 511) (H : ∀ x : Int32, (∀ t, t < 6 → (bt x t = true ↔ kh_Re p s lk t)) → post x) : wpX_reachedSlots post (nI m, kh_e p, kh_e s, NB, kh_e lk) := by
  unfold wpX_reachedSlots
  refine kx_vars hI hm (fun x hx => ⟨6, ?_⟩)
  exact kx_reach_loop hI hm (fun x hx => H x (fun t ht => kh_J_end hx t ht)) 5 1 rfl x (kh_J_1 hx)
/-! X: the loops of reached and sweep -/
theorem kx_rd_loop {post : Int32 → Prop} {f x : Int32} {A S NB LK : Nat → Int32} (hp : post (kh_sum (fun t => if bt x t = true then 1 else 0) 6)) : ∀ d j : Nat, j + d = 6 → wX_reached_9 post x f A S NB LK (d + 1) (kh_sum (fun t => if bt x t = true then 1 else 0) j) (nI j) := by
  intro d
  induction d with
  | zero =>
    intro j hj
    have e : j = 6 := by omega
    subst e
    exact br_t (nI_le (a := 6) (Nat.le_refl _) (by decide)) hp
  | succ d ih =>
    intro j hj
    have i' := ih (j + 1) (by omega)
    have es : kh_sum (fun t => if bt x t = true then 1 else 0) (j + 1) = kh_sum (fun t => if bt x t = true then 1 else 0) j + (if bt x j = true then 1 else 0) := rfl
    rw [es] at i'
    refine br_f (nI_ge (b := 6) (by omega) (by decide)) (kx_mark rfl (by omega) (fun z => br_f kh_10 (nm_e (nm_r (nI_1 j) ?_))) (fun z => br_t rfl (nm_r (nI_1 j) ?_)))
    · rw [if_pos z] at i'
      exact i'
    · rw [if_neg z, Int32.add_zero] at i'
      exact i'
def kx_sw (s : Nat → Nat) (x : Int32) (n : Nat) : Nat → Nat := fun t => if t < n ∧ bt x t = false then 0 else s t
theorem kx_sw_0 (s : Nat → Nat) (x : Int32) : kx_sw s x 0 = s := by
  funext t
  exact if_neg (fun h => absurd h.1 (Nat.not_lt_zero t))
theorem kx_sw_at (s : Nat → Nat) (x : Int32) (n : Nat) : kx_sw s x n n = s n := if_neg (fun h => absurd h.1 (Nat.lt_irrefl n))
theorem kx_sw_keep {s : Nat → Nat} {x : Int32} {n : Nat} (h : s n = 0 ∨ bt x n = true) : kx_sw s x (n + 1) = kx_sw s x n := by
  funext t
  unfold kx_sw
  by_cases e : t = n
  · subst e
    rw [if_neg (c := t < t ∧ bt x t = false) (fun h => absurd h.1 (Nat.lt_irrefl t))]
    rcases h with h | h
    · rw [h]; split <;> rfl
    · rw [if_neg (fun c => absurd (c.2.symm.trans h) (by decide))]
  · by_cases c : t < n ∧ bt x t = false
    · rw [if_pos c, if_pos ⟨by omega, c.2⟩]
    · rw [if_neg c, if_neg (fun c' => c ⟨by omega, c'.2⟩)]
theorem kx_sw_put {s : Nat → Nat} {x : Int32} {n : Nat} (h : ¬ bt x n = true) : kh_un (kx_sw s x n) n 0 = kx_sw s x (n + 1) := by
  funext t
  unfold kh_un kx_sw
  have hf : bt x n = false := by simpa using h
  by_cases e : t = n
  · subst e
    rw [if_pos rfl, if_pos ⟨by omega, hf⟩]
  · rw [if_neg e]
    by_cases c : t < n ∧ bt x t = false
    · rw [if_pos c, if_pos ⟨by omega, c.2⟩]
    · rw [if_neg c, if_neg (fun c' => c ⟨by omega, c'.2⟩)]
theorem kx_sw_loop {post : Int32 → SX → Prop} {f x : Int32} {A NB LK : Nat → Int32} {s : Nat → Nat} (hs : ∀ t, s t < 2 ^ 31) (hp : post (kh_sum (fun t => if s t = 0 then 0 else if bt x t = true then 0 else 1) 6) (f, A, kh_e (kx_sw s x 6), NB, LK)) : ∀ d j : Nat, j + d = 6 → wX_sweep_9 post x f (d + 1) (kh_sum (fun t => if s t = 0 then 0 else if bt x t = true then 0 else 1) j) (nI j) A (kh_e (kx_sw s x j)) NB LK := by
  intro d
  induction d with
  | zero =>
    intro j hj
    have e : j = 6 := by omega
    subst e
    exact br_t (nI_le (a := 6) (Nat.le_refl _) (by decide)) hp
  | succ d ih =>
    intro j hj
    have i' := ih (j + 1) (by omega)
    have es : kh_sum (fun t => if s t = 0 then 0 else if bt x t = true then 0 else 1) (j + 1) = kh_sum (fun t => if s t = 0 then 0 else if bt x t = true then 0 else 1) j + (if s j = 0 then 0 else if bt x j = true then 0 else 1) := rfl
    rw [es] at i'
    have e : kh_e (kx_sw s x j) (nI j).toNatClampNeg = 0 ↔ s j = 0 := by
      rw [kh_at (by omega), kx_sw_at, ← nI_0, nI_eq (hs j) (by decide)]
    refine br_f (nI_ge (b := 6) (by omega) (by decide)) ⟨vp_in_nI (by omega) (by decide), br_c (fun z => nm_r (nI_1 j) ?_) (fun z => kx_mark rfl (by omega) (fun y => br_f kh_10 (nm_r (nI_1 j) ?_)) (fun y => br_t rfl ⟨vp_in_nI (by omega) (by decide), nm_r ((kh_u (by omega) nI_0.symm).trans (congrArg kh_e (kx_sw_put y))) (nm_e (nm_r (nI_1 j) ?_))⟩))⟩
    · rw [if_pos (e.mp z), Int32.add_zero, kx_sw_keep (Or.inl (e.mp z))] at i'
      exact i'
    · rw [if_neg (fun c => z (e.mpr c)), if_pos y, Int32.add_zero, kx_sw_keep (Or.inr y)] at i'
      exact i'
    · rw [if_neg (fun c => z (e.mpr c)), if_neg y] at i'
      exact i'
end
section
/-! Y: what look leaves in seen is what is reached -/
theorem kh_alive {k m t : Nat} {p s lk : Nat → Nat} {NB AL NM LF RT : Nat → Int32} (h : kh_I k m p s lk NB AL NM LF RT) (ht : t < 6) (h0 : s t ≠ 0) : ¬ AL (s t - 1) = 0 := by
  intro z
  have l := h.2.2.1 t
  exact (h.2.2.2.2.2.1 (s t - 1) (by omega)).mp z t ht (by omega)
theorem kh_slot {k m i : Nat} {p s lk : Nat → Nat} {NB AL NM LF RT : Nat → Int32} (h : kh_I k m p s lk NB AL NM LF RT) (hi : i < m) (ha : ¬ AL i = 0) : ∃ t, t < 6 ∧ s t = i + 1 := by
  by_cases y : ∃ t, t < 6 ∧ s t = i + 1
  · exact y
  · exact absurd ((h.2.2.2.2.2.1 i hi).mpr (fun t ht e => y ⟨t, ht, e⟩)) ha
theorem ky_come {k m q : Nat} {p s lk : Nat → Nat} {NB AL NM LF RT SN : Nat → Int32} {x : Int32} {post : Int32 → SY → Prop} (hI : kh_I k m p s lk NB AL NM LF RT) (hm : m ≤ 511) (hx : x = nI q) (hq : q ≤ m) (H : ∀ (r : Int32) (SN' : Nat → Int32), (∀ i, ¬ SN' i = 0 ↔ ¬ SN i = 0 ∨ (i + 1 = q ∧ ¬ AL i = 0)) → post r (nI m, kh_e p, AL, NM, LF, RT, SN')) : wpY_come post (nI m, kh_e p, AL, NM, LF, RT, SN) x := by
  unfold wpY_come
  rcases kh_case hI hq with h0 | ⟨h0, hd, ha⟩ | ⟨t, ht, he, h0, ha, un⟩
  · refine ky_kind0 (by rw [hx, h0]) (br_f (by decide) (H 0 SN (fun i => ⟨fun h => Or.inl h, fun h => h.resolve_right (fun c => by omega)⟩)))
  · refine ky_kind2 hx (by omega) h0 ha (br_f (by decide) (H 0 SN (fun i => ⟨fun h => Or.inl h, fun h => h.resolve_right (fun c => ?_)⟩)))
    have e : q - 1 = i := by omega
    rw [e] at ha
    exact c.2 ha
  · have ex : x - 1 = nI (q - 1) := by rw [hx, kh_m1 h0]
    refine ky_kind1 hx (by omega) h0 ha (br_t rfl ?_)
    rw [ex, nI_clamp (by omega), kh_b1]
    refine ⟨vp_in_nI (by omega) (by decide), br_c (fun z => ⟨vp_in_nI (by omega) (by decide), nm_e (H 1 _ (fun i => ?_))⟩) (fun z => H 0 SN (fun i => ⟨fun h => Or.inl h, fun h => ?_⟩))⟩
    · by_cases e : i = q - 1
      · subst e
        rw [pk_us]
        exact ⟨fun _ => Or.inr ⟨by omega, ha⟩, fun _ => kh_10⟩
      · rw [pk_un e]
        exact ⟨fun h => Or.inl h, fun h => h.resolve_right (fun c => by omega)⟩
    · rcases h with h | h
      · exact h
      · have e : i = q - 1 := by omega
        rw [e]
        exact z
def kz_S (m : Nat) (p s lk : Nat → Nat) (SN : Nat → Int32) : Prop := ∀ i, i < m → ¬ SN i = 0 → ∃ t, t < 6 ∧ s t = i + 1 ∧ kh_Re p s lk t
def kz_A (s : Nat → Nat) (SN : Nat → Int32) : Nat → Bool := fun t => decide (s t ≠ 0 ∧ ¬ SN (s t - 1) = 0)
theorem kz_A_iff {s : Nat → Nat} {SN : Nat → Int32} {t : Nat} : kz_A s SN t = true ↔ (s t ≠ 0 ∧ ¬ SN (s t - 1) = 0) := decide_eq_true_iff
theorem kz_A_re {k m : Nat} {p s lk : Nat → Nat} {NB AL NM LF RT SN : Nat → Int32} (hI : kh_I k m p s lk NB AL NM LF RT) (hS : kz_S m p s lk SN) (t : Nat) (ht : t < 6) (h : kz_A s SN t = true) : kh_Re p s lk t := by
  obtain ⟨h0, hn⟩ := kz_A_iff.mp h
  have l := hI.2.2.1 t
  obtain ⟨t', ht', e, hr⟩ := hS (s t - 1) (by omega) hn
  have := hI.2.2.2.2.1 t' t ht' ht (by omega) (by omega)
  rw [← this]
  exact hr
theorem kz_come {k m q : Nat} {p s lk : Nat → Nat} {NB AL NM LF RT SN SN' : Nat → Int32} (hI : kh_I k m p s lk NB AL NM LF RT) (hS : kz_S m p s lk SN) (hc : ∀ i, ¬ SN' i = 0 ↔ ¬ SN i = 0 ∨ (i + 1 = q ∧ ¬ AL i = 0)) (hr : ∀ t, t < 6 → s t ≠ 0 → q = s t → kh_Re p s lk t) : kz_S m p s lk SN' := by
  intro i hi hn
  rcases (hc i).mp hn with h | ⟨e, ha⟩
  · exact hS i hi h
  · obtain ⟨t, ht, et⟩ := kh_slot hI hi ha
    exact ⟨t, ht, et, hr t ht (by omega) (by omega)⟩
theorem kz_got {k m t : Nat} {p s lk : Nat → Nat} {NB AL NM LF RT SN SN' : Nat → Int32} {q : Nat} (hI : kh_I k m p s lk NB AL NM LF RT) (hc : ∀ i, ¬ SN' i = 0 ↔ ¬ SN i = 0 ∨ (i + 1 = q ∧ ¬ AL i = 0)) (ht : t < 6) (h0 : s t ≠ 0) (e : q = s t) : ¬ SN' (s t - 1) = 0 := (hc (s t - 1)).mpr (Or.inr ⟨by omega, kh_alive hI ht h0⟩)
theorem ky_pass_loop {k m : Nat} {p s lk : Nat → Nat} {NB AL NM LF RT SN0 : Nat → Int32} {post : SY → Prop} {J : Int32 → Int32 → (Nat → Int32) → (Nat → Int32) → (Nat → Int32) → (Nat → Int32) → (Nat → Int32) → (Nat → Int32) → Prop} {c : Nat} (hI : kh_I k m p s lk NB AL NM LF RT) (hm : m ≤ 511) (H : ∀ SN : Nat → Int32, kz_S m p s lk SN → (∀ i, ¬ SN0 i = 0 → ¬ SN i = 0) → (∀ t t', t < 6 → t' < 6 → s t ≠ 0 → s t - 1 < m → ¬ SN0 (s t - 1) = 0 → kh_E s lk t t' → ¬ SN (s t' - 1) = 0) → J (nI (c + 1)) (nI m) (kh_e p) AL NM LF RT SN) : ∀ d j : Nat, j + d = m → ∀ SN : Nat → Int32, kz_S m p s lk SN → (∀ i, ¬ SN0 i = 0 → ¬ SN i = 0) → (∀ t t', t < 6 → t' < 6 → s t ≠ 0 → s t - 1 < j → ¬ SN0 (s t - 1) = 0 → kh_E s lk t t' → ¬ SN (s t' - 1) = 0) → wY_look_57 post J (nI c) (d + 1) (nI j) (nI m) (kh_e p) AL NM LF RT SN := by
  intro d
  induction d with
  | zero =>
    intro j hj SN hS h1 h2
    have e : j = m := by omega
    subst e
    exact br_t (nI_le (Nat.le_refl _) (by omega)) (nm_r (nI_1 c) (H SN hS h1 h2))
  | succ d ih =>
    intro j hj SN hS h1 h2
    refine br_f (nI_ge (by omega) (by omega)) ⟨vp_in_nI (by omega) (by decide), ?_⟩
    rw [nI_clamp (show j < 2 ^ 31 by omega)]
    by_cases z : SN j = 0
    · refine br_t z (nm_r (nI_1 j) (ih (j + 1) (by omega) SN hS h1 (fun t t' ht ht' h0 hl hn e => ?_)))
      rcases Nat.lt_or_ge (s t - 1) j with g | g
      · exact h2 t t' ht ht' h0 g hn e
      · have ej : s t - 1 = j := by omega
        rw [ej] at hn
        exact absurd z (h1 j hn)
    · obtain ⟨t0, ht0, es, hr⟩ := hS j (by omega) z
      have hn := hI.2.2.2.2.2.2 t0 ht0 (by omega)
      have ej : s t0 - 1 = j := by omega
      rw [ej] at hn
      refine br_f z ⟨vp_in_nI (by omega) (by decide), ?_⟩
      refine ky_come hI hm hn.2.1 (hI.2.2.2.1 _) (fun r1 SN1 c1 => ?_)
      have hS1 := kz_come hI hS c1 (fun t ht h0 e => kh_Re_step ht0 ht hr ⟨h0, Or.inl e⟩)
      refine ⟨vp_in_nI (by omega) (by decide), ?_⟩
      refine ky_come hI hm hn.2.2 (hI.2.2.2.1 _) (fun r2 SN2 c2 => ?_)
      have hS2 := kz_come hI hS1 c2 (fun t ht h0 e => kh_Re_step ht0 ht hr ⟨h0, Or.inr e⟩)
      refine nm_r (nI_1 j) (ih (j + 1) (by omega) SN2 hS2 (fun i h => (c2 i).mpr (Or.inl ((c1 i).mpr (Or.inl (h1 i h))))) (fun t t' ht ht' h0 hl hn e => ?_))
      rcases Nat.lt_or_ge (s t - 1) j with g | g
      · exact (c2 _).mpr (Or.inl ((c1 _).mpr (Or.inl (h2 t t' ht ht' h0 g hn e))))
      · have et : t = t0 := hI.2.2.2.2.1 t t0 ht ht0 (by omega) h0
        subst et
        rcases e.2 with e' | e'
        · exact (c2 _).mpr (Or.inl (kz_got hI c1 ht' e.1 e'))
        · exact kz_got hI c2 ht' e.1 e'
theorem ky_passes {k m : Nat} {p s lk : Nat → Nat} {NB AL NM LF RT : Nat → Int32} {post : SY → Prop} (hI : kh_I k m p s lk NB AL NM LF RT) (hm : m ≤ 511) (H : ∀ SN : Nat → Int32, kh_J p s lk 6 (kz_A s SN) → kz_S m p s lk SN → post (nI m, kh_e p, AL, NM, LF, RT, SN)) : ∀ d i : Nat, i + d = 6 → ∀ SN : Nat → Int32, kh_J p s lk i (kz_A s SN) → kz_S m p s lk SN → wY_look_49 post (d + 1) (nI i) (nI m) (kh_e p) AL NM LF RT SN := by
  intro d
  induction d with
  | zero =>
    intro i hi SN hJ hS
    have e : i = 6 := by omega
    subst e
    exact br_t (nI_le (a := 6) (Nat.le_refl _) (by decide)) (H SN hJ hS)
  | succ d ih =>
    intro i hi SN hJ hS
    refine br_f (nI_ge (b := 6) (by omega) (by decide)) ⟨m + 1, ?_⟩
    refine ky_pass_loop (SN0 := SN) hI hm (fun SN' hS' h1 h2 => ih (i + 1) (by omega) SN' ?_ hS') m 0 (Nat.zero_add m) SN hS (fun _ h => h) (fun t t' _ _ _ hl => absurd hl (Nat.not_lt_zero _))
    refine kh_J_step hJ (fun t ht h => ?_) (fun t t' ht ht' h e => ?_) (kz_A_re hI hS')
    · obtain ⟨h0, hn⟩ := kz_A_iff.mp h
      exact kz_A_iff.mpr ⟨h0, h1 _ hn⟩
    · obtain ⟨h0, hn⟩ := kz_A_iff.mp h
      have l := hI.2.2.1 t
      exact kz_A_iff.mpr ⟨e.1, h2 t t' ht ht' h0 (by omega) hn e⟩
theorem ky_roots {k m : Nat} {p s lk : Nat → Nat} {NB AL NM LF RT : Nat → Int32} {post : SY → Prop} (hI : kh_I k m p s lk NB AL NM LF RT) (hm : m ≤ 511) (H : ∀ SN : Nat → Int32, kh_J p s lk 0 (kz_A s SN) → kz_S m p s lk SN → ∃ n, wY_look_49 post n 0 (nI m) (kh_e p) AL NM LF RT SN) : ∀ d j : Nat, j + d = 8 → ∀ SN : Nat → Int32, kz_S m p s lk SN → (∀ t, t < 6 → s t ≠ 0 → (∃ i, i < j ∧ p i = s t) → ¬ SN (s t - 1) = 0) → wY_look_24 post (d + 1) (nI j) (nI m) (kh_e p) AL NM LF RT SN := by
  intro d
  induction d with
  | zero =>
    intro j hj SN hS h1
    have e : j = 8 := by omega
    subst e
    refine br_t (nI_le (a := 8) (Nat.le_refl _) (by decide)) (H SN (kh_J_0 (fun t ht hr => ?_) (kz_A_re hI hS)) hS)
    exact kz_A_iff.mpr ⟨hr.1, h1 t ht hr.1 hr.2⟩
  | succ d ih =>
    intro j hj SN hS h1
    refine br_f (nI_ge (b := 8) (by omega) (by decide)) ⟨vp_in_nI (by omega) (by decide), ?_⟩
    refine ky_come hI hm (kh_at (by omega)) (hI.2.1 j) (fun r SN' c => ?_)
    refine nm_r (nI_1 j) (ih (j + 1) (by omega) SN' (kz_come hI hS c (fun t ht h0 e => kh_Re_root ht ⟨h0, j, by omega, e⟩)) (fun t ht h0 hx => ?_))
    obtain ⟨i, hi, e⟩ := hx
    rcases Nat.lt_or_ge i j with g | g
    · exact (c _).mpr (Or.inl (h1 t ht h0 ⟨i, g, e⟩))
    · have e' : i = j := by omega
      subst e'
      exact kz_got hI c ht h0 e
theorem ky_clear {m : Nat} {V AL NM LF RT : Nat → Int32} {post : SY → Prop} (H : ∀ SN : Nat → Int32, (∀ i, i < 512 → SN i = 0) → ∃ n, wY_look_24 post n 0 (nI m) V AL NM LF RT SN) : ∀ d j : Nat, j + d = 512 → ∀ SN : Nat → Int32, (∀ i, i < j → SN i = 0) → wY_look_2 post (nI m) (d + 1) (nI j) V AL NM LF RT SN := by
  intro d
  induction d with
  | zero =>
    intro j hj SN h
    have e : j = 512 := by omega
    subst e
    exact br_t (nI_le (a := 512) (Nat.le_refl _) (by decide)) (H SN h)
  | succ d ih =>
    intro j hj SN h
    refine br_f (nI_ge (b := 512) (by omega) (by decide)) ⟨vp_in_nI (by omega) (by decide), nm_r (e' := upd SN j 0) (by rw [nI_clamp (by omega), kh_b0]) (nm_r (nI_1 j) (ih (j + 1) (by omega) _ (fun i hi => ?_)))⟩
    by_cases e : i = j
    · rw [e, pk_us]
    · rw [pk_un e]
      exact h i (by omega)
theorem ky_look {k m : Nat} {p s lk : Nat → Nat} {NB AL NM LF RT SN : Nat → Int32} {post : SY → Prop} (hI : kh_I k m p s lk NB AL NM LF RT) (hm : m ≤ 511) (H : ∀ SN' : Nat → Int32, (∀ t, t < 6 → s t ≠ 0 → (¬ SN' (s t - 1) = 0 ↔ kh_Re p s lk t)) → kz_S m p s lk SN' → post (nI m, kh_e p, AL, NM, LF, RT, SN')) : wpY_look post (nI m, kh_e p, AL, NM, LF, RT, SN) := by
  unfold wpY_look
  refine ⟨513, ky_clear (fun SN1 h1 => ⟨9, ?_⟩) 512 0 rfl SN (fun i hi => absurd hi (Nat.not_lt_zero i))⟩
  refine ky_roots hI hm (fun SN2 hJ hS => ⟨7, ?_⟩) 8 0 rfl SN1 (fun i hi hn => absurd (h1 i (by omega)) hn) (fun t ht h0 hx => ?_)
  · refine ky_passes hI hm (fun SN3 hJ3 hS3 => H SN3 (fun t ht h0 => ?_) hS3) 6 0 rfl SN2 hJ hS
    have e := kh_J_end hJ3 t ht
    rw [kz_A_iff] at e
    exact ⟨fun h => e.mp ⟨h0, h⟩, fun h => (e.mpr h).2⟩
  · obtain ⟨i, hi, _⟩ := hx
    exact absurd hi (Nat.not_lt_zero i)
/-! Y: the loops of reached and sweep -/
theorem ky_rd_loop {post : Int32 → SY → Prop} {m : Nat} {V AL NM LF RT SN : Nat → Int32} (hm : m ≤ 511) (hp : post (kh_sum (fun r => if SN r = 0 then 0 else 1) m) (nI m, V, AL, NM, LF, RT, SN)) : ∀ d j : Nat, j + d = m → wY_reached_8 post (nI m) V AL NM LF RT SN (d + 1) (kh_sum (fun r => if SN r = 0 then 0 else 1) j) (nI j) := by
  intro d
  induction d with
  | zero =>
    intro j hj
    have e : j = m := by omega
    subst e
    exact br_t (nI_le (Nat.le_refl _) (by omega)) hp
  | succ d ih =>
    intro j hj
    have i' := ih (j + 1) (by omega)
    have es : kh_sum (fun r => if SN r = 0 then 0 else 1) (j + 1) = kh_sum (fun r => if SN r = 0 then 0 else 1) j + (if SN j = 0 then 0 else 1) := rfl
    rw [es] at i'
    refine br_f (nI_ge (by omega) (by omega)) ⟨vp_in_nI (by omega) (by decide), ?_⟩
    rw [nI_clamp (by omega)]
    refine br_c (fun z => nm_e (nm_r (nI_1 j) ?_)) (fun z => nm_e (nm_r (nI_1 j) ?_))
    · rw [if_pos z] at i'
      exact i'
    · rw [if_neg z] at i'
      exact i'
def ky_sw (AL SN : Nat → Int32) (n : Nat) : Nat → Int32 := fun r => if r < n ∧ SN r = 0 then 0 else AL r
theorem ky_sw_0 (AL SN : Nat → Int32) : ky_sw AL SN 0 = AL := by
  funext t
  exact if_neg (fun h => absurd h.1 (Nat.not_lt_zero t))
theorem ky_sw_at (AL SN : Nat → Int32) (n : Nat) : ky_sw AL SN n n = AL n := if_neg (fun h => absurd h.1 (Nat.lt_irrefl n))
theorem ky_sw_keep {AL SN : Nat → Int32} {n : Nat} (h : AL n = 0 ∨ ¬ SN n = 0) : ky_sw AL SN (n + 1) = ky_sw AL SN n := by
  funext t
  unfold ky_sw
  by_cases e : t = n
  · subst e
    rw [if_neg (c := t < t ∧ SN t = 0) (fun h => absurd h.1 (Nat.lt_irrefl t))]
    rcases h with h | h
    · rw [h]; split <;> rfl
    · rw [if_neg (fun c => h c.2)]
  · by_cases c : t < n ∧ SN t = 0
    · rw [if_pos c, if_pos ⟨by omega, c.2⟩]
    · rw [if_neg c, if_neg (fun c' => c ⟨by omega, c'.2⟩)]
theorem ky_sw_put {AL SN : Nat → Int32} {n : Nat} (h : SN n = 0) : upd (ky_sw AL SN n) n 0 = ky_sw AL SN (n + 1) := by
  funext t
  unfold upd ky_sw
  by_cases e : t = n
  · subst e
    rw [if_pos rfl, if_pos ⟨by omega, h⟩]
  · rw [if_neg e]
    by_cases c : t < n ∧ SN t = 0
    · rw [if_pos c, if_pos ⟨by omega, c.2⟩]
    · rw [if_neg c, if_neg (fun c' => c ⟨by omega, c'.2⟩)]
theorem ky_sw_loop {post : Int32 → SY → Prop} {m : Nat} {V AL NM LF RT SN : Nat → Int32} (hm : m ≤ 511) (hp : post (kh_sum (fun r => if AL r = 0 then 0 else if SN r = 0 then 1 else 0) m) (nI m, V, ky_sw AL SN m, NM, LF, RT, SN)) : ∀ d j : Nat, j + d = m → wY_sweep_8 post (nI m) (d + 1) (kh_sum (fun r => if AL r = 0 then 0 else if SN r = 0 then 1 else 0) j) (nI j) V (ky_sw AL SN j) NM LF RT SN := by
  intro d
  induction d with
  | zero =>
    intro j hj
    have e : j = m := by omega
    subst e
    exact br_t (nI_le (Nat.le_refl _) (by omega)) hp
  | succ d ih =>
    intro j hj
    have i' := ih (j + 1) (by omega)
    have es : kh_sum (fun r => if AL r = 0 then 0 else if SN r = 0 then 1 else 0) (j + 1) = kh_sum (fun r => if AL r = 0 then 0 else if SN r = 0 then 1 else 0) j + (if AL j = 0 then 0 else if SN j = 0 then 1 else 0) := rfl
    rw [es] at i'
    refine br_f (nI_ge (by omega) (by omega)) ⟨vp_in_nI (by omega) (by decide), ?_⟩
    rw [nI_clamp (by omega), ky_sw_at, kh_b0]
    refine br_c (fun z => nm_r (nI_1 j) ?_) (fun z => ⟨vp_in_nI (by omega) (by decide), br_c (fun y => ⟨vp_in_nI (by omega) (by decide), nm_r (ky_sw_put y) (nm_e (nm_r (nI_1 j) ?_))⟩) (fun y => nm_r (nI_1 j) ?_)⟩)
    · rw [if_pos z, Int32.add_zero, ky_sw_keep (Or.inl z)] at i'
      exact i'
    · rw [if_neg z, if_pos y] at i'
      exact i'
    · rw [if_neg z, if_neg y, Int32.add_zero, ky_sw_keep (Or.inr y)] at i'
      exact i'
end
section
/-! reached and sweep -/
theorem i_vc_reached {k : Nat} {u : SX} {v : SY} (I : i_Rel k u v) (hk : k + 4 ≤ 2048) : wpX_reached (fun r => wpY_reached (fun r' v' => r' = r ∧ i_Rel (k + 4) u v') v) u := by
  obtain ⟨m, p, s, lk, NB, AL, NM, LF, RT, SN, rfl, rfl, hI⟩ := I
  unfold wpX_reached wpY_reached
  dsimp only
  have hm := kh_bd hI hk
  refine kx_reach hI hm (fun x hx => ⟨7, kx_rd_loop ?_ 6 0 rfl⟩)
  refine ky_look hI hm (fun SN' h1 hS => ⟨m + 1, ky_rd_loop hm ⟨?_, kh_R (kh_I_up hI)⟩ m 0 (Nat.zero_add m)⟩)
  have eY : kh_sum (fun r => if SN' r = 0 then 0 else 1) m = kh_sum (fun r => if AL r = 0 then 0 else (fun r => if SN' r = 0 then (0 : Int32) else 1) r) m := by
    refine kh_sum_congr m (fun r hr => ?_)
    show (if SN' r = 0 then (0 : Int32) else 1) = (if AL r = 0 then 0 else if SN' r = 0 then 0 else 1)
    by_cases z : SN' r = 0
    · rw [if_pos z]; split <;> rfl
    · obtain ⟨t, ht, e, _⟩ := hS r hr z
      rw [if_neg z, if_neg (fun c => (hI.2.2.2.2.2.1 r hr).mp c t ht e)]
  rw [eY, ← kh_sums hI]
  refine kh_sum_congr 6 (fun t ht => ?_)
  show (if s t = 0 then (0 : Int32) else if SN' (s t - 1) = 0 then 0 else 1) = (if bt x t = true then 1 else 0)
  by_cases z : s t = 0
  · rw [if_pos z, if_neg (fun c => kh_Re_live ((hx t ht).mp c) z)]
  · rw [if_neg z]
    by_cases y : SN' (s t - 1) = 0
    · rw [if_pos y, if_neg (fun c => (h1 t ht z).mpr ((hx t ht).mp c) y)]
    · rw [if_neg y, if_pos ((hx t ht).mpr ((h1 t ht z).mp y))]
theorem kh_I_sweep {k m : Nat} {p s lk : Nat → Nat} {NB AL NM LF RT SN : Nat → Int32} {x : Int32} (hI : kh_I k m p s lk NB AL NM LF RT) (hx : ∀ t, t < 6 → (bt x t = true ↔ kh_Re p s lk t)) (h1 : ∀ t, t < 6 → s t ≠ 0 → (¬ SN (s t - 1) = 0 ↔ kh_Re p s lk t)) (hS : kz_S m p s lk SN) : kh_I k m p (kx_sw s x 6) lk NB (ky_sw AL SN m) NM LF RT := by
  refine kh_I_drop hI (fun t => ?_) (fun r hr => ?_)
  · unfold kx_sw
    split
    · exact Or.inr rfl
    · exact Or.inl rfl
  · have ha := hI.2.2.2.2.2.1 r hr
    by_cases y : SN r = 0
    · have e : ky_sw AL SN m r = 0 := if_pos ⟨hr, y⟩
      refine ⟨fun _ t ht c => ?_, fun _ => e⟩
      unfold kx_sw at c
      by_cases b : t < 6 ∧ bt x t = false
      · rw [if_pos b] at c; omega
      · rw [if_neg b] at c
        have hb : bt x t = true := by
          cases hb : bt x t with
          | true => rfl
          | false => exact absurd ⟨ht, hb⟩ b
        have := (h1 t ht (by omega)).mpr ((hx t ht).mp hb)
        rw [c, Nat.add_sub_cancel] at this
        exact this y
    · have e : ky_sw AL SN m r = AL r := if_neg (fun c => y c.2)
      obtain ⟨t0, ht0, e0, hr0⟩ := hS r hr y
      have hb := (hx t0 ht0).mpr hr0
      refine ⟨fun z => ?_, fun z => ?_⟩
      · rw [e] at z
        exact absurd e0 (ha.mp z t0 ht0)
      · have := z t0 ht0
        unfold kx_sw at this
        rw [if_neg (fun c => absurd (c.2.symm.trans hb) (by decide))] at this
        exact absurd e0 this
theorem i_vc_sweep {k : Nat} {u : SX} {v : SY} (I : i_Rel k u v) (hk : k + 4 ≤ 2048) : wpX_sweep (fun r u' => wpY_sweep (fun r' v' => r' = r ∧ i_Rel (k + 4) u' v') v) u := by
  obtain ⟨m, p, s, lk, NB, AL, NM, LF, RT, SN, rfl, rfl, hI⟩ := I
  unfold wpX_sweep wpY_sweep
  dsimp only
  have hm := kh_bd hI hk
  refine kx_reach hI hm (fun x hx => ⟨7, ?_⟩)
  have gX := fun (post : Int32 → SX → Prop) hp => kx_sw_loop (post := post) (f := nI m) (x := x) (A := kh_e p) (NB := NB) (LK := kh_e lk) (kh_sb hI hm) hp 6 0 rfl
  rw [kx_sw_0] at gX
  refine gX _ ?_
  refine ky_look hI hm (fun SN' h1 hS => ⟨m + 1, ?_⟩)
  have gY := fun (post : Int32 → SY → Prop) hp => ky_sw_loop (post := post) (V := kh_e p) (AL := AL) (NM := NM) (LF := LF) (RT := RT) (SN := SN') hm hp m 0 (Nat.zero_add m)
  rw [ky_sw_0] at gY
  refine gY _ ⟨?_, kh_R (kh_I_sweep (kh_I_up hI) hx h1 hS)⟩
  have e := kh_sums hI (fun r => if SN' r = 0 then (1 : Int32) else 0)
  refine e.symm.trans (kh_sum_congr 6 (fun t ht => ?_))
  show (if s t = 0 then (0 : Int32) else if SN' (s t - 1) = 0 then 1 else 0) = (if s t = 0 then 0 else if bt x t = true then 0 else 1)
  by_cases z : s t = 0
  · rw [if_pos z, if_pos z]
  · rw [if_neg z, if_neg z]
    by_cases y : SN' (s t - 1) = 0
    · rw [if_pos y, if_neg (fun c => (h1 t ht z).mpr ((hx t ht).mp c) y)]
    · rw [if_neg y, if_pos ((hx t ht).mpr ((h1 t ht z).mp y))]
end
