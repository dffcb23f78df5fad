/-! live, total, make -/
theorem kh_sums {k m : Nat} {p s lk : Nat → Nat} {NB AL NM LF RT : Nat → Int32} (h : kh_I k m p s lk NB AL NM LF RT) (w : Nat → Int32) : kh_sum (fun t => if s t = 0 then 0 else w (s t - 1)) 6 = kh_sum (fun r => if AL r = 0 then 0 else w r) m := by
  rw [kh_bij w s m h.2.2.1 6 h.2.2.2.2.1]
  refine kh_sum_congr m (fun r hr => ?_)
  have ha := h.2.2.2.2.2.1 r hr
  show (if kh_has s 6 r = true then w r else 0) = (if AL r = 0 then 0 else w r)
  by_cases z : AL r = 0
  · rw [if_pos z, if_neg]
    intro c
    obtain ⟨t, ht, e⟩ := (kh_has_iff s 6 r).mp c
    exact ha.mp z t ht e
  · rw [if_neg z, if_pos]
    refine (kh_has_iff s 6 r).mpr ?_
    by_cases y : ∃ t, t < 6 ∧ s t = r + 1
    · exact y
    · exact absurd (ha.mpr (fun t ht e => y ⟨t, ht, e⟩)) z
theorem kh_e0 {s : Nat → Nat} {j : Nat} (hj : j < 2 ^ 31) (hs : s j < 2 ^ 31) : kh_e s (nI j).toNatClampNeg = 0 ↔ s j = 0 := by
  rw [kh_at hj, ← nI_0, nI_eq hs (by decide)]
theorem kx_live_loop {post : Int32 → Prop} {f : Int32} {A NB LK : Nat → Int32} {s : Nat → Nat} (hs : ∀ t, s t < 2 ^ 31) (hp : post (kh_sum (fun t => if s t = 0 then 0 else 1) 6)) : ∀ d j : Nat, j + d = 6 → wX_live_4 post f A (kh_e s) NB LK (d + 1) (kh_sum (fun t => if s t = 0 then 0 else 1) j) (nI j) := by
  intro d
  induction d with
  | zero =>
    intro j hj
    have e : j = 6 := by omega
    subst e
    exact br_t (nI_le (a := 6) (Nat.le_refl _) (by decide)) hp
  | succ d ih =>
    intro j hj
    have e := kh_e0 (s := s) (show j < 2 ^ 31 by omega) (hs j)
    have i' := ih (j + 1) (by omega)
    have es : kh_sum (fun t => if s t = 0 then 0 else 1) (j + 1) = kh_sum (fun t => if s t = 0 then 0 else 1) j + (if s j = 0 then 0 else 1) := rfl
    rw [es] at i'
    refine br_f (nI_ge (b := 6) (by omega) (by decide)) ⟨vp_in_nI (by omega) (by decide), br_c (fun z => nm_r (nI_1 j) ?_) (fun z => nm_e (nm_r (nI_1 j) ?_))⟩
    · rw [if_pos (e.mp z), Int32.add_zero] at i'
      exact i'
    · rw [if_neg (fun c => z (e.mpr c))] at i'
      exact i'
theorem kx_live {post : Int32 → Prop} {f : Int32} {A NB LK : Nat → Int32} {s : Nat → Nat} (hs : ∀ t, s t < 2 ^ 31) (hp : post (kh_sum (fun t => if s t = 0 then 0 else 1) 6)) : wpX_live post (f, A, kh_e s, NB, LK) := by
  unfold wpX_live
  exact ⟨7, kx_live_loop hs hp 6 0 rfl⟩
theorem kx_total_loop {post : Int32 → Prop} {f : Int32} {A NB LK : Nat → Int32} {s : Nat → Nat} (hs : ∀ t, s t < 2 ^ 31) (hp : post (kh_sum (fun t => if s t = 0 then 0 else NB t) 6)) : ∀ d j : Nat, j + d = 6 → wX_total_4 post f A (kh_e s) NB LK (d + 1) (kh_sum (fun t => if s t = 0 then 0 else NB t) j) (nI j) := by
  intro d
  induction d with
  | zero =>
    intro j hj
    have e : j = 6 := by omega
    subst e
    exact br_t (nI_le (a := 6) (Nat.le_refl _) (by decide)) hp
  | succ d ih =>
    intro j hj
    have e := kh_e0 (s := s) (show j < 2 ^ 31 by omega) (hs j)
    have i' := ih (j + 1) (by omega)
    have es : kh_sum (fun t => if s t = 0 then 0 else NB t) (j + 1) = kh_sum (fun t => if s t = 0 then 0 else NB t) j + (if s j = 0 then 0 else NB j) := rfl
    rw [es] at i'
    refine br_f (nI_ge (b := 6) (by omega) (by decide)) ⟨vp_in_nI (by omega) (by decide), br_c (fun z => nm_r (nI_1 j) ?_) (fun z => ⟨vp_in_nI (by omega) (by decide), nm_e (nm_r (nI_1 j) ?_)⟩)⟩
    · rw [if_pos (e.mp z), Int32.add_zero] at i'
      exact i'
    · rw [if_neg (fun c => z (e.mpr c))] at i'
      rw [nI_clamp (by omega)]
      exact i'
theorem kx_total {post : Int32 → Prop} {f : Int32} {A NB LK : Nat → Int32} {s : Nat → Nat} (hs : ∀ t, s t < 2 ^ 31) (hp : post (kh_sum (fun t => if s t = 0 then 0 else NB t) 6)) : wpX_total post (f, A, kh_e s, NB, LK) := by
  unfold wpX_total
  exact ⟨7, kx_total_loop hs hp 6 0 rfl⟩
theorem ky_live_loop {post : Int32 → Prop} {m : Nat} {V AL NM LF RT SN : Nat → Int32} (hm : m ≤ 511) (hp : post (kh_sum (fun r => if AL r = 0 then 0 else 1) m)) : ∀ d j : Nat, j + d = m → wY_live_4 post (nI m) V AL NM LF RT SN (d + 1) (kh_sum (fun r => if AL r = 0 then 0 else 1) j) (nI j) := by
  intro d
  induction d with
  | zero =>
    intro j hj
    have e : j = m := by omega
    subst e
    exact br_t (nI_le (Nat.le_refl _) (by omega)) hp
  | succ d ih =>
    intro j hj
    have i' := ih (j + 1) (by omega)
    have es : kh_sum (fun r => if AL r = 0 then 0 else 1) (j + 1) = kh_sum (fun r => if AL r = 0 then 0 else 1) j + (if AL j = 0 then 0 else 1) := rfl
    rw [es] at i'
    refine br_f (nI_ge (by omega) (by omega)) ⟨vp_in_nI (by omega) (by decide), ?_⟩
    rw [nI_clamp (by omega)]
    refine br_c (fun z => nm_e (nm_r (nI_1 j) ?_)) (fun z => nm_e (nm_r (nI_1 j) ?_))
    · rw [if_pos z] at i'
      exact i'
    · rw [if_neg z] at i'
      exact i'
theorem ky_live {post : Int32 → Prop} {m : Nat} {V AL NM LF RT SN : Nat → Int32} (hm : m ≤ 511) (hp : post (kh_sum (fun r => if AL r = 0 then 0 else 1) m)) : wpY_live post (nI m, V, AL, NM, LF, RT, SN) := by
  unfold wpY_live
  exact ⟨m + 1, ky_live_loop hm hp m 0 (Nat.zero_add m)⟩
theorem ky_total_loop {post : Int32 → Prop} {m : Nat} {V AL NM LF RT SN : Nat → Int32} (hm : m ≤ 511) (hp : post (kh_sum (fun r => if AL r = 0 then 0 else NM r) m)) : ∀ d j : Nat, j + d = m → wY_total_4 post (nI m) V AL NM LF RT SN (d + 1) (kh_sum (fun r => if AL r = 0 then 0 else NM r) j) (nI j) := by
  intro d
  induction d with
  | zero =>
    intro j hj
    have e : j = m := by omega
    subst e
    exact br_t (nI_le (Nat.le_refl _) (by omega)) hp
  | succ d ih =>
    intro j hj
    have i' := ih (j + 1) (by omega)
    have es : kh_sum (fun r => if AL r = 0 then 0 else NM r) (j + 1) = kh_sum (fun r => if AL r = 0 then 0 else NM r) j + (if AL j = 0 then 0 else NM j) := rfl
    rw [es] at i'
    refine br_f (nI_ge (by omega) (by omega)) ⟨vp_in_nI (by omega) (by decide), ?_⟩
    rw [nI_clamp (by omega)]
    refine br_c (fun z => nm_e (nm_r (nI_1 j) ?_)) (fun z => ⟨vp_in_nI (by omega) (by decide), nm_e (nm_r (nI_1 j) ?_)⟩)
    · rw [if_pos z] at i'
      exact i'
    · rw [if_neg z] at i'
      exact i'
theorem ky_total {post : Int32 → Prop} {m : Nat} {V AL NM LF RT SN : Nat → Int32} (hm : m ≤ 511) (hp : post (kh_sum (fun r => if AL r = 0 then 0 else NM r) m)) : wpY_total post (nI m, V, AL, NM, LF, RT, SN) := by
  unfold wpY_total
  exact ⟨m + 1, ky_total_loop hm hp m 0 (Nat.zero_add m)⟩
theorem i_vc_live {k : Nat} {u : SX} {v : SY} (I : i_Rel k u v) (hk : k + 4 ≤ 2048) : wpX_live (fun r => wpY_live (fun r' => r' = r ∧ i_Rel (k + 4) u v) v) u := by
  have hu := i_up I
  obtain ⟨m, p, s, lk, NB, AL, NM, LF, RT, SN, rfl, rfl, hI⟩ := I
  have hm := kh_bd hI hk
  exact kx_live (kh_sb hI hm) (ky_live hm ⟨(kh_sums hI (fun _ => 1)).symm, hu⟩)
theorem i_vc_total {k : Nat} {u : SX} {v : SY} (I : i_Rel k u v) (hk : k + 4 ≤ 2048) : wpX_total (fun r => wpY_total (fun r' => r' = r ∧ i_Rel (k + 4) u v) v) u := by
  have hu := i_up I
  obtain ⟨m, p, s, lk, NB, AL, NM, LF, RT, SN, rfl, rfl, hI⟩ := I
  have hm := kh_bd hI hk
  refine kx_total (kh_sb hI hm) (ky_total hm ⟨?_, hu⟩)
  rw [← kh_sums hI NM]
  refine kh_sum_congr 6 (fun t ht => ?_)
  show (if s t = 0 then 0 else NM (s t - 1)) = (if s t = 0 then 0 else NB t)
  by_cases z : s t = 0
  · rw [if_pos z, if_pos z]
  · rw [if_neg z, if_neg z, (hI.2.2.2.2.2.2 t ht z).1]
theorem kh_lv (s : Nat → Nat) : kh_sum (fun t => if s t = 0 then 0 else 1) 6 = nI (kh_cnt (fun t => !decide (s t = 0)) 6) := by
  rw [← kh_sum_cnt]
  refine kh_sum_congr 6 (fun t _ => ?_)
  show (if s t = 0 then (0 : Int32) else 1) = (if (!decide (s t = 0)) = true then 1 else 0)
  by_cases z : s t = 0
  · rw [if_pos z, if_neg (by simp [z])]
  · rw [if_neg z, if_pos (by simp [z])]
theorem i_vc_make {k : Nat} {u : SX} {v : SY} (I : i_Rel k u v) (hk : k + 4 ≤ 2048) (v1 : Int32) (v2 : Int32) : wpX_make (fun r u' => wpY_make (fun r' v' => r' = r ∧ i_Rel (k + 4) u' v') v v1 v2) u v1 v2 := by
  obtain ⟨m, p, s, lk, NB, AL, NM, LF, RT, SN, rfl, rfl, hI⟩ := I
  unfold wpX_make wpY_make
  dsimp only
  have hm := kh_bd hI hk
  rcases kh_ix v1 (n := 8) (by decide) with h | ⟨j, hj, rfl⟩
  · exact kx_varN h (br_t rfl (ky_varN h (br_t rfl ⟨rfl, kh_R (kh_I_up hI)⟩)))
  have lv : kh_sum (fun r => if AL r = 0 then 0 else 1) m = nI (kh_cnt (fun t => !decide (s t = 0)) 6) := (kh_sums hI (fun _ => 1)).symm.trans (kh_lv s)
  have le := kh_cnt_le (fun t => !decide (s t = 0)) 6
  refine kx_varY hj (br_f kh_10 (kx_free (kh_sb hI hm) (fun t ht h0 => ?_) (fun hall => ?_)))
  · have lt : kh_cnt (fun t => !decide (s t = 0)) 6 < 6 := by
      rcases Nat.lt_or_ge (kh_cnt (fun t => !decide (s t = 0)) 6) 6 with g | g
      · exact g
      · have := kh_cnt_all (fun t => !decide (s t = 0)) 6 g t ht
        simp [h0] at this
    refine br_f (kh_ne ht) (nm_r (nI_1 m) ⟨vp_in_nI ht (by decide), nm_r (kh_u (by omega) rfl) ⟨vp_in_nI ht (by decide), nm_r (e' := upd NB t v2) (by rw [nI_clamp (by omega)]) (kx_pl (b := 0) nI_0.symm ⟨vp_in_nI (by omega) (by decide), nm_r (kh_u (by omega) nI_0.symm) (kx_pl (b := 1) rfl ⟨vp_in_nI (by omega) (by decide), nm_r (kh_u (by omega) nI_0.symm) ⟨vp_in_nI hj (by decide), nm_r (kh_u (by omega) rfl) ?_⟩⟩)⟩)⟩⟩)
    refine ky_varY hj (br_f kh_10 (ky_live hm ?_))
    rw [lv]
    refine br_f (nI_ge (b := 6) lt (by decide)) (br_t (nI_lt (b := 512) (by omega) (by decide)) ?_)
    refine ⟨vp_in_nI (by omega) (by decide), nm_r (e' := upd AL m 1) (by rw [nI_clamp (by omega), kh_b1]) ⟨vp_in_nI (by omega) (by decide), nm_r (e' := upd NM m v2) (by rw [nI_clamp (by omega)]) ⟨vp_in_nI (by omega) (by decide), nm_r (e' := upd LF m 0) (by rw [nI_clamp (by omega)]) ⟨vp_in_nI (by omega) (by decide), nm_r (e' := upd RT m 0) (by rw [nI_clamp (by omega)]) (nm_r (nI_1 m) ⟨vp_in_nI hj (by decide), nm_r (kh_u (by omega) rfl) ⟨rfl, ?_⟩⟩)⟩⟩⟩⟩
    exact kh_R (kh_I_make hI ht h0)
  · refine br_t rfl (ky_varY hj (br_f kh_10 (ky_live hm ?_)))
    have full : kh_cnt (fun t => !decide (s t = 0)) 6 = 6 := kh_cnt_full _ 6 (fun t ht => by simp [hall t ht])
    rw [lv, full]
    exact br_t (nI_le (a := 6) (Nat.le_refl _) (by decide)) ⟨rfl, kh_R (kh_I_up hI)⟩
