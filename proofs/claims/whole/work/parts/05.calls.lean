/-! the calls without a loop over records -/
theorem kh_b2 {b : Nat} {A B : Prop} (hb : b < 2) (h : A) : (nI b = 0 → A) ∧ (¬ nI b = 0 → ((nI b = 1 → A) ∧ (¬ nI b = 1 → B))) := by
  refine ⟨fun _ => h, fun z => ⟨fun _ => h, fun z' => ?_⟩⟩
  rcases (by omega : b = 0 ∨ b = 1) with e | e
  · subst e; exact absurd nI_0 z
  · subst e; exact absurd rfl z'
theorem i_vc_setNil {k : Nat} {u : SX} {v : SY} (I : i_Rel k u v) (hk : k + 4 ≤ 2048) (v1 : Int32) : wpX_setNil (fun r u' => wpY_setNil (fun r' v' => r' = r ∧ i_Rel (k + 4) u' v') v v1) u v1 := by
  obtain ⟨m, p, s, lk, NB, AL, NM, LF, RT, SN, rfl, rfl, hI⟩ := I
  unfold wpX_setNil wpY_setNil
  dsimp only
  rcases kh_ix v1 (n := 8) (by decide) with h | ⟨j, hj, rfl⟩
  · exact kx_varN h (br_t rfl (ky_varN h (br_t rfl ⟨rfl, kh_R (kh_I_up hI)⟩)))
  · refine kx_varY hj (br_f kh_10 ⟨vp_in_nI hj (by decide), nm_r (kh_u (by omega) nI_0.symm) ?_⟩)
    refine ky_varY hj (br_f kh_10 ⟨vp_in_nI hj (by decide), nm_r (kh_u (by omega) nI_0.symm) ⟨rfl, ?_⟩⟩)
    exact kh_R (kh_I_p (kh_I_up hI) (Nat.zero_le m))
theorem i_vc_copy {k : Nat} {u : SX} {v : SY} (I : i_Rel k u v) (hk : k + 4 ≤ 2048) (v1 : Int32) (v2 : Int32) : wpX_copy (fun r u' => wpY_copy (fun r' v' => r' = r ∧ i_Rel (k + 4) u' v') v v1 v2) u v1 v2 := by
  obtain ⟨m, p, s, lk, NB, AL, NM, LF, RT, SN, rfl, rfl, hI⟩ := I
  unfold wpX_copy wpY_copy
  dsimp only
  rcases kh_ix v1 (n := 8) (by decide) with h | ⟨j, hj, rfl⟩
  · exact kx_varN h (br_t rfl (ky_varN h (br_t rfl ⟨rfl, kh_R (kh_I_up hI)⟩)))
  · refine kx_varY hj (br_f kh_10 ?_)
    rcases kh_ix v2 (n := 8) (by decide) with h | ⟨w, hw, rfl⟩
    · exact kx_varN h (br_t rfl (ky_varY hj (br_f kh_10 (ky_varN h (br_t rfl ⟨rfl, kh_R (kh_I_up hI)⟩)))))
    · refine kx_varY hw (br_f kh_10 ⟨vp_in_nI hw (by decide), vp_in_nI hj (by decide), nm_r (kh_u (by omega) (kh_at (by omega))) ?_⟩)
      refine ky_varY hj (br_f kh_10 (ky_varY hw (br_f kh_10 ⟨vp_in_nI hw (by decide), vp_in_nI hj (by decide), nm_r (kh_u (by omega) (kh_at (by omega))) ⟨rfl, ?_⟩⟩)))
      exact kh_R (kh_I_p (kh_I_up hI) (hI.2.1 w))
theorem i_vc_dispose {k : Nat} {u : SX} {v : SY} (I : i_Rel k u v) (hk : k + 4 ≤ 2048) (v1 : Int32) : wpX_dispose (fun r u' => wpY_dispose (fun r' v' => r' = r ∧ i_Rel (k + 4) u' v') v v1) u v1 := by
  obtain ⟨m, p, s, lk, NB, AL, NM, LF, RT, SN, rfl, rfl, hI⟩ := I
  unfold wpX_dispose wpY_dispose
  dsimp only
  have hm := kh_bd hI hk
  rcases kh_ix v1 (n := 8) (by decide) with h | ⟨j, hj, rfl⟩
  · exact kx_varN h (br_t rfl (ky_varN h (br_t rfl ⟨rfl, kh_R (kh_I_up hI)⟩)))
  · have hpj := hI.2.1 j
    refine kx_varY hj (br_f kh_10 ⟨vp_in_nI hj (by decide), ?_⟩)
    rcases kh_case hI hpj with h0 | ⟨h0, hd, ha⟩ | ⟨t, ht, he, h0, ha, un⟩
    · refine kx_slotN (kh_at (by omega)) (by omega) (kh_sb hI hm) (Or.inl h0) (br_t rfl ⟨vp_in_nI hj (by decide), kx_f0 (by rw [kh_at (by omega), h0]) ?_⟩)
      exact ky_varY hj (br_f kh_10 (ky_thr0 hj h0 (br_f (by decide) ⟨rfl, kh_R (kh_I_up hI)⟩)))
    · refine kx_slotN (kh_at (by omega)) (by omega) (kh_sb hI hm) (Or.inr hd) (br_t rfl ⟨vp_in_nI hj (by decide), kx_f1 (kh_at (by omega)) h0 (by omega) ?_⟩)
      exact ky_varY hj (br_f kh_10 (ky_thr2 hj (by omega) h0 ha (br_f (by decide) ⟨rfl, kh_R (kh_I_up hI)⟩)))
    · refine kx_slotY (kh_at (by omega)) (by omega) (kh_sb hI hm) h0 ht he un (br_f (kh_ne ht) ⟨vp_in_nI ht (by decide), nm_r (kh_u (by omega) nI_0.symm) ?_⟩)
      refine ky_varY hj (br_f kh_10 (ky_thr1 hj (by omega) h0 ha (br_t rfl ⟨vp_in_nI hj (by decide), ky_in hj h0 (by omega), nm_r (e' := upd AL (s t - 1) 0) (by rw [ky_cl hj h0 (by omega), kh_b0, he]) ⟨rfl, ?_⟩⟩)))
      exact kh_R (kh_I_disp (kh_I_up hI) ht (by omega))
theorem i_vc_setNumber {k : Nat} {u : SX} {v : SY} (I : i_Rel k u v) (hk : k + 4 ≤ 2048) (v1 : Int32) (v2 : Int32) : wpX_setNumber (fun r u' => wpY_setNumber (fun r' v' => r' = r ∧ i_Rel (k + 4) u' v') v v1 v2) u v1 v2 := by
  obtain ⟨m, p, s, lk, NB, AL, NM, LF, RT, SN, rfl, rfl, hI⟩ := I
  unfold wpX_setNumber wpY_setNumber
  dsimp only
  have hm := kh_bd hI hk
  rcases kh_ix v1 (n := 8) (by decide) with h | ⟨j, hj, rfl⟩
  · exact kx_varN h (br_t rfl (ky_varN h (br_t rfl ⟨rfl, kh_R (kh_I_up hI)⟩)))
  · have hpj := hI.2.1 j
    refine kx_varY hj (br_f kh_10 ⟨vp_in_nI hj (by decide), ?_⟩)
    rcases kh_case hI hpj with h0 | ⟨h0, hd, ha⟩ | ⟨t, ht, he, h0, ha, un⟩
    · refine kx_slotN (kh_at (by omega)) (by omega) (kh_sb hI hm) (Or.inl h0) (br_t rfl ⟨vp_in_nI hj (by decide), kx_f0 (by rw [kh_at (by omega), h0]) ?_⟩)
      exact ky_varY hj (br_f kh_10 (ky_thr0 hj h0 (br_f (by decide) ⟨rfl, kh_R (kh_I_up hI)⟩)))
    · refine kx_slotN (kh_at (by omega)) (by omega) (kh_sb hI hm) (Or.inr hd) (br_t rfl ⟨vp_in_nI hj (by decide), kx_f1 (kh_at (by omega)) h0 (by omega) ?_⟩)
      exact ky_varY hj (br_f kh_10 (ky_thr2 hj (by omega) h0 ha (br_f (by decide) ⟨rfl, kh_R (kh_I_up hI)⟩)))
    · refine kx_slotY (kh_at (by omega)) (by omega) (kh_sb hI hm) h0 ht he un (br_f (kh_ne ht) ⟨vp_in_nI ht (by decide), nm_r (e' := upd NB t v2) (by rw [nI_clamp (by omega)]) ?_⟩)
      refine ky_varY hj (br_f kh_10 (ky_thr1 hj (by omega) h0 ha (br_t rfl ⟨vp_in_nI hj (by decide), ky_in hj h0 (by omega), nm_r (e' := upd NM (s t - 1) v2) (by rw [ky_cl hj h0 (by omega), he]) ⟨rfl, ?_⟩⟩)))
      exact kh_R (kh_I_num (kh_I_up hI) ht (by omega))
theorem i_vc_setLink {k : Nat} {u : SX} {v : SY} (I : i_Rel k u v) (hk : k + 4 ≤ 2048) (v1 : Int32) (v2 : Int32) (v3 : Int32) : wpX_setLink (fun r u' => wpY_setLink (fun r' v' => r' = r ∧ i_Rel (k + 4) u' v') v v1 v2 v3) u v1 v2 v3 := by
  obtain ⟨m, p, s, lk, NB, AL, NM, LF, RT, SN, rfl, rfl, hI⟩ := I
  unfold wpX_setLink wpY_setLink
  dsimp only
  have hm := kh_bd hI hk
  rcases kh_ix v1 (n := 8) (by decide) with h | ⟨j, hj, rfl⟩
  · exact kx_varN h (br_t rfl (ky_varN h (br_t rfl ⟨rfl, kh_R (kh_I_up hI)⟩)))
  refine kx_varY hj (br_f kh_10 ?_)
  rcases kh_ix v3 (n := 8) (by decide) with h | ⟨w, hw, rfl⟩
  · exact kx_varN h (br_t rfl (ky_varY hj (br_f kh_10 (ky_varN h (br_t rfl ⟨rfl, kh_R (kh_I_up hI)⟩)))))
  refine kx_varY hw (br_f kh_10 ?_)
  rcases kh_ix v2 (n := 2) (by decide) with h | ⟨b, hb, rfl⟩
  · exact kx_lkN h (br_t rfl (ky_varY hj (br_f kh_10 (ky_varY hw (br_f kh_10 (br_f (kh_k0 h) (br_f (kh_k1 h) ⟨rfl, kh_R (kh_I_up hI)⟩)))))))
  have hpj := hI.2.1 j
  have hpw := hI.2.1 w
  refine kx_lkY hb (br_f kh_10 ⟨vp_in_nI hj (by decide), ?_⟩)
  rcases kh_case hI hpj with h0 | ⟨h0, hd, ha⟩ | ⟨t, ht, he, h0, ha, un⟩
  · refine kx_slotN (kh_at (by omega)) (by omega) (kh_sb hI hm) (Or.inl h0) (br_t rfl ⟨vp_in_nI hj (by decide), kx_f0 (by rw [kh_at (by omega), h0]) ?_⟩)
    refine ky_varY hj (br_f kh_10 (ky_varY hw (br_f kh_10 (kh_b2 hb ?_))))
    unfold wY_setLink_27 wY_setLink_65
    exact ky_thr0 hj h0 (br_f (by decide) (br_f (by decide) ⟨rfl, kh_R (kh_I_up hI)⟩))
  · refine kx_slotN (kh_at (by omega)) (by omega) (kh_sb hI hm) (Or.inr hd) (br_t rfl ⟨vp_in_nI hj (by decide), kx_f1 (kh_at (by omega)) h0 (by omega) ?_⟩)
    refine ky_varY hj (br_f kh_10 (ky_varY hw (br_f kh_10 (kh_b2 hb ?_))))
    unfold wY_setLink_27 wY_setLink_65
    exact ky_thr2 hj (by omega) h0 ha (br_f (by decide) (br_f (by decide) ⟨rfl, kh_R (kh_I_up hI)⟩))
  · refine kx_slotY (kh_at (by omega)) (by omega) (kh_sb hI hm) h0 ht he un (br_f (kh_ne ht) (kx_pl rfl ⟨vp_in_nI hw (by decide), vp_in_nI (by omega) (by decide), nm_r (kh_u (by omega) (kh_at (by omega))) ?_⟩))
    refine ky_varY hj (br_f kh_10 (ky_varY hw (br_f kh_10 (kh_b2 hb ?_))))
    unfold wY_setLink_27 wY_setLink_65
    refine ky_thr1 hj (by omega) h0 ha (br_t rfl ?_)
    rcases (by omega : b = 0 ∨ b = 1) with e | e
    · subst e
      refine br_t nI_0 ⟨vp_in_nI hj (by decide), vp_in_nI hw (by decide), ky_in hj h0 (by omega), nm_r (e' := upd LF (s t - 1) (nI (p w))) (by rw [ky_cl hj h0 (by omega), he, kh_at (by omega)]) ⟨rfl, ?_⟩⟩
      exact kh_R (kh_I_lk0 (kh_I_up hI) ht (by omega) hpw)
    · subst e
      refine br_f (by decide) (br_t rfl ⟨vp_in_nI hj (by decide), vp_in_nI hw (by decide), ky_in hj h0 (by omega), nm_r (e' := upd RT (s t - 1) (nI (p w))) (by rw [ky_cl hj h0 (by omega), he, kh_at (by omega)]) ⟨rfl, ?_⟩⟩)
      exact kh_R (kh_I_lk1 (kh_I_up hI) ht (by omega) hpw)
theorem i_vc_follow {k : Nat} {u : SX} {v : SY} (I : i_Rel k u v) (hk : k + 4 ≤ 2048) (v1 : Int32) (v2 : Int32) (v3 : Int32) : wpX_follow (fun r u' => wpY_follow (fun r' v' => r' = r ∧ i_Rel (k + 4) u' v') v v1 v2 v3) u v1 v2 v3 := by
  obtain ⟨m, p, s, lk, NB, AL, NM, LF, RT, SN, rfl, rfl, hI⟩ := I
  unfold wpX_follow wpY_follow
  dsimp only
  have hm := kh_bd hI hk
  rcases kh_ix v1 (n := 8) (by decide) with h | ⟨w, hw, rfl⟩
  · exact kx_varN h (br_t rfl (ky_varN h (br_t rfl ⟨rfl, kh_R (kh_I_up hI)⟩)))
  refine kx_varY hw (br_f kh_10 ?_)
  rcases kh_ix v2 (n := 8) (by decide) with h | ⟨j, hj, rfl⟩
  · exact kx_varN h (br_t rfl (ky_varY hw (br_f kh_10 (ky_varN h (br_t rfl ⟨rfl, kh_R (kh_I_up hI)⟩)))))
  refine kx_varY hj (br_f kh_10 ?_)
  rcases kh_ix v3 (n := 2) (by decide) with h | ⟨b, hb, rfl⟩
  · exact kx_lkN h (br_t rfl (ky_varY hw (br_f kh_10 (ky_varY hj (br_f kh_10 (br_f (kh_k0 h) (br_f (kh_k1 h) ⟨rfl, kh_R (kh_I_up hI)⟩)))))))
  have hpj := hI.2.1 j
  refine kx_lkY hb (br_f kh_10 ⟨vp_in_nI hj (by decide), ?_⟩)
  rcases kh_case hI hpj with h0 | ⟨h0, hd, ha⟩ | ⟨t, ht, he, h0, ha, un⟩
  · refine kx_slotN (kh_at (by omega)) (by omega) (kh_sb hI hm) (Or.inl h0) (br_t rfl ⟨vp_in_nI hj (by decide), kx_f0 (by rw [kh_at (by omega), h0]) ?_⟩)
    refine ky_varY hw (br_f kh_10 (ky_varY hj (br_f kh_10 (kh_b2 hb ?_))))
    unfold wY_follow_27
    exact ky_thr0 hj h0 (br_f (by decide) ⟨rfl, kh_R (kh_I_up hI)⟩)
  · refine kx_slotN (kh_at (by omega)) (by omega) (kh_sb hI hm) (Or.inr hd) (br_t rfl ⟨vp_in_nI hj (by decide), kx_f1 (kh_at (by omega)) h0 (by omega) ?_⟩)
    refine ky_varY hw (br_f kh_10 (ky_varY hj (br_f kh_10 (kh_b2 hb ?_))))
    unfold wY_follow_27
    exact ky_thr2 hj (by omega) h0 ha (br_f (by decide) ⟨rfl, kh_R (kh_I_up hI)⟩)
  · refine kx_slotY (kh_at (by omega)) (by omega) (kh_sb hI hm) h0 ht he un (br_f (kh_ne ht) (kx_pl rfl ⟨vp_in_nI (by omega) (by decide), vp_in_nI hw (by decide), nm_r (kh_u (by omega) (kh_at (by omega))) ?_⟩))
    refine ky_varY hw (br_f kh_10 (ky_varY hj (br_f kh_10 (kh_b2 hb ?_))))
    unfold wY_follow_27
    refine ky_thr1 hj (by omega) h0 ha (br_t rfl ?_)
    have hn := hI.2.2.2.2.2.2 t ht (by omega)
    rcases (by omega : b = 0 ∨ b = 1) with e | e
    · subst e
      refine br_t nI_0 ⟨vp_in_nI hj (by decide), ky_in hj h0 (by omega), vp_in_nI hw (by decide), nm_r (kh_u (q := lk (2 * t + 0)) (by omega) (by rw [ky_cl hj h0 (by omega), ← he]; exact hn.2.1)) ⟨rfl, ?_⟩⟩
      exact kh_R (kh_I_p (kh_I_up hI) (hI.2.2.2.1 _))
    · subst e
      refine br_f (by decide) ⟨vp_in_nI hj (by decide), ky_in hj h0 (by omega), vp_in_nI hw (by decide), nm_r (kh_u (q := lk (2 * t + 1)) (by omega) (by rw [ky_cl hj h0 (by omega), ← he]; exact hn.2.2)) ⟨rfl, ?_⟩⟩
      exact kh_R (kh_I_p (kh_I_up hI) (hI.2.2.2.1 _))
