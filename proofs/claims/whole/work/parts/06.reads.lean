/-! the calls that read -/
theorem i_vc_holds {k : Nat} {u : SX} {v : SY} (I : i_Rel k u v) (hk : k + 4 ≤ 2048) (v1 : Int32) : wpX_holds (fun r => wpY_holds (fun r' => r' = r ∧ i_Rel (k + 4) u v) v v1) u v1 := by
  have hu := i_up I
  obtain ⟨m, p, s, lk, NB, AL, NM, LF, RT, SN, rfl, rfl, hI⟩ := I
  unfold wpX_holds wpY_holds
  dsimp only
  have hm := kh_bd hI hk
  rcases kh_ix v1 (n := 8) (by decide) with h | ⟨j, hj, rfl⟩
  · exact kx_varN h (br_t rfl (ky_varN h (br_t rfl ⟨rfl, hu⟩)))
  · have hpj := hI.2.1 j
    refine kx_varY hj (br_f kh_10 ⟨vp_in_nI hj (by decide), ?_⟩)
    rcases kh_case hI hpj with h0 | ⟨h0, hd, ha⟩ | ⟨t, ht, he, h0, ha, un⟩
    · exact kx_kind0 (by rw [kh_at (by omega), h0]) (ky_varY hj (br_f kh_10 ⟨vp_in_nI hj (by decide), ky_kind0 (by rw [kh_at (by omega), h0]) ⟨rfl, hu⟩⟩))
    · exact kx_kind2 (kh_at (by omega)) (by omega) (kh_sb hI hm) h0 hd (ky_varY hj (br_f kh_10 ⟨vp_in_nI hj (by decide), ky_kind2 (kh_at (by omega)) (by omega) h0 ha ⟨rfl, hu⟩⟩))
    · exact kx_kind1 (kh_at (by omega)) (by omega) (kh_sb hI hm) h0 ht he un (ky_varY hj (br_f kh_10 ⟨vp_in_nI hj (by decide), ky_kind1 (kh_at (by omega)) (by omega) h0 ha ⟨rfl, hu⟩⟩))
theorem ky_holdsN {post : Int32 → Prop} {u : SY} {v : Int32} (h : v < 0 ∨ nI 8 ≤ v) (hp : post (-1)) : wpY_holds post u v := by
  obtain ⟨f, a1, a2, a3, a4, a5, a6⟩ := u
  unfold wpY_holds
  exact ky_varN h (br_t rfl hp)
theorem ky_holds0 {post : Int32 → Prop} {j : Nat} {f : Int32} {p : Nat → Nat} {AL NM LF RT SN : Nat → Int32} (hj : j < 8) (h0 : p j = 0) (hp : post 0) : wpY_holds post (f, kh_e p, AL, NM, LF, RT, SN) (nI j) := by
  unfold wpY_holds
  exact ky_varY hj (br_f kh_10 ⟨vp_in_nI hj (by decide), ky_kind0 (by rw [kh_at (by omega), h0]) hp⟩)
theorem ky_holds2 {post : Int32 → Prop} {j : Nat} {f : Int32} {p : Nat → Nat} {AL NM LF RT SN : Nat → Int32} (hj : j < 8) (hq : p j ≤ 512) (h0 : p j ≠ 0) (ha : AL (p j - 1) = 0) (hp : post 2) : wpY_holds post (f, kh_e p, AL, NM, LF, RT, SN) (nI j) := by
  unfold wpY_holds
  exact ky_varY hj (br_f kh_10 ⟨vp_in_nI hj (by decide), ky_kind2 (kh_at (by omega)) hq h0 ha hp⟩)
theorem ky_holds1 {post : Int32 → Prop} {j : Nat} {f : Int32} {p : Nat → Nat} {AL NM LF RT SN : Nat → Int32} (hj : j < 8) (hq : p j ≤ 512) (h0 : p j ≠ 0) (ha : ¬ AL (p j - 1) = 0) (hp : post 1) : wpY_holds post (f, kh_e p, AL, NM, LF, RT, SN) (nI j) := by
  unfold wpY_holds
  exact ky_varY hj (br_f kh_10 ⟨vp_in_nI hj (by decide), ky_kind1 (kh_at (by omega)) hq h0 ha hp⟩)
theorem i_vc_number {k : Nat} {u : SX} {v : SY} (I : i_Rel k u v) (hk : k + 4 ≤ 2048) (v1 : Int32) : wpX_number (fun r => wpY_number (fun r' => r' = r ∧ i_Rel (k + 4) u v) v v1) u v1 := by
  have hu := i_up I
  obtain ⟨m, p, s, lk, NB, AL, NM, LF, RT, SN, rfl, rfl, hI⟩ := I
  unfold wpX_number wpY_number
  dsimp only
  have hm := kh_bd hI hk
  rcases kh_ix v1 (n := 8) (by decide) with h | ⟨j, hj, rfl⟩
  · exact kx_varN h (br_t rfl (ky_holdsN h (br_f (by decide) ⟨rfl, hu⟩)))
  · have hpj := hI.2.1 j
    refine kx_varY hj (br_f kh_10 ⟨vp_in_nI hj (by decide), ?_⟩)
    rcases kh_case hI hpj with h0 | ⟨h0, hd, ha⟩ | ⟨t, ht, he, h0, ha, un⟩
    · exact kx_slotN (kh_at (by omega)) (by omega) (kh_sb hI hm) (Or.inl h0) (br_t rfl (ky_holds0 hj h0 (br_f (by decide) ⟨rfl, hu⟩)))
    · exact kx_slotN (kh_at (by omega)) (by omega) (kh_sb hI hm) (Or.inr hd) (br_t rfl (ky_holds2 hj (by omega) h0 ha (br_f (by decide) ⟨rfl, hu⟩)))
    · have hn := hI.2.2.2.2.2.2 t ht (by omega)
      refine kx_slotY (kh_at (by omega)) (by omega) (kh_sb hI hm) h0 ht he un (br_f (kh_ne ht) ⟨vp_in_nI ht (by decide), ?_⟩)
      refine ky_holds1 hj (by omega) h0 ha (br_t rfl ⟨vp_in_nI hj (by decide), ky_in hj h0 (by omega), ?_, hu⟩)
      rw [ky_cl hj h0 (by omega), nI_clamp (by omega), hn.1, he]
theorem i_vc_linkHolds {k : Nat} {u : SX} {v : SY} (I : i_Rel k u v) (hk : k + 4 ≤ 2048) (v1 : Int32) (v2 : Int32) : wpX_linkHolds (fun r => wpY_linkHolds (fun r' => r' = r ∧ i_Rel (k + 4) u v) v v1 v2) u v1 v2 := by
  have hu := i_up I
  obtain ⟨m, p, s, lk, NB, AL, NM, LF, RT, SN, rfl, rfl, hI⟩ := I
  unfold wpX_linkHolds wpY_linkHolds
  dsimp only
  have hm := kh_bd hI hk
  rcases kh_ix v1 (n := 8) (by decide) with h | ⟨j, hj, rfl⟩
  · refine kx_varN h (br_t rfl ?_)
    have hY : wY_linkHolds_9 (fun r' => r' = -1 ∧ i_Rel (k + 4) (nI m, kh_e p, kh_e s, NB, kh_e lk) (nI m, kh_e p, AL, NM, LF, RT, SN)) v1 v2 (nI m) (kh_e p) AL NM LF RT SN := by
      unfold wY_linkHolds_9
      exact ky_holdsN h (br_f (by decide) ⟨rfl, hu⟩)
    exact br_c (fun _ => hY) (fun _ => br_c (fun _ => hY) (fun _ => ⟨rfl, hu⟩))
  refine kx_varY hj (br_f kh_10 ?_)
  rcases kh_ix v2 (n := 2) (by decide) with h | ⟨b, hb, rfl⟩
  · exact kx_lkN h (br_t rfl (br_f (kh_k0 h) (br_f (kh_k1 h) ⟨rfl, hu⟩)))
  have hpj := hI.2.1 j
  refine kx_lkY hb (br_f kh_10 ⟨vp_in_nI hj (by decide), ?_⟩)
  rcases kh_case hI hpj with h0 | ⟨h0, hd, ha⟩ | ⟨t, ht, he, h0, ha, un⟩
  · refine kx_slotN (kh_at (by omega)) (by omega) (kh_sb hI hm) (Or.inl h0) (br_t rfl (kh_b2 hb ?_))
    unfold wY_linkHolds_9
    exact ky_holds0 hj h0 (br_f (by decide) ⟨rfl, hu⟩)
  · refine kx_slotN (kh_at (by omega)) (by omega) (kh_sb hI hm) (Or.inr hd) (br_t rfl (kh_b2 hb ?_))
    unfold wY_linkHolds_9
    exact ky_holds2 hj (by omega) h0 ha (br_f (by decide) ⟨rfl, hu⟩)
  · have hn := hI.2.2.2.2.2.2 t ht (by omega)
    have hl := hI.2.2.2.1 (2 * t + b)
    refine kx_slotY (kh_at (by omega)) (by omega) (kh_sb hI hm) h0 ht he un (br_f (kh_ne ht) (kx_pl rfl ⟨vp_in_nI (by omega) (by decide), ?_⟩))
    have fin : ∀ r : Int32, (∀ (post : Int32 → Prop) (x : Int32), x = nI (lk (2 * t + b)) → post r → wpY_kind post (nI m, kh_e p, AL, NM, LF, RT, SN) x) → ((nI b = 0 → wY_linkHolds_9 (fun r' => r' = r ∧ i_Rel (k + 4) (nI m, kh_e p, kh_e s, NB, kh_e lk) (nI m, kh_e p, AL, NM, LF, RT, SN)) (nI j) (nI b) (nI m) (kh_e p) AL NM LF RT SN) ∧ (¬ nI b = 0 → ((nI b = 1 → wY_linkHolds_9 (fun r' => r' = r ∧ i_Rel (k + 4) (nI m, kh_e p, kh_e s, NB, kh_e lk) (nI m, kh_e p, AL, NM, LF, RT, SN)) (nI j) (nI b) (nI m) (kh_e p) AL NM LF RT SN) ∧ (¬ nI b = 1 → (-1 = r ∧ i_Rel (k + 4) (nI m, kh_e p, kh_e s, NB, kh_e lk) (nI m, kh_e p, AL, NM, LF, RT, SN)))))) := by
      intro r hr
      refine kh_b2 hb ?_
      unfold wY_linkHolds_9 wY_linkHolds_53
      refine ky_holds1 hj (by omega) h0 ha (br_t rfl ?_)
      rcases (by omega : b = 0 ∨ b = 1) with e | e
      · subst e
        exact br_t nI_0 ⟨vp_in_nI hj (by decide), ky_in hj h0 (by omega), hr _ _ (by rw [ky_cl hj h0 (by omega), ← he]; exact hn.2.1) ⟨rfl, hu⟩⟩
      · subst e
        exact br_f (by decide) ⟨vp_in_nI hj (by decide), ky_in hj h0 (by omega), hr _ _ (by rw [ky_cl hj h0 (by omega), ← he]; exact hn.2.2) ⟨rfl, hu⟩⟩
    rcases kh_case hI hl with g0 | ⟨g0, gd, ga⟩ | ⟨t', gt, ge, g0, ga, gun⟩
    · exact kx_kind0 (by rw [kh_at (by omega), g0]) (fin 0 (fun post x hx hp => ky_kind0 (by rw [hx, g0]) hp))
    · exact kx_kind2 (kh_at (by omega)) (by omega) (kh_sb hI hm) g0 gd (fin 2 (fun post x hx hp => ky_kind2 hx (by omega) g0 ga hp))
    · exact kx_kind1 (kh_at (by omega)) (by omega) (kh_sb hI hm) g0 gt ge gun (fin 1 (fun post x hx hp => ky_kind1 hx (by omega) g0 ga hp))
theorem i_vc_same {k : Nat} {u : SX} {v : SY} (I : i_Rel k u v) (hk : k + 4 ≤ 2048) (v1 : Int32) (v2 : Int32) : wpX_same (fun r => wpY_same (fun r' => r' = r ∧ i_Rel (k + 4) u v) v v1 v2) u v1 v2 := by
  have hu := i_up I
  obtain ⟨m, p, s, lk, NB, AL, NM, LF, RT, SN, rfl, rfl, hI⟩ := I
  unfold wpX_same wpY_same
  dsimp only
  have hm := kh_bd hI hk
  rcases kh_ix v1 (n := 8) (by decide) with h | ⟨j, hj, rfl⟩
  · exact kx_varN h (br_t rfl (ky_varN h (br_t rfl ⟨rfl, hu⟩)))
  refine kx_varY hj (br_f kh_10 ?_)
  rcases kh_ix v2 (n := 8) (by decide) with h | ⟨w, hw, rfl⟩
  · exact kx_varN h (br_t rfl (ky_varY hj (br_f kh_10 (ky_varN h (br_t rfl ⟨rfl, hu⟩)))))
  refine kx_varY hw (br_f kh_10 ⟨vp_in_nI hj (by decide), vp_in_nI hw (by decide), ?_⟩)
  by_cases z : kh_e p (nI j).toNatClampNeg = kh_e p (nI w).toNatClampNeg
  · refine br_t z ⟨vp_in_nI hj (by decide), ?_⟩
    have hpj := hI.2.1 j
    rcases kh_case hI hpj with h0 | ⟨h0, hd, ha⟩ | ⟨t, ht, he, h0, ha, un⟩
    · refine kx_kind0 (by rw [kh_at (by omega), h0]) (br_f (by decide) ?_)
      exact ky_varY hj (br_f kh_10 (ky_varY hw (br_f kh_10 ⟨vp_in_nI hj (by decide), vp_in_nI hw (by decide), br_t z ⟨vp_in_nI hj (by decide), ky_kind0 (by rw [kh_at (by omega), h0]) (br_f (by decide) ⟨rfl, hu⟩)⟩⟩)))
    · refine kx_kind2 (kh_at (by omega)) (by omega) (kh_sb hI hm) h0 hd (br_t rfl ?_)
      exact ky_varY hj (br_f kh_10 (ky_varY hw (br_f kh_10 ⟨vp_in_nI hj (by decide), vp_in_nI hw (by decide), br_t z ⟨vp_in_nI hj (by decide), ky_kind2 (kh_at (by omega)) (by omega) h0 ha (br_t rfl ⟨rfl, hu⟩)⟩⟩)))
    · refine kx_kind1 (kh_at (by omega)) (by omega) (kh_sb hI hm) h0 ht he un (br_f (by decide) ?_)
      exact ky_varY hj (br_f kh_10 (ky_varY hw (br_f kh_10 ⟨vp_in_nI hj (by decide), vp_in_nI hw (by decide), br_t z ⟨vp_in_nI hj (by decide), ky_kind1 (kh_at (by omega)) (by omega) h0 ha (br_f (by decide) ⟨rfl, hu⟩)⟩⟩)))
  · exact br_f z (ky_varY hj (br_f kh_10 (ky_varY hw (br_f kh_10 ⟨vp_in_nI hj (by decide), vp_in_nI hw (by decide), br_f z ⟨rfl, hu⟩⟩))))
