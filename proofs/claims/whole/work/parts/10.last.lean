/-! reached and sweep -/
theorem i_vc_reached {k : Nat} {u : SX} {v : SY} (I : i_Rel k u v) (hk : k + 4 ≤ 2048) : wpX_reached (fun r => wpY_reached (fun r' v' => r' = r ∧ i_Rel (k + 4) u v') v) u := by
  obtain ⟨m, p, s, lk, NB, AL, NM, LF, RT, SN, rfl, rfl, hI⟩ := I
  unfold wpX_reached wpY_reached
  dsimp only
  have hm := kh_bd hI hk
  refine kx_reach hI hm (fun x hx => ⟨7, kx_rd_loop ?_ 6 0 rfl⟩)
  refine ky_look hI hm (fun SN' h1 hS => ⟨m + 1, ky_rd_loop hm ⟨?_, kh_R (kh_I_up hI)⟩ m 0 (Nat.zero_add m)⟩)
  have eY : kh_sum (fun r => if SN' r = 0 then 0 else 1) m = kh_sum (fun r => if AL r = 0 then 0 else (fun r => if SN' r = 0 then (0 : Int32) else 1) r) m := by
    refine kh_sum_congr m (fun r hr => ?_)
    show (if SN' r = 0 then (0 : Int32) else 1) = (if AL r = 0 then 0 else if SN' r = 0 then 0 else 1)
    by_cases z : SN' r = 0
    · rw [if_pos z]; split <;> rfl
    · obtain ⟨t, ht, e, _⟩ := hS r hr z
      rw [if_neg z, if_neg (fun c => (hI.2.2.2.2.2.1 r hr).mp c t ht e)]
  rw [eY, ← kh_sums hI]
  refine kh_sum_congr 6 (fun t ht => ?_)
  show (if s t = 0 then (0 : Int32) else if SN' (s t - 1) = 0 then 0 else 1) = (if bt x t = true then 1 else 0)
  by_cases z : s t = 0
  · rw [if_pos z, if_neg (fun c => kh_Re_live ((hx t ht).mp c) z)]
  · rw [if_neg z]
    by_cases y : SN' (s t - 1) = 0
    · rw [if_pos y, if_neg (fun c => (h1 t ht z).mpr ((hx t ht).mp c) y)]
    · rw [if_neg y, if_pos ((hx t ht).mpr ((h1 t ht z).mp y))]
theorem kh_I_sweep {k m : Nat} {p s lk : Nat → Nat} {NB AL NM LF RT SN : Nat → Int32} {x : Int32} (hI : kh_I k m p s lk NB AL NM LF RT) (hx : ∀ t, t < 6 → (bt x t = true ↔ kh_Re p s lk t)) (h1 : ∀ t, t < 6 → s t ≠ 0 → (¬ SN (s t - 1) = 0 ↔ kh_Re p s lk t)) (hS : kz_S m p s lk SN) : kh_I k m p (kx_sw s x 6) lk NB (ky_sw AL SN m) NM LF RT := by
  refine kh_I_drop hI (fun t => ?_) (fun r hr => ?_)
  · unfold kx_sw
    split
    · exact Or.inr rfl
    · exact Or.inl rfl
  · have ha := hI.2.2.2.2.2.1 r hr
    by_cases y : SN r = 0
    · have e : ky_sw AL SN m r = 0 := if_pos ⟨hr, y⟩
      refine ⟨fun _ t ht c => ?_, fun _ => e⟩
      unfold kx_sw at c
      by_cases b : t < 6 ∧ bt x t = false
      · rw [if_pos b] at c; omega
      · rw [if_neg b] at c
        have hb : bt x t = true := by
          cases hb : bt x t with
          | true => rfl
          | false => exact absurd ⟨ht, hb⟩ b
        have := (h1 t ht (by omega)).mpr ((hx t ht).mp hb)
        rw [c, Nat.add_sub_cancel] at this
        exact this y
    · have e : ky_sw AL SN m r = AL r := if_neg (fun c => y c.2)
      obtain ⟨t0, ht0, e0, hr0⟩ := hS r hr y
      have hb := (hx t0 ht0).mpr hr0
      refine ⟨fun z => ?_, fun z => ?_⟩
      · rw [e] at z
        exact absurd e0 (ha.mp z t0 ht0)
      · have := z t0 ht0
        unfold kx_sw at this
        rw [if_neg (fun c => absurd (c.2.symm.trans hb) (by decide))] at this
        exact absurd e0 this
theorem i_vc_sweep {k : Nat} {u : SX} {v : SY} (I : i_Rel k u v) (hk : k + 4 ≤ 2048) : wpX_sweep (fun r u' => wpY_sweep (fun r' v' => r' = r ∧ i_Rel (k + 4) u' v') v) u := by
  obtain ⟨m, p, s, lk, NB, AL, NM, LF, RT, SN, rfl, rfl, hI⟩ := I
  unfold wpX_sweep wpY_sweep
  dsimp only
  have hm := kh_bd hI hk
  refine kx_reach hI hm (fun x hx => ⟨7, ?_⟩)
  have gX := fun (post : Int32 → SX → Prop) hp => kx_sw_loop (post := post) (f := nI m) (x := x) (A := kh_e p) (NB := NB) (LK := kh_e lk) (kh_sb hI hm) hp 6 0 rfl
  rw [kx_sw_0] at gX
  refine gX _ ?_
  refine ky_look hI hm (fun SN' h1 hS => ⟨m + 1, ?_⟩)
  have gY := fun (post : Int32 → SY → Prop) hp => ky_sw_loop (post := post) (V := kh_e p) (AL := AL) (NM := NM) (LF := LF) (RT := RT) (SN := SN') hm hp m 0 (Nat.zero_add m)
  rw [ky_sw_0] at gY
  refine gY _ ⟨?_, kh_R (kh_I_sweep (kh_I_up hI) hx h1 hS)⟩
  have e := kh_sums hI (fun r => if SN' r = 0 then (1 : Int32) else 0)
  refine e.symm.trans (kh_sum_congr 6 (fun t ht => ?_))
  show (if s t = 0 then (0 : Int32) else if SN' (s t - 1) = 0 then 1 else 0) = (if s t = 0 then 0 else if bt x t = true then 0 else 1)
  by_cases z : s t = 0
  · rw [if_pos z, if_pos z]
  · rw [if_neg z, if_neg z]
    by_cases y : SN' (s t - 1) = 0
    · rw [if_pos y, if_neg (fun c => (h1 t ht z).mpr ((hx t ht).mp c) y)]
    · rw [if_neg y, if_pos ((hx t ht).mpr ((h1 t ht z).mp y))]
