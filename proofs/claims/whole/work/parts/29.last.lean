theorem i_vc_apart {k : Nat} {u : SX} {v : SY} (I : i_Rel k u v) (hk : k + 5 ≤ 2560) (v1 : Int32) (v2 : Int32) : wpX_apart (fun r u' => wpY_apart (fun r' v' => r' = r ∧ i_Rel (k + 5) u' v') v v1 v2) u v1 v2 := by
  obtain ⟨u1, u2, u3, u4, u5, u6, u7, u8, u9, u10, u11, u12, u13, u14, u15, u16, u17⟩ := u
  obtain ⟨w1, w2, w3, w4, w5, w6, w7, w8, w9⟩ := v
  have I2 : fl_R u1 u7 u8 u9 w6 w7 w8 w9 := I.2
  obtain ⟨rfl, rfl, rfl, hT, hN, hH⟩ := I2
  have hR : fl_R u1 w7 w8 w9 w6 w7 w8 w9 := ⟨rfl, rfl, rfl, hT, hN, hH⟩
  unfold wpX_apart
  refine xw_ends (fun h2 => br_f (by decide) ?_) (fun h2 => br_t rfl ?_)
  · obtain ⟨s, t, hs, ht, hst, rfl, rfl⟩ := h2
    refine xw_lay (ext := 0) (by omega) (by decide) hN (fun l hL => ?_)
    obtain ⟨_, b2⟩ := fl_La_B hN (by decide) hst hL
    refine xw_paths (by omega) (by omega) hst (fl_La_ok hL) b2 (fun x l2 f li lv w dn hx hM => ?_)
    have hM2 : fl_Mc (fl_Cs u1 w7 w8 w9 0 1) s t x.toInt := fl_Min_c hM hL.1
    unfold wpY_apart wpY_fewest
    refine yw_two (fun _ => br_f (by decide) (yw_search (by omega) (by omega) (by decide) hT hN (Or.inr ⟨by decide, rfl⟩) (fun m ev so ce cs hS => ⟨?_, rfl, hR⟩))) (fun z => absurd ⟨s, t, hs, ht, hst, rfl, rfl⟩ z)
    exact Int32.toInt_inj.mp (fl_Mn_u (fl_Stu_Mn hS (fl_side hs ht hst)) (fl_Mc_Mn hN hs ht hM2))
  · unfold wpY_apart wpY_fewest
    exact yw_two (fun z => absurd z h2) (fun _ => br_t rfl ⟨rfl, rfl, hR⟩)
theorem fl_Lp_B {pr : Int32} {st en rm : Nat → Int32} {s t : Nat} {most much : Int} {L : Nat → Int} (hN : fl_Net pr st en rm) (hm : 0 ≤ most) (ht : t < 8) (h : fl_Lp (fl_Cs pr st en rm 8 most) much L 8) :
    ∃ S, fl_Sd S (s + 8) t ∧ fl_cut L S ≤ 1980 := by
  refine ⟨fun x => decide (8 ≤ x), ⟨by simp, by simp; exact ht⟩, ?_⟩
  rw [h.1]
  have e : fl_ps much (fun x => decide (8 ≤ x)) 8 = 0 := fl_zero (fun p hp => by
    show (if (decide (8 ≤ p) && !decide (8 ≤ p + 8)) = true then much else 0) = 0
    rw [if_neg]; simp)
  rw [e]
  have := (fl_Cs_b (ext := 8) hN hm (fun x => decide (8 ≤ x))).2
  omega
theorem fl_La_Lp {pr : Int32} {st en rm : Nat → Int32} {most much : Int} {L : Nat → Int} (h : fl_La (bt pr) (fl_st st) (fl_st en) (fl_v rm) 8 most L 20) : fl_Lp (fl_Cs pr st en rm 8 most) much L 0 := by
  refine ⟨fun S => ?_, fun i hi => ?_, fun p _ hp => h.2.2 _ (by omega) (by omega)⟩
  · rw [h.1 S]
    show fl_Cs pr st en rm 8 most S = fl_Cs pr st en rm 8 most S + 0
    omega
  · have := h.2.1 i hi
    omega
theorem fl_add8 (s : Nat) : nI s + 8 = nI (s + 8) := nI_add s 8
theorem i_vc_separate {k : Nat} {u : SX} {v : SY} (I : i_Rel k u v) (hk : k + 5 ≤ 2560) (v1 : Int32) (v2 : Int32) : wpX_separate (fun r u' => wpY_separate (fun r' => r' = r ∧ i_Rel (k + 5) u' v) v v1 v2) u v1 v2 := by
  obtain ⟨u1, u2, u3, u4, u5, u6, u7, u8, u9, u10, u11, u12, u13, u14, u15, u16, u17⟩ := u
  obtain ⟨w1, w2, w3, w4, w5, w6, w7, w8, w9⟩ := v
  have I2 : fl_R u1 u7 u8 u9 w6 w7 w8 w9 := I.2
  obtain ⟨rfl, rfl, rfl, hT, hN, hH⟩ := I2
  have hR : fl_R u1 w7 w8 w9 w6 w7 w8 w9 := ⟨rfl, rfl, rfl, hT, hN, hH⟩
  unfold wpX_separate
  refine xw_ends (fun h2 => br_f (by decide) ?_) (fun h2 => br_t rfl ?_)
  · obtain ⟨s, t, hs, ht, hst, rfl, rfl⟩ := h2
    refine xw_lay (ext := 8) (by omega) (by decide) hN (fun l hL => ?_)
    refine xw_layP (by decide) (fl_La_Lp hL) (fun l2 hP => ?_)
    rw [fl_add8]
    refine xw_paths (by omega) (by omega) (by omega) (fl_Lp_ok hP) (fl_Lp_B hN (by decide) ht hP) (fun x l3 f li lv w dn hx hM => ?_)
    have hM2 := fl_Min_c hM hP.1
    unfold wpY_separate
    refine yw_two (fun _ => br_f (by decide) (yw_parted hs ht (by decide) (by decide) hT hN (Or.inr ⟨by decide, rfl⟩) (fun y hy => ⟨?_, rfl, hR⟩))) (fun z => absurd ⟨s, t, hs, ht, hst, rfl, rfl⟩ z)
    exact Int32.toInt_inj.mp (fl_part hN hs ht hst (by decide) (by decide) hM2 hy).symm
  · unfold wpY_separate
    exact yw_two (fun z => absurd z h2) (fun _ => br_t rfl ⟨rfl, rfl, hR⟩)
theorem i_vc_weakest {k : Nat} {u : SX} {v : SY} (I : i_Rel k u v) (hk : k + 5 ≤ 2560) : wpX_weakest (fun r => wpY_weakest (fun r' v' => r' = r ∧ i_Rel (k + 5) u v') v) u := by
  obtain ⟨u1, u2, u3, u4, u5, u6, u7, u8, u9, u10, u11, u12, u13, u14, u15, u16, u17⟩ := u
  obtain ⟨w1, w2, w3, w4, w5, w6, w7, w8, w9⟩ := v
  have I2 : fl_R u1 u7 u8 u9 w6 w7 w8 w9 := I.2
  obtain ⟨rfl, rfl, rfl, hT, hN, hH⟩ := I2
  have hR : fl_R u1 w7 w8 w9 w6 w7 w8 w9 := ⟨rfl, rfl, rfl, hT, hN, hH⟩
  refine xw_weak hN (fun x hx => yw_weak hT hN (fun y m ev so cs ce hy => ⟨?_, rfl, hR⟩))
  have hb := fl_Cs_b (ext := 0) hN (show (0 : Int) ≤ 99 by decide) (fl_tb 1)
  have hb2 : fl_sz u1 w7 w8 w9 99 1 ≤ 1980 := hb.2
  exact Int32.toInt_inj.mp (fl_Le_u (fl_Wk_end hy) hx ⟨1, by decide, by decide, by omega⟩ ⟨1, by decide, by decide, hb2⟩)
theorem i_vc_throttled {k : Nat} {u : SX} {v : SY} (I : i_Rel k u v) (hk : k + 5 ≤ 2560) (v1 : Int32) (v2 : Int32) (v3 : Int32) : wpX_throttled (fun r u' => wpY_throttled (fun r' => r' = r ∧ i_Rel (k + 5) u' v) v v1 v2 v3) u v1 v2 v3 := by
  obtain ⟨u1, u2, u3, u4, u5, u6, u7, u8, u9, u10, u11, u12, u13, u14, u15, u16, u17⟩ := u
  obtain ⟨w1, w2, w3, w4, w5, w6, w7, w8, w9⟩ := v
  have I2 : fl_R u1 u7 u8 u9 w6 w7 w8 w9 := I.2
  obtain ⟨rfl, rfl, rfl, hT, hN, hH⟩ := I2
  have hR : fl_R u1 w7 w8 w9 w6 w7 w8 w9 := ⟨rfl, rfl, rfl, hT, hN, hH⟩
  unfold wpX_throttled
  refine xw_ends (fun h2 => br_f (by decide) (xw_room (fun h3 => br_f (by decide) ?_) (fun h3 => br_t rfl ?_))) (fun h2 => br_t rfl ?_)
  · obtain ⟨s, t, hs, ht, hst, rfl, rfl⟩ := h2
    refine xw_lay (ext := 8) (by omega) (by decide) hN (fun l hL => ?_)
    refine xw_layP h3 (fl_La_Lp hL) (fun l2 hP => ?_)
    rw [fl_add8]
    refine xw_layers (by omega) (by omega) (by omega) (fl_Lp_ok hP) (fl_Lp_B hN (by decide) ht hP) (fun x l3 f li lv hx hM => ?_)
    have hM2 := fl_Min_c hM hP.1
    unfold wpY_throttled
    refine yw_two (fun _ => br_f (by decide) (yw_amount (fun _ => br_f (by decide) (yw_parted hs ht (by decide) h3 hT hN (Or.inl ⟨rfl, rfl⟩) (fun y hy => ⟨?_, rfl, hR⟩))) (fun z => absurd h3 z))) (fun z => absurd ⟨s, t, hs, ht, hst, rfl, rfl⟩ z)
    exact Int32.toInt_inj.mp (fl_part hN hs ht hst (by decide) h3 hM2 hy).symm
  · unfold wpY_throttled
    exact yw_two (fun _ => br_f (by decide) (yw_amount (fun z => absurd z h3) (fun _ => br_t rfl ⟨rfl, rfl, hR⟩))) (fun z => absurd h2 z)
  · unfold wpY_throttled
    exact yw_two (fun z => absurd z h2) (fun _ => br_t rfl ⟨rfl, rfl, hR⟩)
theorem i_vc_fewest {k : Nat} {u : SX} {v : SY} (I : i_Rel k u v) (hk : k + 5 ≤ 2560) (v1 : Int32) (v2 : Int32) : wpX_fewest (fun r => wpY_fewest (fun r' v' => r' = r ∧ i_Rel (k + 5) u v') v v1 v2) u v1 v2 := by
  obtain ⟨u1, u2, u3, u4, u5, u6, u7, u8, u9, u10, u11, u12, u13, u14, u15, u16, u17⟩ := u
  obtain ⟨w1, w2, w3, w4, w5, w6, w7, w8, w9⟩ := v
  have I2 : fl_R u1 u7 u8 u9 w6 w7 w8 w9 := I.2
  obtain ⟨rfl, rfl, rfl, hT, hN, hH⟩ := I2
  have hR : fl_R u1 w7 w8 w9 w6 w7 w8 w9 := ⟨rfl, rfl, rfl, hT, hN, hH⟩
  refine xw_few hN (fun s t hs ht hst e1 e2 x hx => ?_) (fun h2 => ?_)
  · subst e1 e2
    unfold wpY_fewest
    refine yw_two (fun _ => br_f (by decide) (yw_search (by omega) (by omega) (by decide) hT hN (Or.inr ⟨by decide, rfl⟩) (fun m ev so ce cs hS => ⟨?_, rfl, hR⟩))) (fun z => absurd ⟨s, t, hs, ht, hst, rfl, rfl⟩ z)
    have hsd := fl_side hs ht hst
    obtain ⟨j, j1, j2⟩ := hsd
    exact Int32.toInt_inj.mp (fl_Mn_u (fl_Stu_Mn hS ⟨j, j1, j2⟩) (fl_Le_Mn hx ⟨j, j1, j2, fl_Cg_20⟩))
  · unfold wpY_fewest
    exact yw_two (fun z => absurd z h2) (fun _ => br_t rfl ⟨rfl, rfl, hR⟩)
