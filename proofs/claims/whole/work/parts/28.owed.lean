theorem fl_R_chg {pr z : Int32} {st en rm th : Nat → Int32} {k : Nat} (h : fl_R pr st en rm th st en rm) (h3 : fl_Rm z) : fl_R pr st en (upd rm k z) th st en (upd rm k z) := by
  obtain ⟨_, _, _, hT, hN, hH⟩ := h
  refine ⟨rfl, rfl, rfl, hT, fun j hj hb => ?_, hH⟩
  have hn := hN j hj hb
  refine ⟨hn.1, hn.2.1, ?_⟩
  show 0 ≤ (upd rm k z j).toInt ∧ (upd rm k z j).toInt ≤ 99
  by_cases e : j = k
  · subst e
    rw [pk_us]; exact h3
  · rw [pk_un e]; exact hn.2.2
theorem i_vc_change {k : Nat} {u : SX} {v : SY} (I : i_Rel k u v) (hk : k + 5 ≤ 2560) (v1 : Int32) (v2 : Int32) : wpX_change (fun r u' => wpY_change (fun r' v' => r' = r ∧ i_Rel (k + 5) u' v') v v1 v2) u v1 v2 := by
  obtain ⟨u1, u2, u3, u4, u5, u6, u7, u8, u9, u10, u11, u12, u13, u14, u15, u16, u17⟩ := u
  obtain ⟨w1, w2, w3, w4, w5, w6, w7, w8, w9⟩ := v
  have I2 : fl_R u1 u7 u8 u9 w6 w7 w8 w9 := I.2
  obtain ⟨rfl, rfl, rfl, hT, hN, hH⟩ := I2
  have hR : fl_R u1 w7 w8 w9 w6 w7 w8 w9 := ⟨rfl, rfl, rfl, hT, hN, hH⟩
  unfold wpX_change
  refine xw_isArc (fun ha => br_f (by decide) (xw_room (fun h3 => br_f (by decide) ?_) (fun h3 => br_t rfl ?_))) (fun ha => br_t rfl ?_)
  · have hi : vp_in v1 20 := by
      obtain ⟨j, hj, rfl, hb⟩ := ha
      exact vp_in_nI hj (by decide)
    refine ⟨hi, nm_e ⟨hi, nm_e ?_⟩⟩
    unfold wpY_change
    exact yw_is hT (fun _ => br_f (by decide) (yw_amount (fun _ => br_f (by decide) ⟨hi, nm_e ⟨hi, nm_e ⟨rfl, rfl, fl_R_chg hR h3⟩⟩⟩) (fun z => absurd h3 z))) (fun z => absurd ha z)
  · unfold wpY_change
    exact yw_is hT (fun _ => br_f (by decide) (yw_amount (fun z => absurd z h3) (fun _ => br_t rfl ⟨rfl, rfl, hR⟩))) (fun z => absurd ha z)
  · unfold wpY_change
    exact yw_is hT (fun z => absurd z ha) (fun _ => br_t rfl ⟨rfl, rfl, hR⟩)
theorem yw_arcs_l {post : Int32 → Prop} {f_size f_common f_joined f_cutBySome f_cutByAll : Int32} {a_there a_froms a_tos a_rooms : Nat → Int32} {pr : Int32} (hT : fl_Th pr a_there) (h : post (fl_cm (bt pr) 20)) : ∀ (d k : Nat), k + d = 20 → wY_arcs_4 post f_size f_common f_joined f_cutBySome f_cutByAll a_there a_froms a_tos a_rooms (d + 1) (fl_cm (bt pr) k) (nI k) := by
  intro d
  induction d with
  | zero =>
    intro k hk
    have e : k = 20 := by omega
    subst e
    exact br_t (nI_le (a := 20) (b := 20) (by omega) (by decide)) h
  | succ d ih =>
    intro k hk
    have ihk := ih (k + 1) (by omega)
    refine br_f (nI_ge (b := 20) (by omega) (by decide)) ⟨vp_in_nI (by omega) (by decide), ?_⟩
    rw [nI_clamp (show k < 2 ^ 31 by omega)]
    refine br_c (fun hz => nm_r (nI_1 k) ?_) (fun hz => nm_e (nm_r (nI_1 k) ?_))
    · have e : fl_cm (bt pr) (k + 1) = fl_cm (bt pr) k := if_neg (by rw [(hT k (by omega)).mp hz]; decide)
      rw [e] at ihk; exact ihk
    · have hb : bt pr k = true := by
        cases e : bt pr k
        · exact absurd ((hT k (by omega)).mpr e) hz
        · rfl
      have e : fl_cm (bt pr) (k + 1) = fl_cm (bt pr) k ||| ((1 : Int32) <<< (nI k &&& 31)) := if_pos hb
      rw [← e]; exact ihk
theorem i_vc_arcs {k : Nat} {u : SX} {v : SY} (I : i_Rel k u v) (hk : k + 5 ≤ 2560) : wpX_arcs (fun r => wpY_arcs (fun r' => r' = r ∧ i_Rel (k + 5) u v) v) u := by
  obtain ⟨u1, u2, u3, u4, u5, u6, u7, u8, u9, u10, u11, u12, u13, u14, u15, u16, u17⟩ := u
  obtain ⟨w1, w2, w3, w4, w5, w6, w7, w8, w9⟩ := v
  have I2 : fl_R u1 u7 u8 u9 w6 w7 w8 w9 := I.2
  have hI : ∀ n, i_Rel n (u1, u2, u3, u4, u5, u6, u7, u8, u9, u10, u11, u12, u13, u14, u15, u16, u17) (w1, w2, w3, w4, w5, w6, w7, w8, w9) := fun n => ⟨rfl, I2⟩
  obtain ⟨e1, e2, e3, hT, hN, hH⟩ := I2
  refine ⟨20 + 1, yw_arcs_l hT ⟨b_ext (fun b hb => ?_), hI _⟩ 20 0 rfl⟩
  rw [fl_cm_b _ 20 (by omega) b hb]
  by_cases e : b < 20
  · simp [e]
  · rw [hH b (by omega) hb]; simp
theorem i_vc_value {k : Nat} {u : SX} {v : SY} (I : i_Rel k u v) (hk : k + 5 ≤ 2560) (v1 : Int32) (v2 : Int32) (v3 : Int32) : wpX_value (fun r u' => wpY_value (fun r' v' => r' = r ∧ i_Rel (k + 5) u' v') v v1 v2 v3) u v1 v2 v3 := by
  obtain ⟨u1, u2, u3, u4, u5, u6, u7, u8, u9, u10, u11, u12, u13, u14, u15, u16, u17⟩ := u
  obtain ⟨w1, w2, w3, w4, w5, w6, w7, w8, w9⟩ := v
  have I2 : fl_R u1 u7 u8 u9 w6 w7 w8 w9 := I.2
  obtain ⟨rfl, rfl, rfl, hT, hN, hH⟩ := I2
  have hR : fl_R u1 w7 w8 w9 w6 w7 w8 w9 := ⟨rfl, rfl, rfl, hT, hN, hH⟩
  refine xw_value hN (fun s t hs ht hst e2 e3 h0 h6 x l f li lv w dn hh e hx hM => ?_) (fun hn => ?_)
  · subst e2 e3
    refine yw_value hT hN (fun s' t' hs' ht' hst' e2 e3 _ m ev so ce cs hS => ?_) (fun hn => absurd ⟨⟨s, t, hs, ht, hst, rfl, rfl⟩, h0, h6⟩ hn)
    rw [nI_eq (by omega) (by omega)] at e2 e3
    subst e2 e3
    exact ⟨Int32.toInt_inj.mp (fl_Mn_u (fl_Stu_Mn hS (fl_side hs ht hst)) (fl_Mc_Mn hN hs ht hM)), rfl, hR⟩
  · exact yw_value hT hN (fun s' t' hs' ht' hst' e2 e3 he m ev so ce cs hS => absurd ⟨⟨s', t', hs', ht', hst', e2, e3⟩, he.1, he.2⟩ hn) (fun _ => ⟨rfl, rfl, hR⟩)
theorem yw_agree {post : Int32 → Prop} {u : SY} {e o p q : Int32} (h1 : fl_En e → fl_En o → fl_Two p q → post 1) (h0 : ¬ (fl_En e ∧ fl_En o ∧ fl_Two p q) → post 0) : wpY_agree post u e o p q := by
  obtain ⟨w1, w2, w3, w4, w5, w6, w7, w8, w9⟩ := u
  unfold wpY_agree
  exact yw_engine (fun a => br_f (by decide) (yw_engine (fun b => br_f (by decide) (yw_two (fun c => br_f (by decide) (h1 a b c)) (fun c => br_t rfl (h0 (fun z => c z.2.2))))) (fun b => br_t rfl (h0 (fun z => b z.2.1))))) (fun a => br_t rfl (h0 (fun z => a z.1)))
theorem i_vc_agree {k : Nat} {u : SX} {v : SY} (I : i_Rel k u v) (hk : k + 5 ≤ 2560) (v1 : Int32) (v2 : Int32) (v3 : Int32) (v4 : Int32) : wpX_agree (fun r u' => wpY_agree (fun r' => r' = r ∧ i_Rel (k + 5) u' v) v v1 v2 v3 v4) u v1 v2 v3 v4 := by
  obtain ⟨u1, u2, u3, u4, u5, u6, u7, u8, u9, u10, u11, u12, u13, u14, u15, u16, u17⟩ := u
  obtain ⟨w1, w2, w3, w4, w5, w6, w7, w8, w9⟩ := v
  have I2 : fl_R u1 u7 u8 u9 w6 w7 w8 w9 := I.2
  obtain ⟨rfl, rfl, rfl, hT, hN, hH⟩ := I2
  have hR : fl_R u1 w7 w8 w9 w6 w7 w8 w9 := ⟨rfl, rfl, rfl, hT, hN, hH⟩
  unfold wpX_agree
  refine xw_value hN (fun s t hs ht hst e2 e3 h0 h6 x l f li lv w dn hh e hx hM => ?_) (fun hn => ?_)
  · have hxm : ¬ x = (-1 : Int32) := fun z => by
      rw [z, fl_m1] at hx; omega
    refine xw_value hN (fun s' t' hs' ht' hst' e2' e3' h0' h6' x' l' f' li' lv' w' dn' hh' e' hx' hM' => br_f hxm ?_) (fun hn => br_f hxm ?_)
    · rw [e2, nI_eq (by omega) (by omega)] at e2'
      rw [e3, nI_eq (by omega) (by omega)] at e3'
      subst e2' e3'
      refine br_t (Int32.toInt_inj.mp (fl_Mn_u (fl_Mc_Mn hN hs ht hM) (fl_Mc_Mn hN hs ht hM'))) ?_
      exact yw_agree (fun _ _ _ => ⟨rfl, rfl, hR⟩) (fun z => absurd ⟨⟨h0, h6⟩, ⟨h0', h6'⟩, ⟨s, t, hs, ht, hst, e2, e3⟩⟩ z)
    · refine br_f hxm ?_
      exact yw_agree (fun _ b c => absurd ⟨c, b.1, b.2⟩ hn) (fun _ => ⟨rfl, rfl, hR⟩)
  · refine xw_value hN (fun s' t' hs' ht' hst' e2' e3' h0' h6' x' l' f' li' lv' w' dn' hh' e' hx' hM' => br_t rfl ?_) (fun hn2 => br_t rfl ?_)
    · exact yw_agree (fun a _ c => absurd ⟨c, a.1, a.2⟩ hn) (fun _ => ⟨rfl, rfl, hR⟩)
    · exact yw_agree (fun a _ c => absurd ⟨c, a.1, a.2⟩ hn) (fun _ => ⟨rfl, rfl, hR⟩)
theorem fl_Stu_pos {pr : Int32} {st en rm : Nat → Int32} {B : Int} {s t : Nat} {m ev so ce cs : Int32} (hN : fl_Net pr st en rm) (hs : s < 8) (ht : t < 8) (hst : s ≠ t) (h : fl_Stu B (fl_Sj s t) (fl_sz pr st en rm 99) (fl_ct pr st en) 256 m.toInt ev so ce cs) : 0 ≤ m.toInt := by
  obtain ⟨⟨j, _, _, j3⟩, _⟩ := fl_Stu_Mn h (fl_side hs ht hst)
  have hb := fl_Cs_b (ext := 0) hN (show (0 : Int) ≤ 99 by decide) (fl_tb j)
  have j4 : fl_Cs pr st en rm 0 99 (fl_tb j) = m.toInt := j3
  omega
theorem i_vc_least {k : Nat} {u : SX} {v : SY} (I : i_Rel k u v) (hk : k + 5 ≤ 2560) (v1 : Int32) (v2 : Int32) : wpX_least (fun r u' => wpY_least (fun r' v' => r' = r ∧ i_Rel (k + 5) u' v') v v1 v2) u v1 v2 := by
  obtain ⟨u1, u2, u3, u4, u5, u6, u7, u8, u9, u10, u11, u12, u13, u14, u15, u16, u17⟩ := u
  obtain ⟨w1, w2, w3, w4, w5, w6, w7, w8, w9⟩ := v
  have I2 : fl_R u1 u7 u8 u9 w6 w7 w8 w9 := I.2
  obtain ⟨rfl, rfl, rfl, hT, hN, hH⟩ := I2
  have hR : fl_R u1 w7 w8 w9 w6 w7 w8 w9 := ⟨rfl, rfl, rfl, hT, hN, hH⟩
  unfold wpX_least
  refine xw_ends (fun h2 => br_f (by decide) ?_) (fun h2 => br_t rfl ?_)
  · obtain ⟨s, t, hs, ht, hst, rfl, rfl⟩ := h2
    refine xw_study (by omega) (by omega) hN (fun m ev so ce cs hS => ?_)
    unfold wpY_least
    refine yw_value hT hN (fun s' t' hs' ht' hst' e2 e3 _ m' ev' so' ce' cs' hS' => ?_) (fun hn => absurd ⟨⟨s, t, hs, ht, hst, rfl, rfl⟩, by decide, by decide⟩ hn)
    rw [nI_eq (by omega) (by omega)] at e2 e3
    subst e2 e3
    have hp := fl_Stu_pos hN hs ht hst hS'
    obtain ⟨_, q1, q2, q3, q4⟩ := fl_Stu_u hS' hS (fl_side hs ht hst)
    exact br_t (Int32.le_iff_toInt_le.mpr (by rw [fl_z0]; exact hp)) ⟨q1, rfl, hR⟩
  · unfold wpY_least
    exact yw_value hT hN (fun s' t' hs' ht' hst' e2 e3 he m ev so ce cs hS => absurd ⟨s', t', hs', ht', hst', e2, e3⟩ h2) (fun _ => br_f (by decide) ⟨rfl, rfl, hR⟩)
theorem i_vc_most {k : Nat} {u : SX} {v : SY} (I : i_Rel k u v) (hk : k + 5 ≤ 2560) (v1 : Int32) (v2 : Int32) : wpX_most (fun r u' => wpY_most (fun r' v' => r' = r ∧ i_Rel (k + 5) u' v') v v1 v2) u v1 v2 := by
  obtain ⟨u1, u2, u3, u4, u5, u6, u7, u8, u9, u10, u11, u12, u13, u14, u15, u16, u17⟩ := u
  obtain ⟨w1, w2, w3, w4, w5, w6, w7, w8, w9⟩ := v
  have I2 : fl_R u1 u7 u8 u9 w6 w7 w8 w9 := I.2
  obtain ⟨rfl, rfl, rfl, hT, hN, hH⟩ := I2
  have hR : fl_R u1 w7 w8 w9 w6 w7 w8 w9 := ⟨rfl, rfl, rfl, hT, hN, hH⟩
  unfold wpX_most
  refine xw_ends (fun h2 => br_f (by decide) ?_) (fun h2 => br_t rfl ?_)
  · obtain ⟨s, t, hs, ht, hst, rfl, rfl⟩ := h2
    refine xw_study (by omega) (by omega) hN (fun m ev so ce cs hS => ?_)
    unfold wpY_most
    refine yw_value hT hN (fun s' t' hs' ht' hst' e2 e3 _ m' ev' so' ce' cs' hS' => ?_) (fun hn => absurd ⟨⟨s, t, hs, ht, hst, rfl, rfl⟩, by decide, by decide⟩ hn)
    rw [nI_eq (by omega) (by omega)] at e2 e3
    subst e2 e3
    have hp := fl_Stu_pos hN hs ht hst hS'
    obtain ⟨_, q1, q2, q3, q4⟩ := fl_Stu_u hS' hS (fl_side hs ht hst)
    exact br_t (Int32.le_iff_toInt_le.mpr (by rw [fl_z0]; exact hp)) ⟨q2, rfl, hR⟩
  · unfold wpY_most
    exact yw_value hT hN (fun s' t' hs' ht' hst' e2 e3 he m ev so ce cs hS => absurd ⟨s', t', hs', ht', hst', e2, e3⟩ h2) (fun _ => br_f (by decide) ⟨rfl, rfl, hR⟩)
theorem i_vc_tight {k : Nat} {u : SX} {v : SY} (I : i_Rel k u v) (hk : k + 5 ≤ 2560) (v1 : Int32) (v2 : Int32) : wpX_tight (fun r u' => wpY_tight (fun r' v' => r' = r ∧ i_Rel (k + 5) u' v') v v1 v2) u v1 v2 := by
  obtain ⟨u1, u2, u3, u4, u5, u6, u7, u8, u9, u10, u11, u12, u13, u14, u15, u16, u17⟩ := u
  obtain ⟨w1, w2, w3, w4, w5, w6, w7, w8, w9⟩ := v
  have I2 : fl_R u1 u7 u8 u9 w6 w7 w8 w9 := I.2
  obtain ⟨rfl, rfl, rfl, hT, hN, hH⟩ := I2
  have hR : fl_R u1 w7 w8 w9 w6 w7 w8 w9 := ⟨rfl, rfl, rfl, hT, hN, hH⟩
  unfold wpX_tight
  refine xw_ends (fun h2 => br_f (by decide) ?_) (fun h2 => br_t rfl ?_)
  · obtain ⟨s, t, hs, ht, hst, rfl, rfl⟩ := h2
    refine xw_study (by omega) (by omega) hN (fun m ev so ce cs hS => ?_)
    unfold wpY_tight
    refine yw_value hT hN (fun s' t' hs' ht' hst' e2 e3 _ m' ev' so' ce' cs' hS' => ?_) (fun hn => absurd ⟨⟨s, t, hs, ht, hst, rfl, rfl⟩, by decide, by decide⟩ hn)
    rw [nI_eq (by omega) (by omega)] at e2 e3
    subst e2 e3
    have hp := fl_Stu_pos hN hs ht hst hS'
    obtain ⟨_, q1, q2, q3, q4⟩ := fl_Stu_u hS' hS (fl_side hs ht hst)
    exact br_t (Int32.le_iff_toInt_le.mpr (by rw [fl_z0]; exact hp)) ⟨q4, rfl, hR⟩
  · unfold wpY_tight
    exact yw_value hT hN (fun s' t' hs' ht' hst' e2 e3 he m ev so ce cs hS => absurd ⟨s', t', hs', ht', hst', e2, e3⟩ h2) (fun _ => br_f (by decide) ⟨rfl, rfl, hR⟩)
theorem i_vc_widening {k : Nat} {u : SX} {v : SY} (I : i_Rel k u v) (hk : k + 5 ≤ 2560) (v1 : Int32) (v2 : Int32) : wpX_widening (fun r u' => wpY_widening (fun r' v' => r' = r ∧ i_Rel (k + 5) u' v') v v1 v2) u v1 v2 := by
  obtain ⟨u1, u2, u3, u4, u5, u6, u7, u8, u9, u10, u11, u12, u13, u14, u15, u16, u17⟩ := u
  obtain ⟨w1, w2, w3, w4, w5, w6, w7, w8, w9⟩ := v
  have I2 : fl_R u1 u7 u8 u9 w6 w7 w8 w9 := I.2
  obtain ⟨rfl, rfl, rfl, hT, hN, hH⟩ := I2
  have hR : fl_R u1 w7 w8 w9 w6 w7 w8 w9 := ⟨rfl, rfl, rfl, hT, hN, hH⟩
  unfold wpX_widening
  refine xw_ends (fun h2 => br_f (by decide) ?_) (fun h2 => br_t rfl ?_)
  · obtain ⟨s, t, hs, ht, hst, rfl, rfl⟩ := h2
    refine xw_study (by omega) (by omega) hN (fun m ev so ce cs hS => ?_)
    unfold wpY_widening
    refine yw_value hT hN (fun s' t' hs' ht' hst' e2 e3 _ m' ev' so' ce' cs' hS' => ?_) (fun hn => absurd ⟨⟨s, t, hs, ht, hst, rfl, rfl⟩, by decide, by decide⟩ hn)
    rw [nI_eq (by omega) (by omega)] at e2 e3
    subst e2 e3
    have hp := fl_Stu_pos hN hs ht hst hS'
    obtain ⟨_, q1, q2, q3, q4⟩ := fl_Stu_u hS' hS (fl_side hs ht hst)
    exact br_t (Int32.le_iff_toInt_le.mpr (by rw [fl_z0]; exact hp)) ⟨q3, rfl, hR⟩
  · unfold wpY_widening
    exact yw_value hT hN (fun s' t' hs' ht' hst' e2 e3 he m ev so ce cs hS => absurd ⟨s', t', hs', ht', hst', e2, e3⟩ h2) (fun _ => br_f (by decide) ⟨rfl, rfl, hR⟩)
