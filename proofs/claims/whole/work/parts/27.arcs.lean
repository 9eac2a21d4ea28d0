def fl_sb (k : Nat) : Int32 := (1 : Int32) <<< (nI k &&& 31)
/-- the same arcs on the two sides, and no others -/
def fl_R (pr : Int32) (st en rm th fr to ro : Nat → Int32) : Prop := fr = st ∧ to = en ∧ ro = rm ∧ fl_Th pr th ∧ fl_Net pr st en rm ∧ ∀ b, 20 ≤ b → b < 32 → bt pr b = false
def i_Rel (k : Nat) (u : SX) (v : SY) : Prop := k = k ∧ fl_R u.1 u.2.2.2.2.2.2.1 u.2.2.2.2.2.2.2.1 u.2.2.2.2.2.2.2.2.1 v.2.2.2.2.2.1 v.2.2.2.2.2.2.1 v.2.2.2.2.2.2.2.1 v.2.2.2.2.2.2.2.2
theorem i_up {k : Nat} {u : SX} {v : SY} (h : i_Rel k u v) : i_Rel (k + 5) u v := ⟨rfl, h.2⟩
theorem i_vc0 : wpX_init (fun u => wpY_init (fun v => i_Rel 0 u v)) := by
  refine ⟨rfl, rfl, rfl, rfl, fun k _ => ?_, fun k _ hb => ?_, fun b _ _ => b_0 b⟩
  · exact ⟨fun _ => b_0 k, fun _ => rfl⟩
  · have hb2 : bt 0 k = true := hb
    rw [b_0] at hb2; cases hb2
theorem fl_R_add {pr x y z : Int32} {st en rm th : Nat → Int32} {k : Nat} (h : fl_R pr st en rm th st en rm) (hk : k < 20) (h2 : fl_Two x y) (h3 : fl_Rm z) :
    fl_R (pr ||| ((1 : Int32) <<< (nI k &&& 31))) (upd st k x) (upd en k y) (upd rm k z) (upd th k 1) (upd st k x) (upd en k y) (upd rm k z) := by
  obtain ⟨_, _, _, hT, hN, hH⟩ := h
  obtain ⟨a, b, ha, hb, _, rfl, rfl⟩ := h2
  refine ⟨rfl, rfl, rfl, fun j hj => ?_, fun j hj hbt => ?_, fun j h4 h5 => ?_⟩
  · rw [b_or, fl_sh1 (by omega) (by omega)]
    by_cases e : j = k
    · subst e
      rw [pk_us]
      simp
    · rw [pk_un e, hT j hj]
      simp [e]
  · by_cases e : j = k
    · subst e
      have s1 : fl_st (upd st j (nI a)) j = a := by
        show (upd st j (nI a) j).toNatClampNeg = a
        rw [pk_us]; exact nI_clamp (by omega)
      have s2 : fl_st (upd en j (nI b)) j = b := by
        show (upd en j (nI b) j).toNatClampNeg = b
        rw [pk_us]; exact nI_clamp (by omega)
      rw [s1, s2, pk_us, pk_us]
      refine ⟨⟨rfl, ha⟩, ⟨rfl, hb⟩, ?_⟩
      show 0 ≤ (upd rm j z j).toInt ∧ (upd rm j z j).toInt ≤ 99
      rw [pk_us]; exact h3
    · have hb2 : bt pr j = true := by
        rw [b_or, fl_sh1 (by omega) (by omega)] at hbt
        simpa [e] using hbt
      have hn := hN j hj hb2
      have s1 : fl_st (upd st k (nI a)) j = fl_st st j := by
        show (upd st k (nI a) j).toNatClampNeg = (st j).toNatClampNeg
        rw [pk_un e]
      have s2 : fl_st (upd en k (nI b)) j = fl_st en j := by
        show (upd en k (nI b) j).toNatClampNeg = (en j).toNatClampNeg
        rw [pk_un e]
      rw [s1, s2, pk_un e, pk_un e]
      refine ⟨hn.1, hn.2.1, ?_⟩
      show 0 ≤ (upd rm k z j).toInt ∧ (upd rm k z j).toInt ≤ 99
      rw [pk_un e]; exact hn.2.2
  · rw [b_or, fl_sh1 (by omega) h5, hH j h4 h5]
    have : ¬ j = k := by omega
    simp [this]
theorem xw_add_l {post : Int32 → SX → Prop} {f_present f_leastSize f_inEvery f_inSome f_cutByEvery f_cutBySome : Int32} {a_start a_end a_rooms a_left a_from a_line a_level a_width a_done a_height a_excess : Nat → Int32} {x y z : Int32}
    (h1 : ∀ k, k < 20 → bt f_present k = false → (∀ j, j < k → bt f_present j = true) → post (nI k) (f_present ||| fl_sb k, f_leastSize, f_inEvery, f_inSome, f_cutByEvery, f_cutBySome, upd a_start k x, upd a_end k y, upd a_rooms k z, a_left, a_from, a_line, a_level, a_width, a_done, a_height, a_excess))
    (h0 : (∀ j, j < 20 → bt f_present j = true) → post (-2) (f_present, f_leastSize, f_inEvery, f_inSome, f_cutByEvery, f_cutBySome, a_start, a_end, a_rooms, a_left, a_from, a_line, a_level, a_width, a_done, a_height, a_excess)) :
    ∀ (d k : Nat), k + d = 20 → (∀ j, j < k → bt f_present j = true) → wX_add_22 post x y z f_present f_leastSize f_inEvery f_inSome f_cutByEvery f_cutBySome a_start a_end a_rooms a_left a_from a_line a_level a_width a_done a_height a_excess (d + 1) (nI k) := by
  intro d
  induction d with
  | zero =>
    intro k hk hp
    have e : k = 20 := by omega
    subst e
    exact br_t (nI_le (a := 20) (b := 20) (by omega) (by decide)) (h0 hp)
  | succ d ih =>
    intro k hk hp
    refine br_f (nI_ge (b := 20) (by omega) (by decide)) (xw_isArc (fun ha => br_f (by decide) (nm_r (nI_1 k) (ih (k + 1) (by omega) (lt_s hp ?_)))) (fun ha => br_t rfl (nm_e ⟨vp_in_nI (by omega) (by decide), nm_e ⟨vp_in_nI (by omega) (by decide), nm_e ⟨vp_in_nI (by omega) (by decide), nm_e ?_⟩⟩⟩)))
    · obtain ⟨j, hj, e, hb⟩ := ha
      rw [nI_eq (by omega) (by omega)] at e
      subst e; exact hb
    · rw [nI_clamp (show k < 2 ^ 31 by omega)]
      refine h1 k (by omega) ?_ hp
      cases e : bt f_present k
      · rfl
      · exact absurd ⟨k, by omega, rfl, e⟩ ha
theorem yw_add_l {post : Int32 → SY → Prop} {f_size f_common f_joined f_cutBySome f_cutByAll : Int32} {a_there a_froms a_tos a_rooms : Nat → Int32} {x y z : Int32} {k : Nat} (hk : k ≤ 20) (hp : ∀ j, j < k → ¬ a_there j = 0)
    (h1 : k < 20 → a_there k = 0 ∧ post (nI k) (f_size, f_common, f_joined, f_cutBySome, f_cutByAll, upd a_there k 1, upd a_froms k x, upd a_tos k y, upd a_rooms k z)) (h0 : k = 20 → post (-2) (f_size, f_common, f_joined, f_cutBySome, f_cutByAll, a_there, a_froms, a_tos, a_rooms)) :
    ∀ (d j : Nat), j + d = k → wY_add_22 post x y z f_size f_common f_joined f_cutBySome f_cutByAll a_there a_froms a_tos a_rooms (d + 1) (nI j) := by
  intro d
  induction d with
  | zero =>
    intro j hj
    have e : j = k := by omega
    subst e
    by_cases h20 : j = 20
    · have := h0 h20
      subst h20
      exact br_t (nI_le (a := 20) (b := 20) (by omega) (by decide)) this
    · have hh := h1 (by omega)
      refine br_f (nI_ge (b := 20) (by omega) (by decide)) ⟨vp_in_nI (by omega) (by decide), ?_⟩
      rw [nI_clamp (show j < 2 ^ 31 by omega), fl_nar1]
      exact br_t hh.1 ⟨vp_in_nI (by omega) (by decide), nm_e ⟨vp_in_nI (by omega) (by decide), nm_e ⟨vp_in_nI (by omega) (by decide), nm_e ⟨vp_in_nI (by omega) (by decide), nm_e hh.2⟩⟩⟩⟩
  | succ d ih =>
    intro j hj
    refine br_f (nI_ge (b := 20) (by omega) (by decide)) ⟨vp_in_nI (by omega) (by decide), ?_⟩
    rw [nI_clamp (show j < 2 ^ 31 by omega)]
    exact br_f (hp j (by omega)) (nm_r (nI_1 j) (ih (j + 1) (by omega)))
theorem i_vc_add {k : Nat} {u : SX} {v : SY} (I : i_Rel k u v) (hk : k + 5 ≤ 2560) (v1 : Int32) (v2 : Int32) (v3 : Int32) : wpX_add (fun r u' => wpY_add (fun r' v' => r' = r ∧ i_Rel (k + 5) u' v') v v1 v2 v3) u v1 v2 v3 := by
  obtain ⟨u1, u2, u3, u4, u5, u6, u7, u8, u9, u10, u11, u12, u13, u14, u15, u16, u17⟩ := u
  obtain ⟨w1, w2, w3, w4, w5, w6, w7, w8, w9⟩ := v
  have I2 : fl_R u1 u7 u8 u9 w6 w7 w8 w9 := I.2
  obtain ⟨rfl, rfl, rfl, hT, hN, hH⟩ := I2
  have hR : fl_R u1 w7 w8 w9 w6 w7 w8 w9 := ⟨rfl, rfl, rfl, hT, hN, hH⟩
  have hthere : ∀ j, j < 20 → bt u1 j = true → ¬ w6 j = 0 := fun j hj hb z => by
    rw [(hT j hj).mp z] at hb; cases hb
  unfold wpX_add
  refine xw_ends (fun h2 => br_f (by decide) (xw_room (fun h3 => br_f (by decide) ⟨20 + 1, xw_add_l (fun j hj hb hp => ?_) (fun hp => ?_) 20 0 rfl (fun j hj => by omega)⟩) (fun h3 => br_t rfl ?_))) (fun h2 => br_t rfl ?_)
  · unfold wpY_add
    refine yw_two (fun _ => br_f (by decide) (yw_amount (fun _ => br_f (by decide) ⟨j + 1, yw_add_l (k := j) (by omega) (fun i hi => hthere i (by omega) (hp i hi)) (fun _ => ⟨(hT j hj).mpr hb, rfl, rfl, fl_R_add hR hj h2 h3⟩) (fun z => by omega) j 0 (by omega)⟩) (fun z => absurd h3 z))) (fun z => absurd h2 z)
  · unfold wpY_add
    exact yw_two (fun _ => br_f (by decide) (yw_amount (fun _ => br_f (by decide) ⟨20 + 1, yw_add_l (k := 20) (by omega) (fun i hi => hthere i hi (hp i hi)) (fun z => by omega) (fun _ => ⟨rfl, rfl, hR⟩) 20 0 rfl⟩) (fun z => absurd h3 z))) (fun z => absurd h2 z)
  · unfold wpY_add
    exact yw_two (fun _ => br_f (by decide) (yw_amount (fun z => absurd z h3) (fun _ => br_t rfl ⟨rfl, rfl, hR⟩))) (fun z => absurd h2 z)
  · unfold wpY_add
    exact yw_two (fun z => absurd z h2) (fun _ => br_t rfl ⟨rfl, rfl, hR⟩)
theorem fl_R_rem {pr : Int32} {st en rm th : Nat → Int32} {k : Nat} (h : fl_R pr st en rm th st en rm) (hk : k < 20) :
    fl_R (pr &&& (((1 : Int32) <<< (nI k &&& 31)) ^^^ (-1))) st en rm (upd th k 0) st en rm := by
  obtain ⟨_, _, _, hT, hN, hH⟩ := h
  have hb : ∀ j, j < 32 → bt (pr &&& (((1 : Int32) <<< (nI k &&& 31)) ^^^ (-1))) j = (bt pr j && !decide (j = k)) := fun j hj => by
    rw [b_and, b_xor, fl_sh1 (by omega) hj, b_m1 j hj, Bool.xor_true]
  refine ⟨rfl, rfl, rfl, fun j hj => ?_, fun j hj hbt => ?_, fun j h4 h5 => ?_⟩
  · rw [hb j (by omega)]
    by_cases e : j = k
    · subst e
      rw [pk_us]; simp
    · rw [pk_un e, hT j hj]; simp [e]
  · rw [hb j (by omega), Bool.and_eq_true] at hbt
    exact hN j hj hbt.1
  · rw [hb j h5, hH j h4 h5]; rfl
theorem i_vc_remove {k : Nat} {u : SX} {v : SY} (I : i_Rel k u v) (hk : k + 5 ≤ 2560) (v1 : Int32) : wpX_remove (fun r u' => wpY_remove (fun r' v' => r' = r ∧ i_Rel (k + 5) u' v') v v1) u v1 := by
  obtain ⟨u1, u2, u3, u4, u5, u6, u7, u8, u9, u10, u11, u12, u13, u14, u15, u16, u17⟩ := u
  obtain ⟨w1, w2, w3, w4, w5, w6, w7, w8, w9⟩ := v
  have I2 : fl_R u1 u7 u8 u9 w6 w7 w8 w9 := I.2
  obtain ⟨rfl, rfl, rfl, hT, hN, hH⟩ := I2
  have hR : fl_R u1 w7 w8 w9 w6 w7 w8 w9 := ⟨rfl, rfl, rfl, hT, hN, hH⟩
  unfold wpX_remove
  refine xw_isArc (fun ha => br_f (by decide) (nm_e ?_)) (fun ha => br_t rfl ?_)
  · obtain ⟨j, hj, rfl, hb⟩ := ha
    have hi : vp_in (nI j) 20 := vp_in_nI hj (by decide)
    refine ⟨hi, ?_⟩
    unfold wpY_remove
    refine yw_is hT (fun _ => br_f (by decide) ⟨hi, nm_e ⟨hi, rfl, rfl, ?_⟩⟩) (fun z => absurd ⟨j, hj, rfl, hb⟩ z)
    have := fl_R_rem hR hj
    rw [← fl_nar0, ← nI_clamp (show j < 2 ^ 31 by omega)] at this
    rw [nI_clamp (show j < 2 ^ 31 by omega)] at this ⊢
    exact this
  · unfold wpY_remove
    exact yw_is hT (fun z => absurd z ha) (fun _ => br_t rfl ⟨rfl, rfl, hR⟩)
