theorem xw_down_l {post : Int32 → Prop} {f_present f_leastSize f_inEvery f_inSome f_cutByEvery f_cutBySome : Int32} {a_start a_end a_rooms a_left a_from a_line a_level a_width a_done a_height a_excess : Nat → Int32} {u : Nat} (hu : u < 16) (hH : ∀ v, v < 16 → 0 ≤ fl_v a_height v ∧ fl_v a_height v ≤ 31)
    (h1 : ∀ v, v < 16 → fl_v a_height u = fl_v a_height v + 1 → 0 < fl_v a_left (u * 16 + v) → post (nI v))
    (h0 : (∀ v, v < 16 → fl_v a_height u = fl_v a_height v + 1 → ¬ 0 < fl_v a_left (u * 16 + v)) → post (-1)) :
    ∀ (d j : Nat), j + d = 16 → (∀ v, v < j → fl_v a_height u = fl_v a_height v + 1 → ¬ 0 < fl_v a_left (u * 16 + v)) → wX_downhillFrom_2 post (nI u) f_present f_leastSize f_inEvery f_inSome f_cutByEvery f_cutBySome a_start a_end a_rooms a_left a_from a_line a_level a_width a_done a_height a_excess (d + 1) (nI j) := by
  intro d
  induction d with
  | zero =>
    intro j hj hp
    have e : j = 16 := by omega
    subst e
    exact br_t (nI_le (a := 16) (b := 16) (by omega) (by decide)) (h0 hp)
  | succ d ih =>
    intro j hj hp
    have hb : 0 ≤ (a_height j).toInt ∧ (a_height j).toInt ≤ 31 := hH j (by omega)
    have e1 : (a_height j + 1).toInt = fl_v a_height j + 1 := fl_tadd (by rw [fl_one1]; omega) (by rw [fl_one1]; omega)
    refine br_f (nI_ge (b := 16) (by omega) (by decide)) ⟨vp_in_nI hu (by decide), vp_in_nI (by omega) (by decide), ?_⟩
    rw [nI_clamp (show j < 2 ^ 31 by omega), nI_clamp (show u < 2 ^ 31 by omega)]
    refine fl_ce (fun hf => ⟨fl_ixi hu (by omega), ?_⟩) (fun hf => nm_r (nI_1 j) (ih (j + 1) (by omega) (lt_s hp (fun z => absurd z (by rw [e1] at hf; exact hf)))))
    rw [e1] at hf
    rw [fl_ixc hu (by omega)]
    exact fl_cle (fun hl => nm_r (nI_1 j) (ih (j + 1) (by omega) (lt_s hp (fun _ => Int.not_lt.mpr hl)))) (fun hl => h1 j (by omega) hf (Int.not_le.mp hl))
theorem xw_down {post : Int32 → Prop} {f_present f_leastSize f_inEvery f_inSome f_cutByEvery f_cutBySome : Int32} {a_start a_end a_rooms a_left a_from a_line a_level a_width a_done a_height a_excess : Nat → Int32} {u : Nat} (hu : u < 16) (hH : ∀ v, v < 16 → 0 ≤ fl_v a_height v ∧ fl_v a_height v ≤ 31)
    (h1 : ∀ v, v < 16 → fl_v a_height u = fl_v a_height v + 1 → 0 < fl_v a_left (u * 16 + v) → post (nI v))
    (h0 : (∀ v, v < 16 → fl_v a_height u = fl_v a_height v + 1 → ¬ 0 < fl_v a_left (u * 16 + v)) → post (-1)) : wpX_downhillFrom post (f_present, f_leastSize, f_inEvery, f_inSome, f_cutByEvery, f_cutBySome, a_start, a_end, a_rooms, a_left, a_from, a_line, a_level, a_width, a_done, a_height, a_excess) (nI u) :=
  ⟨16 + 1, xw_down_l hu hH h1 h0 16 0 rfl (fun v hv => by omega)⟩
theorem xw_lift_l {post : SX → Prop} {f_present f_leastSize f_inEvery f_inSome f_cutByEvery f_cutBySome : Int32} {a_start a_end a_rooms a_left a_from a_line a_level a_width a_done a_height a_excess : Nat → Int32} {u : Nat} (hu : u < 16) (hH : ∀ v, v < 16 → 0 ≤ fl_v a_height v ∧ fl_v a_height v ≤ 31)
    (h : ∀ (m : Int) hh, (∀ v, v < 16 → 0 < fl_v a_left (u * 16 + v) → m ≤ fl_v a_height v) → (m = 32 ∨ ∃ v, v < 16 ∧ 0 < fl_v a_left (u * 16 + v) ∧ m = fl_v a_height v) → fl_v hh = fl_pu (fl_v a_height) u (m + 1) → post (f_present, f_leastSize, f_inEvery, f_inSome, f_cutByEvery, f_cutBySome, a_start, a_end, a_rooms, a_left, a_from, a_line, a_level, a_width, a_done, hh, a_excess)) :
    ∀ (d j : Nat) (x : Int32), j + d = 16 → 0 ≤ x.toInt → x.toInt ≤ 32 → (∀ v, v < j → 0 < fl_v a_left (u * 16 + v) → x.toInt ≤ fl_v a_height v) → (x.toInt = 32 ∨ ∃ v, v < 16 ∧ 0 < fl_v a_left (u * 16 + v) ∧ x.toInt = fl_v a_height v) →
      wX_lift_5 post (nI u) f_present f_leastSize f_inEvery f_inSome f_cutByEvery f_cutBySome a_start a_end a_rooms a_left a_from a_line a_level a_width a_done a_height a_excess (d + 1) x (nI j) := by
  intro d
  induction d with
  | zero =>
    intro j x hj hx0 hx1 hp hq
    have e : j = 16 := by omega
    subst e
    refine br_t (nI_le (a := 16) (b := 16) (by omega) (by decide)) ⟨vp_in_nI hu (by decide), nm_e (h x.toInt _ hp hq ?_)⟩
    rw [nI_clamp (show u < 2 ^ 31 by omega), fl_vu, fl_tadd (by rw [fl_one1]; omega) (by rw [fl_one1]; omega), fl_one1]
  | succ d ih =>
    intro j x hj hx0 hx1 hp hq
    have hb : 0 ≤ (a_height j).toInt ∧ (a_height j).toInt ≤ 31 := hH j (by omega)
    refine br_f (nI_ge (b := 16) (by omega) (by decide)) ⟨fl_ixi hu (by omega), ?_⟩
    rw [fl_ixc hu (by omega), nI_clamp (show j < 2 ^ 31 by omega)]
    refine fl_cle (fun hl => nm_r (nI_1 j) (ih (j + 1) x (by omega) hx0 hx1 (lt_s hp (fun z => absurd z (Int.not_lt.mpr hl))) hq)) (fun hl => ⟨vp_in_nI (by omega) (by decide), xw_lesser (fun r hr hr1 hr2 => nm_r (nI_1 j) (ih (j + 1) r (by omega) ?_ (by omega) (lt_s (fun v hv hL => ?_) (fun _ => hr2)) ?_))⟩)
    · rcases hr with rfl | rfl <;> omega
    · have := hp v hv hL
      omega
    · rcases hr with rfl | rfl
      · exact hq
      · exact Or.inr ⟨j, by omega, Int.not_le.mp hl, rfl⟩
theorem xw_lift {post : SX → Prop} {f_present f_leastSize f_inEvery f_inSome f_cutByEvery f_cutBySome : Int32} {a_start a_end a_rooms a_left a_from a_line a_level a_width a_done a_height a_excess : Nat → Int32} {u : Nat} (hu : u < 16) (hH : ∀ v, v < 16 → 0 ≤ fl_v a_height v ∧ fl_v a_height v ≤ 31)
    (h : ∀ (m : Int) hh, (∀ v, v < 16 → 0 < fl_v a_left (u * 16 + v) → m ≤ fl_v a_height v) → (m = 32 ∨ ∃ v, v < 16 ∧ 0 < fl_v a_left (u * 16 + v) ∧ m = fl_v a_height v) → fl_v hh = fl_pu (fl_v a_height) u (m + 1) → post (f_present, f_leastSize, f_inEvery, f_inSome, f_cutByEvery, f_cutBySome, a_start, a_end, a_rooms, a_left, a_from, a_line, a_level, a_width, a_done, hh, a_excess)) : wpX_lift post (f_present, f_leastSize, f_inEvery, f_inSome, f_cutByEvery, f_cutBySome, a_start, a_end, a_rooms, a_left, a_from, a_line, a_level, a_width, a_done, a_height, a_excess) (nI u) :=
  ⟨16 + 1, xw_lift_l hu hH h 16 0 32 rfl (by decide) (by decide) (fun v hv => by omega) (Or.inl (by decide))⟩
theorem xw_excess11 {post : Int32 → SX → Prop} {f_present f_leastSize f_inEvery f_inSome f_cutByEvery f_cutBySome : Int32} {a_start a_end a_rooms a_from a_line a_level a_width a_done : Nat → Int32} {s t : Nat} {eng : Int32} {C : Nat → Int} (hs : s < 16) (ht : t < 16) (hst : s ≠ t) (hC : fl_ok C) (hB : fl_cut C (fun x => decide (x = s)) ≤ 1980)
    (hP : ∀ (x : Int32) l hh e, 0 ≤ x.toInt → fl_Min C s t x.toInt → post x (f_present, f_leastSize, f_inEvery, f_inSome, f_cutByEvery, f_cutBySome, a_start, a_end, a_rooms, l, a_from, a_line, a_level, a_width, a_done, hh, e)) :
    ∀ (d k u : Nat) l hh e, k + d = 982577 → u < 16 → fl_Pf C (fl_v l) (fl_v e) s → fl_Hv (fl_v l) (fl_v hh) s t → fl_ph (fl_v hh) (fl_v e) s t + (k : Int) ≤ 982576 →
      wX_flowByExcess_11 post eng (nI s) (nI t) (d + 1) (nI u) (nI k) f_present f_leastSize f_inEvery f_inSome f_cutByEvery f_cutBySome a_start a_end a_rooms l a_from a_line a_level a_width a_done hh e := by
  intro d
  induction d with
  | zero =>
    intro k u l hh e hk hu hF hV hM
    have := fl_ph_nn (s := s) (t := t) hV.2.2.1 hF.2.2
    omega
  | succ d ih =>
    intro k u l hh e hk hu hF hV hM
    have hnn := fl_ph_nn (s := s) (t := t) hV.2.2.1 hF.2.2
    have hE := fl_E_b hs hF hB
    have hEx : ∀ x, x < 16 → -1980 ≤ fl_v e x ∧ fl_v e x ≤ 1980 := fun x hx => by
      by_cases ex : x = s
      · rw [ex]; omega
      · have := hE.2.2 x hx ex
        omega
    have h0 : (∀ v, v < 16 → ¬ (v ≠ s ∧ v ≠ t ∧ 0 < fl_v e v)) → wX_flowByExcess_41 post (wX_flowByExcess_11 post eng (nI s) (nI t) (d + 1)) eng (nI s) (nI t) (nI k) (-1) f_present f_leastSize f_inEvery f_inSome f_cutByEvery f_cutBySome a_start a_end a_rooms l a_from a_line a_level a_width a_done hh e := by
      intro hn
      refine br_t rfl ⟨vp_in_nI ht (by decide), ?_⟩
      rw [nI_clamp (show t < 2 ^ 31 by omega)]
      refine hP _ l hh e (hE.2.2 t ht (Ne.symm hst)).1 (fl_P3 hF hV hs ht hst (fun v hv h1 h2 => ?_))
      have h3 := hn v hv
      have h4 := hF.2.2 v hv h1
      by_cases h5 : 0 < fl_v e v
      · exact absurd ⟨h1, h2, h5⟩ h3
      · omega
    have h1 : ∀ v, v < 16 → v ≠ s → v ≠ t → 0 < fl_v e v → wX_flowByExcess_41 post (wX_flowByExcess_11 post eng (nI s) (nI t) (d + 1)) eng (nI s) (nI t) (nI k) (nI v) f_present f_leastSize f_inEvery f_inSome f_cutByEvery f_cutBySome a_start a_end a_rooms l a_from a_line a_level a_width a_done hh e := by
      intro v hv hvs hvt hpos
      refine br_f (fl_nm (by omega)) (xw_down hv hV.2.2.1 (fun w hw hd hL => br_f (fl_nm (by omega)) ⟨vp_in_nI hv (by decide), fl_ixi hv hw, ?_⟩) (fun hn => br_t rfl (xw_lift hv hV.2.2.1 (fun m hh2 hm1 hm2 he => nm_r (nI_1 k) ?_))))
      · rw [nI_clamp (show v < 2 ^ 31 by omega), fl_ixc hv hw]
        have hle := fl_ok_le hF.1 hv hw
        have hpos' : 0 < (e v).toInt := hpos
        have hL' : 0 < (l (v * 16 + w)).toInt := hL
        have hle' : (l (v * 16 + w)).toInt ≤ 4000 := hle.2
        refine xw_lesser (fun r hr hr1 hr2 => xw_push hv hw ?_ (by omega) hF.1 hEx (fun l2 e2 hl he => nm_r (nI_1 k) ?_))
        · rcases hr with rfl | rfl <;> omega
        · have hr0 : 1 ≤ r.toInt := by
            rcases hr with rfl | rfl <;> omega
          have hh3 := fl_P5 hF hV hv hw hvs hvt hd hr0 hr1 hr2
          rw [← hl, ← he] at hh3
          exact ih (k + 1) v l2 hh e2 (by omega) hv hh3.1 hh3.2.1 (by have := hh3.2.2; omega)
      · have hh3 := fl_P4 hC hF hV hs hB hv hvs hvt hpos hn hm1 hm2
        rw [← he] at hh3
        exact ih (k + 1) v l hh2 e (by omega) hv hF hh3.1 (by have := hh3.2; omega)
    exact br_f (nI_ge (b := 1000000) (by omega) (by decide)) (br_c (fun _ => xw_highest hs ht (fun v hv => (hV.2.2.1 v hv).1) h1 h0) (fun _ => xw_nexta hs ht hu h1 h0))
theorem xw_excess {post : Int32 → SX → Prop} {f_present f_leastSize f_inEvery f_inSome f_cutByEvery f_cutBySome : Int32} {a_start a_end a_rooms a_left a_from a_line a_level a_width a_done a_height a_excess : Nat → Int32} {s t : Nat} {eng : Int32} (hs : s < 16) (ht : t < 16) (hst : s ≠ t) (hok : fl_ok (fl_v a_left)) (hB : fl_cut (fl_v a_left) (fun x => decide (x = s)) ≤ 1980)
    (hP : ∀ (x : Int32) l hh e, 0 ≤ x.toInt → fl_Min (fl_v a_left) s t x.toInt → post x (f_present, f_leastSize, f_inEvery, f_inSome, f_cutByEvery, f_cutBySome, a_start, a_end, a_rooms, l, a_from, a_line, a_level, a_width, a_done, hh, e)) : wpX_flowByExcess post (f_present, f_leastSize, f_inEvery, f_inSome, f_cutByEvery, f_cutBySome, a_start, a_end, a_rooms, a_left, a_from, a_line, a_level, a_width, a_done, a_height, a_excess) eng (nI s) (nI t) := by
  unfold wpX_flowByExcess
  exact xw_flood hs hok hB (fun l hh e hF hz h1 h2 => ⟨982577 + 1, xw_excess11 hs ht hst hok hB hP 982577 0 s l hh e rfl hs hF (fl_P7 hst ht hz h1 h2) (by have := fl_ph_0 (E := fl_v e) (s := s) (t := t) h2; omega)⟩)
