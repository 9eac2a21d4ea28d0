def fl_st (a : Nat → Int32) : Nat → Nat := fun k => (a k).toNatClampNeg
/-- the arcs that are there go from a point to a point, and have a room -/
def fl_Net (pr : Int32) (st en rm : Nat → Int32) : Prop := ∀ k, k < 20 → bt pr k = true → (st k = nI (fl_st st k) ∧ fl_st st k < 8) ∧ (en k = nI (fl_st en k) ∧ fl_st en k < 8) ∧ 0 ≤ fl_v rm k ∧ fl_v rm k ≤ 99
/-- what the arcs that leave S carry -/
def fl_Cs (pr : Int32) (st en rm : Nat → Int32) (ext : Nat) (most : Int) (S : Nat → Bool) : Int := fl_cs (bt pr) (fl_st st) (fl_st en) (fl_v rm) ext most S 20
/-- the least of B over the sides -/
def fl_Mc (B : (Nat → Bool) → Int) (s t : Nat) (x : Int) : Prop := (∃ S, fl_Sd S s t ∧ B S = x) ∧ ∀ S, fl_Sd S s t → x ≤ B S
theorem fl_Min_c {C : Nat → Int} {B : (Nat → Bool) → Int} {s t : Nat} {x : Int} (h : fl_Min C s t x) (hB : ∀ S, fl_cut C S = B S) : fl_Mc B s t x := by
  obtain ⟨⟨S, h1, h2⟩, h3⟩ := h
  exact ⟨⟨S, h1, by rw [← hB, h2]⟩, fun T hT => by rw [← hB]; exact h3 T hT⟩
theorem xw_lay24 {post : SX → Prop} {f_present f_leastSize f_inEvery f_inSome f_cutByEvery f_cutBySome : Int32} {a_start a_end a_rooms a_from a_line a_level a_width a_done a_height a_excess : Nat → Int32} {ext : Nat} {most : Int32} (hx : ext ≤ 8) (hm : 0 ≤ most.toInt ∧ most.toInt ≤ 99) (hN : fl_Net f_present a_start a_end a_rooms)
    (h : ∀ l, fl_La (bt f_present) (fl_st a_start) (fl_st a_end) (fl_v a_rooms) ext most.toInt (fl_v l) 20 → post (f_present, f_leastSize, f_inEvery, f_inSome, f_cutByEvery, f_cutBySome, a_start, a_end, a_rooms, l, a_from, a_line, a_level, a_width, a_done, a_height, a_excess)) :
    ∀ (d k : Nat) l, k + d = 20 → fl_La (bt f_present) (fl_st a_start) (fl_st a_end) (fl_v a_rooms) ext most.toInt (fl_v l) k → wX_layArcs_24 post (nI ext) most f_present f_leastSize f_inEvery f_inSome f_cutByEvery f_cutBySome (d + 1) (nI k) a_start a_end a_rooms l a_from a_line a_level a_width a_done a_height a_excess := by
  intro d
  induction d with
  | zero =>
    intro k l hk hL
    have e : k = 20 := by omega
    subst e
    exact br_t (nI_le (a := 20) (b := 20) (by omega) (by decide)) (h l hL)
  | succ d ih =>
    intro k l hk hL
    refine br_f (nI_ge (b := 20) (by omega) (by decide)) (xw_holds (by omega) (fun hb => br_f (by decide) ?_) (fun hb => br_t rfl (nm_r (nI_1 k) (ih (k + 1) l (by omega) (fl_La1 hL hb)))))
    obtain ⟨⟨s1, s2⟩, ⟨e1, e2⟩, r1, r2⟩ := hN k (by omega) hb
    rw [nI_clamp (show k < 2 ^ 31 by omega), s1, e1, nI_add]
    have i1 : vp_in (nI (fl_st a_start k + ext) * 16 + nI (fl_st a_end k)) 256 := fl_ixi (by omega) (by omega)
    have hv := hL.2.1 ((fl_st a_start k + ext) * 16 + fl_st a_end k) (by omega)
    have hv' : 0 ≤ (l ((fl_st a_start k + ext) * 16 + fl_st a_end k)).toInt ∧ (l ((fl_st a_start k + ext) * 16 + fl_st a_end k)).toInt ≤ 99 * (k : Int) := hv
    have r1' : 0 ≤ (a_rooms k).toInt := r1
    have r2' : (a_rooms k).toInt ≤ 99 := r2
    refine ⟨vp_in_nI (by omega) (by decide), vp_in_nI (by omega) (by decide), i1, vp_in_nI (by omega) (by decide), xw_lesser (fun r hr hr1 hr2 => ⟨i1, nm_e (nm_r (nI_1 k) (ih (k + 1) _ (by omega) ?_))⟩)⟩
    have hr0 : 0 ≤ r.toInt ∧ r.toInt ≤ 99 := by
      rcases hr with rfl | rfl <;> omega
    have er : r.toInt = (if fl_v a_rooms k < most.toInt then fl_v a_rooms k else most.toInt) := by
      have e3 : fl_v a_rooms k = (a_rooms k).toInt := rfl
      rw [e3]
      rcases hr with rfl | rfl
      · split <;> omega
      · split <;> omega
    rw [fl_ixc (by omega) (by omega), fl_vu]
    refine fl_La2 hL hb (by omega) (by omega) ⟨r1, r2⟩ hm.1 ?_
    rw [fl_tadd (by omega) (by omega), er]; rfl
theorem xw_lay2 {post : SX → Prop} {f_present f_leastSize f_inEvery f_inSome f_cutByEvery f_cutBySome : Int32} {a_start a_end a_rooms a_from a_line a_level a_width a_done a_height a_excess : Nat → Int32} {ext : Nat} {most : Int32} (hx : ext ≤ 8) (hm : 0 ≤ most.toInt ∧ most.toInt ≤ 99) (hN : fl_Net f_present a_start a_end a_rooms)
    (h : ∀ l, fl_La (bt f_present) (fl_st a_start) (fl_st a_end) (fl_v a_rooms) ext most.toInt (fl_v l) 20 → post (f_present, f_leastSize, f_inEvery, f_inSome, f_cutByEvery, f_cutBySome, a_start, a_end, a_rooms, l, a_from, a_line, a_level, a_width, a_done, a_height, a_excess)) :
    ∀ (d j : Nat) l, j + d = 256 → (∀ i, i < j → fl_v l i = 0) → wX_layArcs_2 post (nI ext) most f_present f_leastSize f_inEvery f_inSome f_cutByEvery f_cutBySome (d + 1) (nI j) a_start a_end a_rooms l a_from a_line a_level a_width a_done a_height a_excess := by
  intro d
  induction d with
  | zero =>
    intro j l hj hp
    have e : j = 256 := by omega
    subst e
    exact br_t (nI_le (a := 256) (b := 256) (by omega) (by decide)) ⟨20 + 1, xw_lay24 hx hm hN h 20 0 l rfl (fl_La0 hp)⟩
  | succ d ih =>
    intro j l hj hp
    refine br_f (nI_ge (b := 256) (by omega) (by decide)) ⟨vp_in_nI (by omega) (by decide), nm_e (nm_r (nI_1 j) (ih (j + 1) _ (by omega) ?_))⟩
    intro i hi
    rw [nI_clamp (by omega), fl_vu]
    by_cases e : i = j
    · rw [e, fl_pus]; decide
    · rw [fl_pun e]; exact hp i (by omega)
theorem xw_lay {post : SX → Prop} {f_present f_leastSize f_inEvery f_inSome f_cutByEvery f_cutBySome : Int32} {a_start a_end a_rooms a_left a_from a_line a_level a_width a_done a_height a_excess : Nat → Int32} {ext : Nat} {most : Int32} (hx : ext ≤ 8) (hm : 0 ≤ most.toInt ∧ most.toInt ≤ 99) (hN : fl_Net f_present a_start a_end a_rooms)
    (h : ∀ l, fl_La (bt f_present) (fl_st a_start) (fl_st a_end) (fl_v a_rooms) ext most.toInt (fl_v l) 20 → post (f_present, f_leastSize, f_inEvery, f_inSome, f_cutByEvery, f_cutBySome, a_start, a_end, a_rooms, l, a_from, a_line, a_level, a_width, a_done, a_height, a_excess)) : wpX_layArcs post (f_present, f_leastSize, f_inEvery, f_inSome, f_cutByEvery, f_cutBySome, a_start, a_end, a_rooms, a_left, a_from, a_line, a_level, a_width, a_done, a_height, a_excess) (nI ext) most :=
  ⟨256 + 1, xw_lay2 hx hm hN h 256 0 a_left rfl (fun i hi => by omega)⟩
theorem xw_layP_l {post : SX → Prop} {f_present f_leastSize f_inEvery f_inSome f_cutByEvery f_cutBySome : Int32} {a_start a_end a_rooms a_from a_line a_level a_width a_done a_height a_excess : Nat → Int32} {much : Int32} {B : (Nat → Bool) → Int} (hm : 0 ≤ much.toInt ∧ much.toInt ≤ 99) (h : ∀ l, fl_Lp B much.toInt (fl_v l) 8 → post (f_present, f_leastSize, f_inEvery, f_inSome, f_cutByEvery, f_cutBySome, a_start, a_end, a_rooms, l, a_from, a_line, a_level, a_width, a_done, a_height, a_excess)) :
    ∀ (d p : Nat) l, p + d = 8 → fl_Lp B much.toInt (fl_v l) p → wX_layPoints_2 post much f_present f_leastSize f_inEvery f_inSome f_cutByEvery f_cutBySome (d + 1) (nI p) a_start a_end a_rooms l a_from a_line a_level a_width a_done a_height a_excess := by
  intro d
  induction d with
  | zero =>
    intro p l hp hL
    have e : p = 8 := by omega
    subst e
    exact br_t (nI_le (a := 8) (b := 8) (by omega) (by decide)) (h l hL)
  | succ d ih =>
    intro p l hp hL
    have e1 : nI p * 16 + nI p + 8 = nI (p * 16 + p + 8) := by rw [fl_ix]; exact nI_add (p * 16 + p) 8
    refine br_f (nI_ge (b := 8) (by omega) (by decide)) ?_
    rw [e1, nI_clamp (show p * 16 + p + 8 < 2 ^ 31 by omega)]
    refine ⟨vp_in_nI (by omega) (by decide), nm_e (nm_r (nI_1 p) (ih (p + 1) _ (by omega) ?_))⟩
    rw [fl_vu]
    exact fl_Lp1 hL (by omega) hm
theorem xw_layP {post : SX → Prop} {f_present f_leastSize f_inEvery f_inSome f_cutByEvery f_cutBySome : Int32} {a_start a_end a_rooms a_left a_from a_line a_level a_width a_done a_height a_excess : Nat → Int32} {much : Int32} {B : (Nat → Bool) → Int} (hm : 0 ≤ much.toInt ∧ much.toInt ≤ 99) (h0 : fl_Lp B much.toInt (fl_v a_left) 0) (h : ∀ l, fl_Lp B much.toInt (fl_v l) 8 → post (f_present, f_leastSize, f_inEvery, f_inSome, f_cutByEvery, f_cutBySome, a_start, a_end, a_rooms, l, a_from, a_line, a_level, a_width, a_done, a_height, a_excess)) : wpX_layPoints post (f_present, f_leastSize, f_inEvery, f_inSome, f_cutByEvery, f_cutBySome, a_start, a_end, a_rooms, a_left, a_from, a_line, a_level, a_width, a_done, a_height, a_excess) much :=
  ⟨8 + 1, xw_layP_l hm h 8 0 a_left rfl h0⟩
theorem fl_La_B {pr : Int32} {st en rm : Nat → Int32} {ext s t : Nat} {most : Int} {L : Nat → Int} (hN : fl_Net pr st en rm) (hm : 0 ≤ most) (hst : s ≠ t) (h : fl_La (bt pr) (fl_st st) (fl_st en) (fl_v rm) ext most L 20) :
    fl_cut L (fun x => decide (x = s)) ≤ 1980 ∧ ∃ S, fl_Sd S s t ∧ fl_cut L S ≤ 1980 := by
  have h1 : ∀ S, fl_cut L S ≤ 1980 := fun S => by
    rw [h.1 S]; exact (fl_cs_le S (fun k hk hb => (hN k hk hb).2.2) hm).2
  exact ⟨h1 _, ⟨fun x => decide (x = s), ⟨by simp, by simp; exact Ne.symm hst⟩, h1 _⟩⟩
theorem xw_value {post : Int32 → SX → Prop} {f_present f_leastSize f_inEvery f_inSome f_cutByEvery f_cutBySome : Int32} {a_start a_end a_rooms a_left a_from a_line a_level a_width a_done a_height a_excess : Nat → Int32} {eng p q : Int32} (hN : fl_Net f_present a_start a_end a_rooms)
    (hP : ∀ s t, s < 8 → t < 8 → s ≠ t → p = nI s → q = nI t → 0 ≤ eng.toInt → eng.toInt ≤ 6 → ∀ (x : Int32) l f li v w dn hh e, 0 ≤ x.toInt → fl_Mc (fl_Cs f_present a_start a_end a_rooms 0 99) s t x.toInt → post x (f_present, f_leastSize, f_inEvery, f_inSome, f_cutByEvery, f_cutBySome, a_start, a_end, a_rooms, l, f, li, v, w, dn, hh, e))
    (h0 : ¬ (fl_Two p q ∧ 0 ≤ eng.toInt ∧ eng.toInt ≤ 6) → post (-1) (f_present, f_leastSize, f_inEvery, f_inSome, f_cutByEvery, f_cutBySome, a_start, a_end, a_rooms, a_left, a_from, a_line, a_level, a_width, a_done, a_height, a_excess)) : wpX_value post (f_present, f_leastSize, f_inEvery, f_inSome, f_cutByEvery, f_cutBySome, a_start, a_end, a_rooms, a_left, a_from, a_line, a_level, a_width, a_done, a_height, a_excess) eng p q := by
  unfold wpX_value
  refine xw_ends (fun h2 => br_f (by decide) (fl_cl (fun hl => h0 ?_) (fun hl => fl_cle (fun hl2 => ?_) (fun hl2 => h0 ?_)))) (fun h2 => br_t rfl (h0 (fun z => h2 z.1)))
  · rw [fl_z0] at hl
    intro z
    have := z.2.1
    omega
  · rw [fl_z0] at hl
    rw [show (6 : Int32).toInt = 6 by decide] at hl2
    obtain ⟨s, t, hs, ht, hst, rfl, rfl⟩ := h2
    have P := hP s t hs ht hst rfl rfl (by omega) hl2
    refine xw_lay (ext := 0) (by omega) (by decide) hN (fun l hL => ?_)
    have hok := fl_La_ok hL
    obtain ⟨b1, b2⟩ := fl_La_B hN (by decide) hst hL
    have cv : ∀ x, fl_Min (fl_v l) s t x → fl_Mc (fl_Cs f_present a_start a_end a_rooms 0 99) s t x := fun x hx => fl_Min_c hx hL.1
    have hs16 : s < 16 := by omega
    have ht16 : t < 16 := by omega
    have hp : wpX_flowByPaths post (f_present, f_leastSize, f_inEvery, f_inSome, f_cutByEvery, f_cutBySome, a_start, a_end, a_rooms, l, a_from, a_line, a_level, a_width, a_done, a_height, a_excess) eng (nI s) (nI t) := xw_paths hs16 ht16 hst hok b2 (fun x l f li v w dn h1 h2 => P x l f li v w dn _ _ h1 (cv _ h2))
    have he : wpX_flowByExcess post (f_present, f_leastSize, f_inEvery, f_inSome, f_cutByEvery, f_cutBySome, a_start, a_end, a_rooms, l, a_from, a_line, a_level, a_width, a_done, a_height, a_excess) eng (nI s) (nI t) := xw_excess hs16 ht16 hst hok b1 (fun x l hh e h1 h2 => P x l _ _ _ _ _ hh e h1 (cv _ h2))
    refine br_c (fun _ => hp) (fun _ => br_c (fun _ => hp) (fun _ => br_c (fun _ => ?_) (fun _ => br_c (fun _ => ?_) (fun _ => br_c (fun _ => he) (fun _ => br_c (fun _ => he) (fun _ => trivial))))))
    · exact xw_scales hs16 ht16 hst hok b2 (fun x l f h1 h2 => P x l f _ _ _ _ _ _ h1 (cv _ h2))
    · exact xw_layers hs16 ht16 hst hok b2 (fun x l f li v h1 h2 => P x l f li v _ _ _ _ h1 (cv _ h2))
  · rw [show (6 : Int32).toInt = 6 by decide] at hl2
    intro z
    have := z.2.2
    omega
