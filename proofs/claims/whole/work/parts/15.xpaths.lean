theorem fl_one1 : (1 : Int32).toInt = 1 := by decide
theorem xw_find {post : Int32 → SX → Prop} {f_present f_leastSize f_inEvery f_inSome f_cutByEvery f_cutBySome : Int32} {a_start a_end a_rooms a_left a_from a_line a_level a_width a_done a_height a_excess : Nat → Int32} {s t : Nat} {e : Int32} (hs : s < 16) (ht : t < 16) (hst : s ≠ t)
    (h1 : ∀ f q v w dn, fl_Fd (fl_v a_left) (fl_v f) s t 1 → post 1 (f_present, f_leastSize, f_inEvery, f_inSome, f_cutByEvery, f_cutBySome, a_start, a_end, a_rooms, a_left, f, q, v, w, dn, a_height, a_excess))
    (h0 : ∀ f q v w dn, fl_Non (fl_v a_left) s t 1 → post 0 (f_present, f_leastSize, f_inEvery, f_inSome, f_cutByEvery, f_cutBySome, a_start, a_end, a_rooms, a_left, f, q, v, w, dn, a_height, a_excess)) : wpX_findPath post (f_present, f_leastSize, f_inEvery, f_inSome, f_cutByEvery, f_cutBySome, a_start, a_end, a_rooms, a_left, a_from, a_line, a_level, a_width, a_done, a_height, a_excess) e (nI s) (nI t) := by
  show (e = 1 → _) ∧ _
  refine br_c (fun _ => ?_) (fun _ => br_c (fun _ => ?_) (fun _ => ?_))
  · exact xw_broad hs ht (fun f v q hB hV => ⟨rfl, h1 f q v _ _ (fl_Bf_fd hB ht hV)⟩) (fun f v q hB hV => ⟨rfl, h0 f q v _ _ (fl_Bf_non hB hV)⟩)
  · exact xw_wide hs ht (fun f w dn hF => ⟨rfl, h1 f _ _ w dn hF⟩) (fun f w dn hF => ⟨rfl, h0 f _ _ w dn hF⟩)
  · exact xw_deep hs ht hst (fun f hF => ⟨rfl, h1 f _ _ _ _ (fl_one1 ▸ hF)⟩) (fun f hF => ⟨rfl, h0 f _ _ _ _ (fl_one1 ▸ hF)⟩)
theorem xw_paths_l {post : Int32 → SX → Prop} {f_present f_leastSize f_inEvery f_inSome f_cutByEvery f_cutBySome : Int32} {a_start a_end a_rooms a_height a_excess : Nat → Int32} {s t : Nat} {e : Int32} {C : Nat → Int} (hs : s < 16) (ht : t < 16) (hst : s ≠ t) (hB : ∃ S, fl_Sd S s t ∧ fl_cut C S ≤ 1980)
    (hP : ∀ (x : Int32) l f q v w dn, 0 ≤ x.toInt → fl_Min C s t x.toInt → post x (f_present, f_leastSize, f_inEvery, f_inSome, f_cutByEvery, f_cutBySome, a_start, a_end, a_rooms, l, f, q, v, w, dn, a_height, a_excess)) :
    ∀ (d k : Nat) (x : Int32) l f q v w dn, k + d = 1981 → (k : Int) ≤ x.toInt → fl_Inv C (fl_v l) s t x.toInt → wX_flowByPaths_6 post e (nI s) (nI t) (d + 1) x (nI k) f_present f_leastSize f_inEvery f_inSome f_cutByEvery f_cutBySome a_start a_end a_rooms l f q v w dn a_height a_excess := by
  intro d
  induction d with
  | zero =>
    intro k x l f q v w dn hk hkx hI
    have := fl_Inv_le hI hB
    omega
  | succ d ih =>
    intro k x l f q v w dn hk hkx hI
    have hx := fl_Inv_le hI hB
    refine br_f (nI_nlt (a := 1980) (by omega) (by decide)) (xw_find hs ht hst (fun f q v w dn hF => br_f (by decide) ?_) (fun f q v w dn hN => br_t rfl (hP x l f q v w dn (by omega) (fl_end hI hN))))
    obtain ⟨m, c, hC⟩ := fl_Fd_Ch ht hF
    refine xw_fill hC (Int.le_refl _) hI.1 (fun l2 y h1 h2 ha hl => nm_e (nm_r (nI_1 k) (ih (k + 1) _ l2 f q v w dn (by omega) ?_ ?_)))
    · rw [fl_tadd (by omega) (by omega)]; omega
    · rw [fl_tadd (by omega) (by omega), hl]
      exact fl_fill hC hI (by omega) ha
theorem xw_paths {post : Int32 → SX → Prop} {f_present f_leastSize f_inEvery f_inSome f_cutByEvery f_cutBySome : Int32} {a_start a_end a_rooms a_left a_from a_line a_level a_width a_done a_height a_excess : Nat → Int32} {s t : Nat} {e : Int32} (hs : s < 16) (ht : t < 16) (hst : s ≠ t) (hok : fl_ok (fl_v a_left)) (hB : ∃ S, fl_Sd S s t ∧ fl_cut (fl_v a_left) S ≤ 1980)
    (hP : ∀ (x : Int32) l f q v w dn, 0 ≤ x.toInt → fl_Min (fl_v a_left) s t x.toInt → post x (f_present, f_leastSize, f_inEvery, f_inSome, f_cutByEvery, f_cutBySome, a_start, a_end, a_rooms, l, f, q, v, w, dn, a_height, a_excess)) : wpX_flowByPaths post (f_present, f_leastSize, f_inEvery, f_inSome, f_cutByEvery, f_cutBySome, a_start, a_end, a_rooms, a_left, a_from, a_line, a_level, a_width, a_done, a_height, a_excess) e (nI s) (nI t) :=
  ⟨1981 + 1, xw_paths_l hs ht hst hB hP 1981 0 0 a_left a_from a_line a_level a_width a_done rfl (by decide) ⟨hok, fun S _ => by rw [fl_z0]; omega⟩⟩
theorem fl_flo : ∀ sc, sc < 11 → 1 ≤ ((1 : Int32) <<< (nI sc &&& 31)).toInt := by decide +kernel
theorem fl_flo0 : ((1 : Int32) <<< (nI 0 &&& 31)).toInt = 1 := by decide +kernel
theorem xw_scales14 {post : Int32 → SX → Prop} {J : Int32 → Int32 → Int32 → Int32 → Int32 → Int32 → Int32 → Int32 → (Nat → Int32) → (Nat → Int32) → (Nat → Int32) → (Nat → Int32) → (Nat → Int32) → (Nat → Int32) → (Nat → Int32) → (Nat → Int32) → (Nat → Int32) → (Nat → Int32) → (Nat → Int32) → Prop} {f_present f_leastSize f_inEvery f_inSome f_cutByEvery f_cutBySome : Int32} {a_start a_end a_rooms a_line a_level a_width a_done a_height a_excess : Nat → Int32} {s t : Nat} {y : Int32} {C : Nat → Int} (hs : s < 16) (ht : t < 16) (hst : s ≠ t) (hB : ∃ S, fl_Sd S s t ∧ fl_cut C S ≤ 1980) (hy : 1 ≤ ((1 : Int32) <<< (y &&& 31)).toInt)
    (hJ : ∀ (x : Int32) l f, 0 ≤ x.toInt → fl_Inv C (fl_v l) s t x.toInt → fl_Non (fl_v l) s t ((1 : Int32) <<< (y &&& 31)).toInt → ∀ z, z = y + (-1) → J x z f_present f_leastSize f_inEvery f_inSome f_cutByEvery f_cutBySome a_start a_end a_rooms l f a_line a_level a_width a_done a_height a_excess) :
    ∀ (d k : Nat) (x : Int32) l f, k + d = 1981 → (k : Int) ≤ x.toInt → fl_Inv C (fl_v l) s t x.toInt → wX_flowByScales_14 post J (nI s) (nI t) y (d + 1) x (nI k) f_present f_leastSize f_inEvery f_inSome f_cutByEvery f_cutBySome a_start a_end a_rooms l f a_line a_level a_width a_done a_height a_excess := by
  intro d
  induction d with
  | zero =>
    intro k x l f hk hkx hI
    have := fl_Inv_le hI hB
    omega
  | succ d ih =>
    intro k x l f hk hkx hI
    have hx := fl_Inv_le hI hB
    refine br_f (nI_nlt (a := 1980) (by omega) (by decide)) (xw_deep hs ht hst (fun f hF => br_f (by decide) ?_) (fun f hN => br_t rfl (hJ x l f (by omega) hI hN)))
    obtain ⟨m, c, hC⟩ := fl_Fd_Ch ht hF
    refine xw_fill hC hy hI.1 (fun l2 y h1 h2 ha hl => nm_e (nm_r (nI_1 k) (ih (k + 1) _ l2 f (by omega) ?_ ?_)))
    · rw [fl_tadd (by omega) (by omega)]; omega
    · rw [fl_tadd (by omega) (by omega), hl]
      exact fl_fill hC hI (by omega) ha
theorem xw_scales6 {post : Int32 → SX → Prop} {f_present f_leastSize f_inEvery f_inSome f_cutByEvery f_cutBySome : Int32} {a_start a_end a_rooms a_line a_level a_width a_done a_height a_excess : Nat → Int32} {s t : Nat} {C : Nat → Int} (hs : s < 16) (ht : t < 16) (hst : s ≠ t) (hB : ∃ S, fl_Sd S s t ∧ fl_cut C S ≤ 1980)
    (hP : ∀ (x : Int32) l f, 0 ≤ x.toInt → fl_Min C s t x.toInt → post x (f_present, f_leastSize, f_inEvery, f_inSome, f_cutByEvery, f_cutBySome, a_start, a_end, a_rooms, l, f, a_line, a_level, a_width, a_done, a_height, a_excess)) :
    ∀ sc, sc < 11 → ∀ (x : Int32) l f, 0 ≤ x.toInt → fl_Inv C (fl_v l) s t x.toInt → wX_flowByScales_6 post (nI s) (nI t) (sc + 2) x (nI sc) f_present f_leastSize f_inEvery f_inSome f_cutByEvery f_cutBySome a_start a_end a_rooms l f a_line a_level a_width a_done a_height a_excess := by
  intro sc
  induction sc with
  | zero =>
    intro _ x l f hx hI
    refine br_f (nI_pos (by omega)) ⟨1981 + 1, xw_scales14 hs ht hst hB (fl_flo 0 (by omega)) (fun x l f hx hI hN => nm_r (e' := -1) (by decide) (br_t (by decide) (hP x l f hx (fl_end hI ?_)))) 1981 0 x l f rfl (by omega) hI⟩
    rw [fl_flo0] at hN; exact hN
  | succ sc ih =>
    intro h11 x l f hx hI
    exact br_f (nI_pos (by omega)) ⟨1981 + 1, xw_scales14 hs ht hst hB (fl_flo (sc + 1) h11) (fun x l f hx hI hN => nm_r (pk_m1 sc) (ih (by omega) x l f hx hI)) 1981 0 x l f rfl (by omega) hI⟩
theorem xw_scales {post : Int32 → SX → Prop} {f_present f_leastSize f_inEvery f_inSome f_cutByEvery f_cutBySome : Int32} {a_start a_end a_rooms a_left a_from a_line a_level a_width a_done a_height a_excess : Nat → Int32} {s t : Nat} (hs : s < 16) (ht : t < 16) (hst : s ≠ t) (hok : fl_ok (fl_v a_left)) (hB : ∃ S, fl_Sd S s t ∧ fl_cut (fl_v a_left) S ≤ 1980)
    (hP : ∀ (x : Int32) l f, 0 ≤ x.toInt → fl_Min (fl_v a_left) s t x.toInt → post x (f_present, f_leastSize, f_inEvery, f_inSome, f_cutByEvery, f_cutBySome, a_start, a_end, a_rooms, l, f, a_line, a_level, a_width, a_done, a_height, a_excess)) : wpX_flowByScales post (f_present, f_leastSize, f_inEvery, f_inSome, f_cutByEvery, f_cutBySome, a_start, a_end, a_rooms, a_left, a_from, a_line, a_level, a_width, a_done, a_height, a_excess) (nI s) (nI t) :=
  ⟨10 + 2, xw_scales6 hs ht hst hB hP 10 (by omega) 0 a_left a_from (by decide) ⟨hok, fun S _ => by rw [fl_z0]; omega⟩⟩
