theorem xw_fill2 {post : Int32 → SX → Prop} {f_present f_leastSize f_inEvery f_inSome f_cutByEvery f_cutBySome : Int32} {a_start a_end a_rooms a_from a_line a_level a_width a_done a_height a_excess : Nat → Int32} {s t : Nat} {g : Int} {x : Int32} {m : Nat} {c : Nat → Nat} {L : Nat → Int} (hC : fl_Ch L (fl_v a_from) s t g m c) (hok : fl_ok L) (h0 : 1 ≤ x.toInt) (h1 : x.toInt ≤ 1980) (ha : ∀ j, j < m → x.toInt ≤ L (c (j + 1) * 16 + c j))
    (h : ∀ l, fl_v l = fl_ms L c x.toInt m → post x (f_present, f_leastSize, f_inEvery, f_inSome, f_cutByEvery, f_cutBySome, a_start, a_end, a_rooms, l, a_from, a_line, a_level, a_width, a_done, a_height, a_excess)) :
    ∀ d i l, i + d = m → fl_v l = fl_ms L c x.toInt i → wX_fillPath_68 post (nI s) x (d + 1) (nI (c i)) (nI i) f_present f_leastSize f_inEvery f_inSome f_cutByEvery f_cutBySome a_start a_end a_rooms l a_from a_line a_level a_width a_done a_height a_excess := by
  have hm := hC.1
  have hc := hC.2.2.2.1
  intro d
  induction d with
  | zero =>
    intro i l hi hl
    have e : i = m := by omega
    subst e
    refine br_f (nI_ge (b := 16) (by omega) (by decide)) (br_t ?_ (h l hl))
    rw [hC.2.2.1]
  | succ d ih =>
    intro i l hi hl
    have hci := hc i (by omega)
    have hci1 := hc (i + 1) (by omega)
    have hF := (hC.2.2.2.2.2 i (by omega)).1
    have hFr : a_from (c i) = nI (c (i + 1)) := fl_tn hF (by omega)
    have hns : ¬ nI (c i) = nI s := by
      rw [nI_eq (by omega) (by have := hc m (by omega); rw [hC.2.2.1] at this; omega)]
      exact fl_Ch_ns hC (by omega)
    refine br_f (nI_ge (b := 16) (by omega) (by decide)) (br_f hns ⟨vp_in_nI hci (by decide), ?_⟩)
    rw [nI_clamp (show c i < 2 ^ 31 by omega), hFr]
    refine xw_move hci1 hci (by omega) (by omega) (by rw [hl]; exact fl_ms_ok hC hok (by omega) ha i (by omega)) (fun l2 hl2 => ⟨vp_in_nI hci (by decide), nm_r hFr (nm_r (nI_1 i) (ih (i + 1) l2 (by omega) ?_))⟩)
    rw [hl2, hl]; rfl
theorem xw_fill1 {post : Int32 → SX → Prop} {f_present f_leastSize f_inEvery f_inSome f_cutByEvery f_cutBySome : Int32} {a_start a_end a_rooms a_left a_from a_line a_level a_width a_done a_height a_excess : Nat → Int32} {s t : Nat} {g : Int} {m : Nat} {c : Nat → Nat} (hC : fl_Ch (fl_v a_left) (fl_v a_from) s t g m c) (hg : 1 ≤ g)
    (h : ∀ x : Int32, 1 ≤ x.toInt → x.toInt ≤ 1980 → (∀ j, j < m → x.toInt ≤ fl_v a_left (c (j + 1) * 16 + c j)) → ∃ n, wX_fillPath_68 post (nI s) x n (nI t) 0 f_present f_leastSize f_inEvery f_inSome f_cutByEvery f_cutBySome a_start a_end a_rooms a_left a_from a_line a_level a_width a_done a_height a_excess) :
    ∀ d i (x : Int32), i + d = m → 1 ≤ x.toInt → x.toInt ≤ 1980 → (∀ j, j < i → x.toInt ≤ fl_v a_left (c (j + 1) * 16 + c j)) → wX_fillPath_10 post (nI s) (nI t) f_present f_leastSize f_inEvery f_inSome f_cutByEvery f_cutBySome a_start a_end a_rooms a_left a_from a_line a_level a_width a_done a_height a_excess (d + 1) x (nI (c i)) (nI i) := by
  have hm := hC.1
  have hc := hC.2.2.2.1
  intro d
  induction d with
  | zero =>
    intro i x hi h1 h2 hx
    have e : i = m := by omega
    subst e
    refine br_f (nI_ge (b := 16) (by omega) (by decide)) (br_t ?_ (h x h1 h2 hx))
    rw [hC.2.2.1]
  | succ d ih =>
    intro i x hi h1 h2 hx
    have hci := hc i (by omega)
    have hci1 := hc (i + 1) (by omega)
    have hF := hC.2.2.2.2.2 i (by omega)
    have hFr : a_from (c i) = nI (c (i + 1)) := fl_tn hF.1 (by omega)
    have hns : ¬ nI (c i) = nI s := by
      rw [nI_eq (by omega) (by have := hc m (by omega); rw [hC.2.2.1] at this; omega)]
      exact fl_Ch_ns hC (by omega)
    refine br_f (nI_ge (b := 16) (by omega) (by decide)) (br_f hns ⟨vp_in_nI hci (by decide), ?_⟩)
    rw [nI_clamp (show c i < 2 ^ 31 by omega), hFr]
    refine ⟨fl_ixi hci1 hci, ?_⟩
    rw [fl_ixc hci1 hci]
    have hL : fl_v a_left (c (i + 1) * 16 + c i) = (a_left (c (i + 1) * 16 + c i)).toInt := rfl
    refine xw_lesser (fun r hr hr1 hr2 => ⟨vp_in_nI hci (by decide), nm_r rfl (nm_r (nI_1 i) (ih (i + 1) r (by omega) ?_ (by omega) ?_))⟩)
    · rcases hr with rfl | rfl
      · exact h1
      · have := hF.2
        omega
    · intro j hj
      by_cases e : j = i
      · subst e; rw [hL]; exact hr2
      · have := hx j (by omega)
        omega
theorem xw_fill {post : Int32 → SX → Prop} {f_present f_leastSize f_inEvery f_inSome f_cutByEvery f_cutBySome : Int32} {a_start a_end a_rooms a_left a_from a_line a_level a_width a_done a_height a_excess : Nat → Int32} {s t : Nat} {g : Int} {m : Nat} {c : Nat → Nat} (hC : fl_Ch (fl_v a_left) (fl_v a_from) s t g m c) (hg : 1 ≤ g) (hok : fl_ok (fl_v a_left))
    (h : ∀ l (x : Int32), 1 ≤ x.toInt → x.toInt ≤ 1980 → (∀ j, j < m → x.toInt ≤ fl_v a_left (c (j + 1) * 16 + c j)) → fl_v l = fl_ms (fl_v a_left) c x.toInt m → post x (f_present, f_leastSize, f_inEvery, f_inSome, f_cutByEvery, f_cutBySome, a_start, a_end, a_rooms, l, a_from, a_line, a_level, a_width, a_done, a_height, a_excess)) : wpX_fillPath post (f_present, f_leastSize, f_inEvery, f_inSome, f_cutByEvery, f_cutBySome, a_start, a_end, a_rooms, a_left, a_from, a_line, a_level, a_width, a_done, a_height, a_excess) (nI s) (nI t) := by
  have h0 := hC.2.1
  have k2 : ∀ x : Int32, 1 ≤ x.toInt → x.toInt ≤ 1980 → (∀ j, j < m → x.toInt ≤ fl_v a_left (c (j + 1) * 16 + c j)) → ∃ n, wX_fillPath_68 post (nI s) x n (nI t) 0 f_present f_leastSize f_inEvery f_inSome f_cutByEvery f_cutBySome a_start a_end a_rooms a_left a_from a_line a_level a_width a_done a_height a_excess := by
    intro x h1 h2 hx
    have k3 : wX_fillPath_68 post (nI s) x (m + 1) (nI (c 0)) (nI 0) f_present f_leastSize f_inEvery f_inSome f_cutByEvery f_cutBySome a_start a_end a_rooms a_left a_from a_line a_level a_width a_done a_height a_excess := xw_fill2 hC hok h1 h2 hx (fun l hl => h l x h1 h2 hx hl) m 0 a_left (by omega) rfl
    rw [h0] at k3
    exact ⟨m + 1, k3⟩
  have key : wX_fillPath_10 post (nI s) (nI t) f_present f_leastSize f_inEvery f_inSome f_cutByEvery f_cutBySome a_start a_end a_rooms a_left a_from a_line a_level a_width a_done a_height a_excess (m + 1) 1980 (nI (c 0)) (nI 0) := xw_fill1 hC hg k2 m 0 1980 (by omega) (by decide) (by decide) (fun j hj => by omega)
  rw [h0] at key
  exact ⟨m + 1, key⟩
