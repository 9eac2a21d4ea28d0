/-- j is a side of s and t -/
def fl_Sj (s t j : Nat) : Prop := fl_tb j s = true ∧ fl_tb j t = false
def fl_sz (pr : Int32) (st en rm : Nat → Int32) (most : Int) : Nat → Int := fun j => fl_Cs pr st en rm 0 most (fl_tb j)
theorem xw_study9 {post : SX → Prop} {f_present : Int32} {a_start a_end a_rooms a_left a_from a_line a_level a_width a_done a_height a_excess : Nat → Int32} {s t : Nat} (hs : s < 32) (ht : t < 32) (hN : fl_Net f_present a_start a_end a_rooms)
    (h : ∀ (m ev so ce cs : Int32), fl_Stu 1981 (fl_Sj s t) (fl_sz f_present a_start a_end a_rooms 99) (fl_ct f_present a_start a_end) 256 m.toInt ev so ce cs → post (f_present, m, ev, so, ce, cs, a_start, a_end, a_rooms, a_left, a_from, a_line, a_level, a_width, a_done, a_height, a_excess)) :
    ∀ (d i : Nat) (m ev so ce cs : Int32), i + d = 256 → fl_Stu 1981 (fl_Sj s t) (fl_sz f_present a_start a_end a_rooms 99) (fl_ct f_present a_start a_end) i m.toInt ev so ce cs → wX_studySides_9 post (nI s) (nI t) (d + 1) (nI i) f_present m ev so ce cs a_start a_end a_rooms a_left a_from a_line a_level a_width a_done a_height a_excess := by
  intro d
  induction d with
  | zero =>
    intro i m ev so ce cs hi hS
    have e : i = 256 := by omega
    subst e
    exact br_t (nI_le (a := 256) (b := 256) (by omega) (by decide)) (h m ev so ce cs hS)
  | succ d ih =>
    intro i m ev so ce cs hi hS
    refine br_f (nI_ge (b := 256) (by omega) (by decide)) (xw_isSide hs ht (fun h1 h2 => br_f (by decide) ?_) (fun h1 => br_t rfl (nm_r (nI_1 i) (ih (i + 1) m ev so ce cs (by omega) (fl_Stu1 hS h1)))))
    have hd : fl_Sj s t i := ⟨h1, h2⟩
    have hb := fl_Cs_b (ext := 0) hN (show (0 : Int) ≤ 99 by decide) (fl_tb i)
    show wpX_studySide _ _ _
    unfold wpX_studySide
    refine xw_cut hN (xw_roomOf hN (fun x hx => fl_cle (fun hl => fl_ce (fun he => nm_e (nm_e (nm_e (nm_e (nm_r (nI_1 i) (ih (i + 1) m _ _ _ _ (by omega) (fl_Stu3 hS hd ?_ ?_))))))) (fun he => nm_r (nI_1 i) (ih (i + 1) m ev so ce cs (by omega) (fl_Stu4 hS ?_ ?_)))) (fun hl => nm_r (nI_1 i) (ih (i + 1) x _ _ _ _ (by omega) ?_))))
    · exact Int.lt_of_le_of_lt hb.2 (by decide)
    · rw [← he, hx]; rfl
    · exact Int.lt_of_le_of_lt hb.2 (by decide)
    · have : x.toInt = fl_sz f_present a_start a_end a_rooms 99 i := hx
      omega
    · have hx2 : x.toInt = fl_sz f_present a_start a_end a_rooms 99 i := hx
      rw [hx2]
      exact fl_Stu2 hS hd (by omega)
theorem xw_study {post : SX → Prop} {f_present f_leastSize f_inEvery f_inSome f_cutByEvery f_cutBySome : Int32} {a_start a_end a_rooms a_left a_from a_line a_level a_width a_done a_height a_excess : Nat → Int32} {s t : Nat} (hs : s < 32) (ht : t < 32) (hN : fl_Net f_present a_start a_end a_rooms)
    (h : ∀ (m ev so ce cs : Int32), fl_Stu 1981 (fl_Sj s t) (fl_sz f_present a_start a_end a_rooms 99) (fl_ct f_present a_start a_end) 256 m.toInt ev so ce cs → post (f_present, m, ev, so, ce, cs, a_start, a_end, a_rooms, a_left, a_from, a_line, a_level, a_width, a_done, a_height, a_excess)) : wpX_studySides post (f_present, f_leastSize, f_inEvery, f_inSome, f_cutByEvery, f_cutBySome, a_start, a_end, a_rooms, a_left, a_from, a_line, a_level, a_width, a_done, a_height, a_excess) (nI s) (nI t) :=
  ⟨256 + 1, xw_study9 hs ht hN h 256 0 1981 f_inEvery f_inSome f_cutByEvery f_cutBySome rfl (by rw [show (1981 : Int32).toInt = 1981 by decide]; exact fl_Stu0)⟩
/-- x is the least of sz over the js before n for which D holds, or at most the bound -/
def fl_Le (D : Nat → Prop) (sz : Nat → Int) (n : Nat) (B x : Int) : Prop := x ≤ B ∧ (x = B ∨ ∃ j, j < n ∧ D j ∧ sz j = x) ∧ ∀ j, j < n → D j → x ≤ sz j
theorem fl_Le_no {D : Nat → Prop} {sz : Nat → Int} {n : Nat} {B x : Int} (h : fl_Le D sz n B x) (hn : D n → x ≤ sz n) : fl_Le D sz (n + 1) B x := by
  obtain ⟨h1, h2, h3⟩ := h
  refine ⟨h1, ?_, fun j hj hd => ?_⟩
  · rcases h2 with h2 | ⟨j, j1, j2, j3⟩
    · exact Or.inl h2
    · exact Or.inr ⟨j, by omega, j2, j3⟩
  · by_cases e : j = n
    · subst e; exact hn hd
    · exact h3 j (by omega) hd
theorem fl_Le_new {D : Nat → Prop} {sz : Nat → Int} {n : Nat} {B x : Int} (h : fl_Le D sz n B x) (hd : D n) (hl : sz n < x) : fl_Le D sz (n + 1) B (sz n) := by
  obtain ⟨h1, h2, h3⟩ := h
  refine ⟨by omega, Or.inr ⟨n, by omega, hd, rfl⟩, fun j hj hd2 => ?_⟩
  by_cases e : j = n
  · subst e; exact Int.le_refl _
  · have := h3 j (by omega) hd2
    omega
theorem fl_Le_u {D : Nat → Prop} {sz : Nat → Int} {n : Nat} {B B' x x' : Int} (h : fl_Le D sz n B x) (h' : fl_Le D sz n B' x') (hB : ∃ j, j < n ∧ D j ∧ sz j ≤ B) (hB' : ∃ j, j < n ∧ D j ∧ sz j ≤ B') : x = x' := by
  obtain ⟨h1, h2, h3⟩ := h
  obtain ⟨h1', h2', h3'⟩ := h'
  have a : x ≤ x' := by
    rcases h2' with rfl | ⟨j, j1, j2, j3⟩
    · obtain ⟨j, j1, j2, j3⟩ := hB'
      have := h3 j j1 j2
      omega
    · have := h3 j j1 j2
      omega
  have b : x' ≤ x := by
    rcases h2 with rfl | ⟨j, j1, j2, j3⟩
    · obtain ⟨j, j1, j2, j3⟩ := hB
      have := h3' j j1 j2
      omega
    · have := h3' j j1 j2
      omega
  omega
theorem xw_weak_l {post : Int32 → Prop} {f_present f_leastSize f_inEvery f_inSome f_cutByEvery f_cutBySome : Int32} {a_start a_end a_rooms a_left a_from a_line a_level a_width a_done a_height a_excess : Nat → Int32} (hN : fl_Net f_present a_start a_end a_rooms) (h : ∀ x : Int32, fl_Le (fun j => 1 ≤ j) (fl_sz f_present a_start a_end a_rooms 99) 255 1980 x.toInt → post x) :
    ∀ (d i : Nat) (x : Int32), i + d = 255 → 1 ≤ i → fl_Le (fun j => 1 ≤ j) (fl_sz f_present a_start a_end a_rooms 99) i 1980 x.toInt → wX_weakest_6 post f_present f_leastSize f_inEvery f_inSome f_cutByEvery f_cutBySome a_start a_end a_rooms a_left a_from a_line a_level a_width a_done a_height a_excess (d + 1) x (nI i) := by
  intro d
  induction d with
  | zero =>
    intro i x hi h1 hL
    have e : i = 255 := by omega
    subst e
    exact br_t (nI_le (a := 255) (b := 255) (by omega) (by decide)) (h x hL)
  | succ d ih =>
    intro i x hi h1 hL
    refine br_f (nI_ge (b := 255) (by omega) (by decide)) (xw_cut hN (xw_roomOf hN (fun y hy => fl_cle (fun hl => nm_r (nI_1 i) (ih (i + 1) x (by omega) (by omega) (fl_Le_no hL (fun _ => ?_)))) (fun hl => nm_r (nI_1 i) (ih (i + 1) y (by omega) (by omega) ?_)))))
    · rw [hy] at hl; exact hl
    · have hy2 : y.toInt = fl_sz f_present a_start a_end a_rooms 99 i := hy
      rw [hy2]
      exact fl_Le_new hL h1 (by omega)
theorem xw_weak {post : Int32 → Prop} {f_present f_leastSize f_inEvery f_inSome f_cutByEvery f_cutBySome : Int32} {a_start a_end a_rooms a_left a_from a_line a_level a_width a_done a_height a_excess : Nat → Int32} (hN : fl_Net f_present a_start a_end a_rooms) (h : ∀ x : Int32, fl_Le (fun j => 1 ≤ j) (fl_sz f_present a_start a_end a_rooms 99) 255 1980 x.toInt → post x) : wpX_weakest post (f_present, f_leastSize, f_inEvery, f_inSome, f_cutByEvery, f_cutBySome, a_start, a_end, a_rooms, a_left, a_from, a_line, a_level, a_width, a_done, a_height, a_excess) :=
  ⟨254 + 1, xw_weak_l hN h 254 1 1980 rfl (by omega) ⟨by decide, Or.inl (by decide), fun j hj hd => by have : 1 ≤ j := hd; omega⟩⟩
theorem xw_few_l {post : Int32 → Prop} {f_present f_leastSize f_inEvery f_inSome f_cutByEvery f_cutBySome : Int32} {a_start a_end a_rooms a_left a_from a_line a_level a_width a_done a_height a_excess : Nat → Int32} {s t : Nat} (hs : s < 32) (ht : t < 32) (hN : fl_Net f_present a_start a_end a_rooms) (h : ∀ x : Int32, fl_Le (fl_Sj s t) (fl_sz f_present a_start a_end a_rooms 1) 256 20 x.toInt → post x) :
    ∀ (d i : Nat) (x : Int32), i + d = 256 → fl_Le (fl_Sj s t) (fl_sz f_present a_start a_end a_rooms 1) i 20 x.toInt → wX_fewest_17 post (nI s) (nI t) f_present f_leastSize f_inEvery f_inSome f_cutByEvery f_cutBySome a_start a_end a_rooms a_left a_from a_line a_level a_width a_done a_height a_excess (d + 1) x (nI i) := by
  intro d
  induction d with
  | zero =>
    intro i x hi hL
    have e : i = 256 := by omega
    subst e
    exact br_t (nI_le (a := 256) (b := 256) (by omega) (by decide)) (h x hL)
  | succ d ih =>
    intro i x hi hL
    refine br_f (nI_ge (b := 256) (by omega) (by decide)) (xw_isSide hs ht (fun h1 h2 => br_f (by decide) (xw_cut hN (xw_among hN (fun y hy => fl_cle (fun hl => nm_r (nI_1 i) (ih (i + 1) x (by omega) (fl_Le_no hL (fun _ => ?_)))) (fun hl => nm_r (nI_1 i) (ih (i + 1) y (by omega) ?_)))))) (fun h1 => br_t rfl (nm_r (nI_1 i) (ih (i + 1) x (by omega) (fl_Le_no hL (fun z => absurd z h1))))))
    · rw [hy] at hl; exact hl
    · have hy2 : y.toInt = fl_sz f_present a_start a_end a_rooms 1 i := hy
      rw [hy2]
      exact fl_Le_new hL ⟨h1, h2⟩ (by omega)
theorem xw_few {post : Int32 → Prop} {f_present f_leastSize f_inEvery f_inSome f_cutByEvery f_cutBySome : Int32} {a_start a_end a_rooms a_left a_from a_line a_level a_width a_done a_height a_excess : Nat → Int32} {p q : Int32} (hN : fl_Net f_present a_start a_end a_rooms) (h : ∀ s t, s < 8 → t < 8 → s ≠ t → p = nI s → q = nI t → ∀ x : Int32, fl_Le (fl_Sj s t) (fl_sz f_present a_start a_end a_rooms 1) 256 20 x.toInt → post x) (h0 : ¬ fl_Two p q → post (-1)) : wpX_fewest post (f_present, f_leastSize, f_inEvery, f_inSome, f_cutByEvery, f_cutBySome, a_start, a_end, a_rooms, a_left, a_from, a_line, a_level, a_width, a_done, a_height, a_excess) p q := by
  unfold wpX_fewest
  refine xw_ends (fun h2 => br_f (by decide) ?_) (fun h2 => br_t rfl (h0 h2))
  obtain ⟨s, t, hs, ht, hst, rfl, rfl⟩ := h2
  exact ⟨256 + 1, xw_few_l (by omega) (by omega) hN (h s t hs ht hst rfl rfl) 256 0 20 rfl ⟨by decide, Or.inl (by decide), fun j hj => by omega⟩⟩
