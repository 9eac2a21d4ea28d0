theorem xw_push {post : SX → Prop} {f_present f_leastSize f_inEvery f_inSome f_cutByEvery f_cutBySome : Int32} {a_start a_end a_rooms a_left a_from a_line a_level a_width a_done a_height a_excess : Nat → Int32} {u v : Nat} {a : Int32} (hu : u < 16) (hv : v < 16) (h0 : 0 ≤ a.toInt) (h1 : a.toInt ≤ 4000) (hok : fl_ok (fl_v a_left)) (hE : ∀ x, x < 16 → -1980 ≤ fl_v a_excess x ∧ fl_v a_excess x ≤ 1980)
    (h : ∀ l e, fl_v l = fl_mv (fl_v a_left) u v a.toInt → fl_v e = fl_pe (fl_v a_excess) u v a.toInt → post (f_present, f_leastSize, f_inEvery, f_inSome, f_cutByEvery, f_cutBySome, a_start, a_end, a_rooms, l, a_from, a_line, a_level, a_width, a_done, a_height, e)) : wpX_push post (f_present, f_leastSize, f_inEvery, f_inSome, f_cutByEvery, f_cutBySome, a_start, a_end, a_rooms, a_left, a_from, a_line, a_level, a_width, a_done, a_height, a_excess) (nI u) (nI v) a := by
  unfold wpX_push
  refine xw_move hu hv h0 (by omega) hok (fun l hl => ⟨vp_in_nI hu (by decide), vp_in_nI hu (by decide), nm_e ⟨vp_in_nI hv (by decide), vp_in_nI hv (by decide), nm_e (h l _ hl ?_)⟩⟩)
  rw [nI_clamp (show u < 2 ^ 31 by omega), nI_clamp (show v < 2 ^ 31 by omega)]
  have b1 : -1980 ≤ (a_excess u).toInt ∧ (a_excess u).toInt ≤ 1980 := hE u hu
  have b2 := hE v hv
  have e1 : (a_excess u - a).toInt = fl_v a_excess u - a.toInt := fl_tsub (by omega) (by omega)
  have e2 : fl_v (upd a_excess u (a_excess u - a)) = fl_pu (fl_v a_excess) u (fl_v a_excess u - a.toInt) := by
    rw [fl_vu, e1]
  have e3 : (upd a_excess u (a_excess u - a) v).toInt = fl_pu (fl_v a_excess) u (fl_v a_excess u - a.toInt) v := congrFun e2 v
  have b3 : -100000 ≤ fl_pu (fl_v a_excess) u (fl_v a_excess u - a.toInt) v ∧ fl_pu (fl_v a_excess) u (fl_v a_excess u - a.toInt) v ≤ 4000 := by
    have b1' := hE u hu
    by_cases e : v = u
    · rw [e, fl_pus]; omega
    · rw [fl_pun e]; omega
  rw [fl_vu, fl_tadd (by rw [e3]; omega) (by rw [e3]; omega), e3, e2]
  rfl
theorem xw_flood38 {post : SX → Prop} {f_present f_leastSize f_inEvery f_inSome f_cutByEvery f_cutBySome : Int32} {a_start a_end a_rooms a_from a_line a_level a_width a_done a_height : Nat → Int32} {s : Nat} {C : Nat → Int} (hs : s < 16) (hB : fl_cut C (fun x => decide (x = s)) ≤ 1980)
    (h : ∀ l e, fl_Pf C (fl_v l) (fl_v e) s → (∀ w, w < 16 → w ≠ s → fl_v l (s * 16 + w) = 0) → post (f_present, f_leastSize, f_inEvery, f_inSome, f_cutByEvery, f_cutBySome, a_start, a_end, a_rooms, l, a_from, a_line, a_level, a_width, a_done, a_height, e)) :
    ∀ (d i : Nat) l e, i + d = 16 → fl_Pf C (fl_v l) (fl_v e) s → (∀ w, w < i → w ≠ s → fl_v l (s * 16 + w) = 0) → wX_flood_38 post (nI s) (d + 1) (nI i) f_present f_leastSize f_inEvery f_inSome f_cutByEvery f_cutBySome a_start a_end a_rooms l a_from a_line a_level a_width a_done a_height e := by
  intro d
  induction d with
  | zero =>
    intro i l e hi hP hz
    have e1 : i = 16 := by omega
    subst e1
    exact br_t (nI_le (a := 16) (b := 16) (by omega) (by decide)) (h l e hP hz)
  | succ d ih =>
    intro i l e hi hP hz
    have hE := fl_E_b hs hP hB
    have hL := fl_ok_le hP.1 hs (show i < 16 by omega)
    have hh := fl_P6 hP hs (show i < 16 by omega) hz
    refine br_f (nI_ge (b := 16) (by omega) (by decide)) ⟨fl_ixi hs (by omega), ?_⟩
    rw [fl_ixc hs (by omega)]
    refine xw_push hs (by omega) hL.1 hL.2 hP.1 (fun x hx => ?_) (fun l2 e2 hl he => nm_r (nI_1 i) (ih (i + 1) l2 e2 (by omega) ?_ ?_))
    · by_cases ex : x = s
      · rw [ex]; omega
      · have := hE.2.2 x hx ex
        omega
    · rw [hl, he]; exact hh.1
    · rw [hl]; exact hh.2
theorem xw_flood2 {post : SX → Prop} {f_present f_leastSize f_inEvery f_inSome f_cutByEvery f_cutBySome : Int32} {a_start a_end a_rooms a_left a_from a_line a_level a_width a_done : Nat → Int32} {s : Nat} (hs : s < 16) (hok : fl_ok (fl_v a_left)) (hB : fl_cut (fl_v a_left) (fun x => decide (x = s)) ≤ 1980)
    (h : ∀ l hh e, fl_Pf (fl_v a_left) (fl_v l) (fl_v e) s → (∀ w, w < 16 → w ≠ s → fl_v l (s * 16 + w) = 0) → fl_v hh s = 16 → (∀ v, v < 16 → v ≠ s → fl_v hh v = 0) → post (f_present, f_leastSize, f_inEvery, f_inSome, f_cutByEvery, f_cutBySome, a_start, a_end, a_rooms, l, a_from, a_line, a_level, a_width, a_done, hh, e)) :
    ∀ (d j : Nat) hh e, j + d = 16 → (∀ y, y < j → fl_v hh y = 0) → (∀ y, y < j → fl_v e y = 0) → wX_flood_2 post (nI s) f_present f_leastSize f_inEvery f_inSome f_cutByEvery f_cutBySome (d + 1) (nI j) a_start a_end a_rooms a_left a_from a_line a_level a_width a_done hh e := by
  intro d
  induction d with
  | zero =>
    intro j hh e hj h1 h2
    have e1 : j = 16 := by omega
    subst e1
    refine br_t (nI_le (a := 16) (b := 16) (by omega) (by decide)) ⟨vp_in_nI hs (by decide), nm_e ⟨16 + 1, ?_⟩⟩
    rw [nI_clamp (show s < 2 ^ 31 by omega)]
    refine xw_flood38 hs hB (fun l e hP hz => h l _ e hP hz ?_ ?_) 16 0 a_left e rfl (fl_P0 hok h2) (fun w hw => by omega)
    · rw [fl_vu, fl_pus]; decide
    · intro v hv hvs
      rw [fl_vu, fl_pun hvs]; exact h1 v hv
  | succ d ih =>
    intro j hh e hj h1 h2
    refine br_f (nI_ge (b := 16) (by omega) (by decide)) ⟨vp_in_nI (by omega) (by decide), nm_e ⟨vp_in_nI (by omega) (by decide), nm_e (nm_r (nI_1 j) (ih (j + 1) _ _ (by omega) ?_ ?_))⟩⟩
    · intro y hy
      rw [nI_clamp (by omega), fl_vu]
      by_cases e : y = j
      · rw [e, fl_pus]; decide
      · rw [fl_pun e]; exact h1 y (by omega)
    · intro y hy
      rw [nI_clamp (by omega), fl_vu]
      by_cases e : y = j
      · rw [e, fl_pus]; decide
      · rw [fl_pun e]; exact h2 y (by omega)
theorem xw_flood {post : SX → Prop} {f_present f_leastSize f_inEvery f_inSome f_cutByEvery f_cutBySome : Int32} {a_start a_end a_rooms a_left a_from a_line a_level a_width a_done a_height a_excess : Nat → Int32} {s : Nat} (hs : s < 16) (hok : fl_ok (fl_v a_left)) (hB : fl_cut (fl_v a_left) (fun x => decide (x = s)) ≤ 1980)
    (h : ∀ l hh e, fl_Pf (fl_v a_left) (fl_v l) (fl_v e) s → (∀ w, w < 16 → w ≠ s → fl_v l (s * 16 + w) = 0) → fl_v hh s = 16 → (∀ v, v < 16 → v ≠ s → fl_v hh v = 0) → post (f_present, f_leastSize, f_inEvery, f_inSome, f_cutByEvery, f_cutBySome, a_start, a_end, a_rooms, l, a_from, a_line, a_level, a_width, a_done, hh, e)) : wpX_flood post (f_present, f_leastSize, f_inEvery, f_inSome, f_cutByEvery, f_cutBySome, a_start, a_end, a_rooms, a_left, a_from, a_line, a_level, a_width, a_done, a_height, a_excess) (nI s) :=
  ⟨16 + 1, xw_flood2 hs hok hB h 16 0 a_height a_excess rfl (fun y hy => by omega) (fun y hy => by omega)⟩
theorem xw_active {post : Int32 → Prop} {f_present f_leastSize f_inEvery f_inSome f_cutByEvery f_cutBySome : Int32} {a_start a_end a_rooms a_left a_from a_line a_level a_width a_done a_height a_excess : Nat → Int32} {v s t : Nat} (hv : v < 16) (hs : s < 16) (ht : t < 16) (h1 : v ≠ s → v ≠ t → 0 < fl_v a_excess v → post 1) (h0 : ¬ (v ≠ s ∧ v ≠ t ∧ 0 < fl_v a_excess v) → post 0) : wpX_isActive post (f_present, f_leastSize, f_inEvery, f_inSome, f_cutByEvery, f_cutBySome, a_start, a_end, a_rooms, a_left, a_from, a_line, a_level, a_width, a_done, a_height, a_excess) (nI v) (nI s) (nI t) := by
  show (nI v = nI s → _) ∧ _
  refine pk_eq v s (fun e => h0 (fun z => z.1 e)) (fun e => pk_eq v t (fun e2 => h0 (fun z => z.2.1 e2)) (fun e2 => ⟨vp_in_nI hv (by decide), ?_⟩))
  rw [nI_clamp (show v < 2 ^ 31 by omega)]
  exact fl_cle (fun hl => h0 (fun z => absurd z.2.2 (Int.not_lt.mpr hl))) (fun hl => h1 e e2 (Int.not_le.mp hl))
theorem xw_highest_l {post : Int32 → Prop} {f_present f_leastSize f_inEvery f_inSome f_cutByEvery f_cutBySome : Int32} {a_start a_end a_rooms a_left a_from a_line a_level a_width a_done a_height a_excess : Nat → Int32} {s t : Nat} (hs : s < 16) (ht : t < 16) (hH : ∀ v, v < 16 → 0 ≤ fl_v a_height v)
    (h1 : ∀ v, v < 16 → v ≠ s → v ≠ t → 0 < fl_v a_excess v → post (nI v)) (h0 : (∀ v, v < 16 → ¬ (v ≠ s ∧ v ≠ t ∧ 0 < fl_v a_excess v)) → post (-1)) :
    ∀ (d j : Nat) (x3 x4 : Int32), j + d = 16 → ((x3 = -1 ∧ x4.toInt = -1 ∧ ∀ v, v < j → ¬ (v ≠ s ∧ v ≠ t ∧ 0 < fl_v a_excess v)) ∨ ∃ v : Nat, v < 16 ∧ x3 = nI v ∧ v ≠ s ∧ v ≠ t ∧ 0 < fl_v a_excess v) →
      wX_highestActive_8 post (nI s) (nI t) f_present f_leastSize f_inEvery f_inSome f_cutByEvery f_cutBySome a_start a_end a_rooms a_left a_from a_line a_level a_width a_done a_height a_excess (d + 1) x3 x4 (nI j) := by
  intro d
  induction d with
  | zero =>
    intro j x3 x4 hj hx
    have e : j = 16 := by omega
    subst e
    refine br_t (nI_le (a := 16) (b := 16) (by omega) (by decide)) ?_
    rcases hx with ⟨rfl, _, hp⟩ | ⟨v, hv, rfl, a, b, c⟩
    · exact h0 hp
    · exact h1 v hv a b c
  | succ d ih =>
    intro j x3 x4 hj hx
    refine br_f (nI_ge (b := 16) (by omega) (by decide)) (xw_active (by omega) hs ht (fun a b c => br_f (by decide) ⟨vp_in_nI (by omega) (by decide), ?_⟩) (fun hn => br_t rfl (nm_r (nI_1 j) (ih (j + 1) x3 x4 (by omega) ?_))))
    · rw [nI_clamp (show j < 2 ^ 31 by omega)]
      refine fl_cle (fun hl => nm_r (nI_1 j) (ih (j + 1) x3 x4 (by omega) ?_)) (fun hl => ⟨vp_in_nI (by omega) (by decide), nm_e (nm_r (nI_1 j) (ih (j + 1) (nI j) _ (by omega) (Or.inr ⟨j, by omega, rfl, a, b, c⟩)))⟩)
      rcases hx with ⟨_, h2, _⟩ | h2
      · have h3 : 0 ≤ (a_height j).toInt := hH j (by omega)
        omega
      · exact Or.inr h2
    · rcases hx with ⟨h2, h3, h4⟩ | h2
      · exact Or.inl ⟨h2, h3, lt_s h4 hn⟩
      · exact Or.inr h2
theorem xw_highest {post : Int32 → Prop} {f_present f_leastSize f_inEvery f_inSome f_cutByEvery f_cutBySome : Int32} {a_start a_end a_rooms a_left a_from a_line a_level a_width a_done a_height a_excess : Nat → Int32} {s t : Nat} (hs : s < 16) (ht : t < 16) (hH : ∀ v, v < 16 → 0 ≤ fl_v a_height v)
    (h1 : ∀ v, v < 16 → v ≠ s → v ≠ t → 0 < fl_v a_excess v → post (nI v)) (h0 : (∀ v, v < 16 → ¬ (v ≠ s ∧ v ≠ t ∧ 0 < fl_v a_excess v)) → post (-1)) : wpX_highestActive post (f_present, f_leastSize, f_inEvery, f_inSome, f_cutByEvery, f_cutBySome, a_start, a_end, a_rooms, a_left, a_from, a_line, a_level, a_width, a_done, a_height, a_excess) (nI s) (nI t) :=
  ⟨16 + 1, xw_highest_l hs ht hH h1 h0 16 0 (-1) (-1) rfl (Or.inl ⟨rfl, fl_m1, fun v hv => by omega⟩)⟩
theorem xw_nexta_l {post : Int32 → Prop} {f_present f_leastSize f_inEvery f_inSome f_cutByEvery f_cutBySome : Int32} {a_start a_end a_rooms a_left a_from a_line a_level a_width a_done a_height a_excess : Nat → Int32} {s t u : Nat} (hs : s < 16) (ht : t < 16) (hu : u < 16)
    (h1 : ∀ v, v < 16 → v ≠ s → v ≠ t → 0 < fl_v a_excess v → post (nI v)) (h0 : (∀ v, v < 16 → ¬ (v ≠ s ∧ v ≠ t ∧ 0 < fl_v a_excess v)) → post (-1)) :
    ∀ (d j : Nat), j + d = 17 → (∀ i, 1 ≤ i → i < j → ¬ ((u + i) % 16 ≠ s ∧ (u + i) % 16 ≠ t ∧ 0 < fl_v a_excess ((u + i) % 16))) → wX_nextActive_3 post (nI u) (nI s) (nI t) f_present f_leastSize f_inEvery f_inSome f_cutByEvery f_cutBySome a_start a_end a_rooms a_left a_from a_line a_level a_width a_done a_height a_excess (d + 1) (nI j) := by
  intro d
  induction d with
  | zero =>
    intro j hj hp
    have e : j = 17 := by omega
    subst e
    refine br_t (nI_lt (a := 16) (b := 17) (by omega) (by decide)) (h0 (fun v hv => ?_))
    by_cases c : u < v
    · have := hp (v - u) (by omega) (by omega)
      rw [show (u + (v - u)) % 16 = v by omega] at this; exact this
    · have := hp (v + 16 - u) (by omega) (by omega)
      rw [show (u + (v + 16 - u)) % 16 = v by omega] at this; exact this
  | succ d ih =>
    intro j hj hp
    have e1 : (nI u + nI j) - (nI u + nI j) / 16 * 16 = nI ((u + j) % 16) := by
      rw [nI_add]; exact pk_rem (d := 16) (by omega) (by omega) (by omega)
    refine br_f (nI_nlt (a := 16) (by omega) (by decide)) ⟨by decide, nm_r e1 (xw_active (by omega) hs ht (fun a b c => br_f (by decide) (h1 _ (by omega) a b c)) (fun hn => br_t rfl (nm_r (nI_1 j) (ih (j + 1) (by omega) (fun i h2 h3 => ?_)))))⟩
    by_cases e : i = j
    · rw [e]; exact hn
    · exact hp i h2 (by omega)
theorem xw_nexta {post : Int32 → Prop} {f_present f_leastSize f_inEvery f_inSome f_cutByEvery f_cutBySome : Int32} {a_start a_end a_rooms a_left a_from a_line a_level a_width a_done a_height a_excess : Nat → Int32} {s t u : Nat} (hs : s < 16) (ht : t < 16) (hu : u < 16)
    (h1 : ∀ v, v < 16 → v ≠ s → v ≠ t → 0 < fl_v a_excess v → post (nI v)) (h0 : (∀ v, v < 16 → ¬ (v ≠ s ∧ v ≠ t ∧ 0 < fl_v a_excess v)) → post (-1)) : wpX_nextActive post (f_present, f_leastSize, f_inEvery, f_inSome, f_cutByEvery, f_cutBySome, a_start, a_end, a_rooms, a_left, a_from, a_line, a_level, a_width, a_done, a_height, a_excess) (nI u) (nI s) (nI t) :=
  ⟨16 + 1, xw_nexta_l hs ht hu h1 h0 16 1 rfl (fun i h2 h3 => by omega)⟩
