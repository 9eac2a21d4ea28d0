theorem fl_vun (a : Nat → Int32) (k : Nat) {n : Nat} (hn : n < 2 ^ 31) : fl_v (upd a k (nI n)) = fl_pu (fl_v a) k (n : Int) := by
  rw [fl_vu, nI_toInt hn]
theorem fl_m1 : (-1 : Int32).toInt = -1 := by decide
theorem fl_z0 : (0 : Int32).toInt = 0 := by decide
theorem fl_nm {n : Nat} (hn : n < 2 ^ 31) : ¬ nI n = (-1 : Int32) := fun h => by
  have h2 := congrArg Int32.toInt h
  rw [nI_toInt hn, fl_m1] at h2; omega
/-- two different points -/
def fl_Two (p q : Int32) : Prop := ∃ a b : Nat, a < 8 ∧ b < 8 ∧ a ≠ b ∧ p = nI a ∧ q = nI b
def fl_Rm (p : Int32) : Prop := 0 ≤ p.toInt ∧ p.toInt ≤ 99
def fl_Pt (p : Int32) : Prop := ∃ a : Nat, a < 8 ∧ p = nI a
theorem fl_Pt_lo {p : Int32} (h : p < 0) : ¬ fl_Pt p := fun ⟨a, ha, e⟩ => nI_pos (n := a) (by omega) (e ▸ h)
theorem fl_Pt_hi {p : Int32} (h : nI 8 ≤ p) : ¬ fl_Pt p := fun ⟨a, ha, e⟩ => nI_ge (a := a) (b := 8) ha (by decide) (e ▸ h)
theorem xw_point {post : Int32 → Prop} {u : SX} {p : Int32} (h1 : fl_Pt p → post 1) (h0 : ¬ fl_Pt p → post 0) : wpX_isPoint post u p := by
  unfold wpX_isPoint
  rcases pk_ix p (n := 8) (by omega) with h | h | ⟨j, hj, rfl⟩
  · exact br_t h (h0 (fl_Pt_lo h))
  · exact br_c (fun _ => h0 (fl_Pt_hi h)) (fun _ => br_t h (h0 (fl_Pt_hi h)))
  · exact br_f (nI_pos (by omega)) (br_f (nI_ge (b := 8) hj (by decide)) (h1 ⟨j, hj, rfl⟩))
theorem xw_ends {post : Int32 → Prop} {u : SX} {p q : Int32} (h1 : fl_Two p q → post 1) (h0 : ¬ fl_Two p q → post 0) : wpX_areEnds post u p q := by
  unfold wpX_areEnds
  refine xw_point (fun hp => br_f (by decide) (xw_point (fun hq => br_f (by decide) ?_) (fun hq => br_t rfl (h0 ?_)))) (fun hp => br_t rfl (h0 ?_))
  · refine br_c (fun e => h0 ?_) (fun e => h1 ?_)
    · rintro ⟨a, b, ha, hb, hab, ea, eb⟩
      rw [ea, eb, nI_eq (by omega) (by omega)] at e; exact hab e
    · obtain ⟨a, ha, ea⟩ := hp
      obtain ⟨b, hb, eb⟩ := hq
      exact ⟨a, b, ha, hb, fun z => e (by rw [ea, eb, z]), ea, eb⟩
  · rintro ⟨a, b, ha, hb, hab, ea, eb⟩; exact hq ⟨b, hb, eb⟩
  · rintro ⟨a, b, ha, hb, hab, ea, eb⟩; exact hp ⟨a, ha, ea⟩
theorem xw_room {post : Int32 → Prop} {u : SX} {p : Int32} (h1 : fl_Rm p → post 1) (h0 : ¬ fl_Rm p → post 0) : wpX_isRoom post u p := by
  unfold wpX_isRoom
  refine fl_cl (fun h => h0 ?_) (fun h => fl_cl (fun h2 => h0 ?_) (fun h2 => h1 ?_))
  · rw [fl_z0] at h; intro z; have := z.1; omega
  · rw [show (99 : Int32).toInt = 99 by decide] at h2; intro z; have := z.2; omega
  · rw [fl_z0] at h
    rw [show (99 : Int32).toInt = 99 by decide] at h2
    exact ⟨by omega, by omega⟩
theorem xw_holds {post : Int32 → Prop} {u : SX} {x : Int32} {j : Nat} (hj : j < 32) (h1 : bt x j = true → post 1) (h0 : bt x j = false → post 0) : wpX_holds post u x (nI j) := by
  unfold wpX_holds
  refine br_c (fun h => h1 ((fl_bit hj).1.mp h)) (fun h => h0 ?_)
  cases e : bt x j
  · rfl
  · exact absurd ((fl_bit hj).1.mpr e) h
def fl_Arc (pr p : Int32) : Prop := ∃ k : Nat, k < 20 ∧ p = nI k ∧ bt pr k = true
theorem xw_isArc {post : Int32 → Prop} {f_present f_leastSize f_inEvery f_inSome f_cutByEvery f_cutBySome : Int32} {a_start a_end a_rooms a_left a_from a_line a_level a_width a_done a_height a_excess : Nat → Int32} {p : Int32} (h1 : fl_Arc f_present p → post 1) (h0 : ¬ fl_Arc f_present p → post 0) : wpX_isArc post (f_present, f_leastSize, f_inEvery, f_inSome, f_cutByEvery, f_cutBySome, a_start, a_end, a_rooms, a_left, a_from, a_line, a_level, a_width, a_done, a_height, a_excess) p := by
  show (p < 0 → post 0) ∧ (¬ p < 0 → _)
  rcases pk_ix p (n := 20) (by omega) with h | h | ⟨j, hj, rfl⟩
  · exact br_t h (h0 (fun ⟨k, hk, e, _⟩ => nI_pos (n := k) (by omega) (e ▸ h)))
  · have hn : ¬ fl_Arc f_present p := fun ⟨k, hk, e, _⟩ => nI_ge (a := k) (b := 20) hk (by decide) (e ▸ h)
    exact br_c (fun _ => h0 hn) (fun _ => br_t h (h0 hn))
  · refine br_f (nI_pos (by omega)) (br_f (nI_ge (b := 20) hj (by decide)) (xw_holds (by omega) (fun hb => br_f (by decide) (h1 ⟨j, hj, rfl, hb⟩)) (fun hb => br_t rfl (h0 ?_))))
    rintro ⟨k, hk, e, hb2⟩
    rw [nI_eq (by omega) (by omega)] at e
    subst e
    rw [hb] at hb2; cases hb2
theorem xw_lesser {post : Int32 → Prop} {u : SX} {p q : Int32} (h : ∀ r : Int32, (r = p ∨ r = q) → r.toInt ≤ p.toInt → r.toInt ≤ q.toInt → post r) : wpX_lesser post u p q := by
  unfold wpX_lesser
  refine fl_cle (fun e => h q (Or.inr rfl) e (Int.le_refl _)) (fun e => h p (Or.inl rfl) (Int.le_refl _) (by omega))
theorem xw_move {post : SX → Prop} {f_present f_leastSize f_inEvery f_inSome f_cutByEvery f_cutBySome : Int32} {a_start a_end a_rooms a_left a_from a_line a_level a_width a_done a_height a_excess : Nat → Int32} {u v : Nat} {a : Int32} (hu : u < 16) (hv : v < 16) (h0 : 0 ≤ a.toInt) (h1 : a.toInt ≤ 100000) (hok : fl_ok (fl_v a_left))
    (h : ∀ l, fl_v l = fl_mv (fl_v a_left) u v a.toInt → post (f_present, f_leastSize, f_inEvery, f_inSome, f_cutByEvery, f_cutBySome, a_start, a_end, a_rooms, l, a_from, a_line, a_level, a_width, a_done, a_height, a_excess)) : wpX_move post (f_present, f_leastSize, f_inEvery, f_inSome, f_cutByEvery, f_cutBySome, a_start, a_end, a_rooms, a_left, a_from, a_line, a_level, a_width, a_done, a_height, a_excess) (nI u) (nI v) a := by
  show vp_in _ 256 ∧ _
  have i1 := fl_ixi hu hv
  have i2 := fl_ixi hv hu
  refine ⟨i1, i1, nm_e ⟨i2, i2, nm_e (h _ ?_)⟩⟩
  rw [fl_ixc hu hv, fl_ixc hv hu]
  have b1 := fl_ok_le hok hu hv
  have b2 := fl_ok_le hok hv hu
  have b1' : 0 ≤ (a_left (u * 16 + v)).toInt ∧ (a_left (u * 16 + v)).toInt ≤ 4000 := b1
  have b2' : 0 ≤ (a_left (v * 16 + u)).toInt ∧ (a_left (v * 16 + u)).toInt ≤ 4000 := b2
  have e1 : (a_left (u * 16 + v) - a).toInt = fl_v a_left (u * 16 + v) - a.toInt := fl_tsub (by omega) (by omega)
  have e2 : fl_v (upd a_left (u * 16 + v) (a_left (u * 16 + v) - a)) = fl_pu (fl_v a_left) (u * 16 + v) (fl_v a_left (u * 16 + v) - a.toInt) := by
    rw [fl_vu, e1]
  have e3 : (upd a_left (u * 16 + v) (a_left (u * 16 + v) - a) (v * 16 + u)).toInt = fl_pu (fl_v a_left) (u * 16 + v) (fl_v a_left (u * 16 + v) - a.toInt) (v * 16 + u) := congrFun e2 (v * 16 + u)
  have b3 : -100000 ≤ fl_pu (fl_v a_left) (u * 16 + v) (fl_v a_left (u * 16 + v) - a.toInt) (v * 16 + u) ∧ fl_pu (fl_v a_left) (u * 16 + v) (fl_v a_left (u * 16 + v) - a.toInt) (v * 16 + u) ≤ 4000 := by
    by_cases e : v * 16 + u = u * 16 + v
    · rw [e, fl_pus]; omega
    · rw [fl_pun e]; omega
  rw [fl_vu, fl_tadd (by rw [e3]; omega) (by rw [e3]; omega), e3, e2]
  rfl
