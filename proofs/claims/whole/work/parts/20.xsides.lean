/-- the set of those k below n for which f holds -/
def fl_cm (f : Nat → Bool) : Nat → Int32
  | 0 => 0
  | n + 1 => if f n = true then fl_cm f n ||| ((1 : Int32) <<< (nI n &&& 31)) else fl_cm f n
theorem fl_cm_b (f : Nat → Bool) : ∀ n, n ≤ 32 → ∀ b, b < 32 → bt (fl_cm f n) b = (decide (b < n) && f b) := by
  intro n
  induction n with
  | zero => intro _ b _; rw [show fl_cm f 0 = 0 from rfl, b_0]; simp
  | succ n ih =>
    intro hn b hb
    have h1 := ih (by omega) b hb
    show bt (if f n = true then fl_cm f n ||| ((1 : Int32) <<< (nI n &&& 31)) else fl_cm f n) b = _
    by_cases hf : f n = true
    · rw [if_pos hf, b_or, h1, fl_sh1 (by omega) hb]
      by_cases e : b = n
      · subst e; simp [hf]
      · by_cases e2 : b < n
        · simp [e2, e]; omega
        · have e3 : ¬ b < n + 1 := by omega
          simp [e2, e, e3]
    · rw [if_neg hf, h1]
      by_cases e : b = n
      · subst e
        have hf' : f b = false := by simpa using hf
        simp [hf']
      · by_cases e2 : b < n
        · have e3 : b < n + 1 := by omega
          simp [e2, e3]
        · have e3 : ¬ b < n + 1 := by omega
          simp [e2, e3]
/-- the arcs from a point in outs to one not in ins -/
def fl_cf (pr : Int32) (st en : Nat → Int32) (S T : Nat → Bool) : Nat → Bool := fun k => bt pr k && (S (fl_st st k) && !T (fl_st en k))
def fl_tb (j : Nat) : Nat → Bool := fun p => j.testBit p
def fl_ct (pr : Int32) (st en : Nat → Int32) (j : Nat) : Int32 := fl_cm (fl_cf pr st en (fl_tb j) (fl_tb j)) 20
theorem fl_ct_b {pr : Int32} {st en : Nat → Int32} {j b : Nat} (hb : b < 20) : bt (fl_ct pr st en j) b = fl_cf pr st en (fl_tb j) (fl_tb j) b := by
  unfold fl_ct
  rw [fl_cm_b _ 20 (by omega) b (by omega)]; simp [hb]
theorem fl_sz_eq {pr : Int32} {st en rm : Nat → Int32} {j : Nat} (hN : fl_Net pr st en rm) : fl_S 20 (fun k => if bt (fl_ct pr st en j) k = true then fl_v rm k else 0) = fl_Cs pr st en rm 0 99 (fl_tb j) := by
  refine fl_congr (fun k hk => ?_)
  show (if bt (fl_ct pr st en j) k = true then fl_v rm k else 0) = (if (bt pr k && (fl_tb j (fl_st st k + 0) && !fl_tb j (fl_st en k))) = true then (if fl_v rm k < 99 then fl_v rm k else 99) else 0)
  rw [fl_ct_b hk, Nat.add_zero]
  show (if (bt pr k && (fl_tb j (fl_st st k) && !fl_tb j (fl_st en k))) = true then fl_v rm k else 0) = _
  by_cases e : (bt pr k && (fl_tb j (fl_st st k) && !fl_tb j (fl_st en k))) = true
  · rw [if_pos e, if_pos e]
    rw [Bool.and_eq_true] at e
    have := (hN k hk e.1).2.2.2
    split <;> omega
  · rw [if_neg e, if_neg e]
theorem fl_cn_eq {pr : Int32} {st en rm : Nat → Int32} {j : Nat} (hN : fl_Net pr st en rm) : fl_S 20 (fun k => if bt (fl_ct pr st en j) k = true then (if fl_v rm k ≤ 0 then 0 else 1) else 0) = fl_Cs pr st en rm 0 1 (fl_tb j) := by
  refine fl_congr (fun k hk => ?_)
  show (if bt (fl_ct pr st en j) k = true then (if fl_v rm k ≤ 0 then 0 else 1) else 0) = (if (bt pr k && (fl_tb j (fl_st st k + 0) && !fl_tb j (fl_st en k))) = true then (if fl_v rm k < 1 then fl_v rm k else 1) else 0)
  rw [fl_ct_b hk, Nat.add_zero]
  show (if (bt pr k && (fl_tb j (fl_st st k) && !fl_tb j (fl_st en k))) = true then (if fl_v rm k ≤ 0 then 0 else 1) else 0) = _
  by_cases e : (bt pr k && (fl_tb j (fl_st st k) && !fl_tb j (fl_st en k))) = true
  · rw [if_pos e, if_pos e]
    rw [Bool.and_eq_true] at e
    have := (hN k hk e.1).2.2.1
    split <;> split <;> omega
  · rw [if_neg e, if_neg e]
theorem fl_Cs_b {pr : Int32} {st en rm : Nat → Int32} {most : Int} {ext : Nat} (hN : fl_Net pr st en rm) (hm : 0 ≤ most) (S : Nat → Bool) : 0 ≤ fl_Cs pr st en rm ext most S ∧ fl_Cs pr st en rm ext most S ≤ 1980 :=
  fl_cs_le S (fun k hk hb => (hN k hk hb).2.2) hm
theorem xw_isSide {post : Int32 → Prop} {u : SX} {j a b : Nat} (ha : a < 32) (hb : b < 32) (h1 : fl_tb j a = true → fl_tb j b = false → post 1) (h0 : ¬ (fl_tb j a = true ∧ fl_tb j b = false) → post 0) : wpX_isSide post u (nI j) (nI a) (nI b) := by
  obtain ⟨u1, u2, u3, u4, u5, u6, u7, u8, u9, u10, u11, u12, u13, u14, u15, u16, u17⟩ := u
  unfold wpX_isSide
  refine xw_holds ha (fun h2 => br_f (by decide) (xw_holds hb (fun h3 => br_f (by decide) (h0 ?_)) (fun h3 => br_t rfl (h1 ?_ ?_)))) (fun h2 => br_t rfl (h0 ?_))
  · rw [fl_bt hb] at h3
    intro z
    have z2 : j.testBit b = false := z.2
    rw [h3] at z2; cases z2
  · rw [fl_bt ha] at h2; exact h2
  · rw [fl_bt hb] at h3; exact h3
  · rw [fl_bt ha] at h2
    intro z
    have z2 : j.testBit a = true := z.1
    rw [h2] at z2; cases z2
theorem xw_cut_l {post : Int32 → Prop} {f_present f_leastSize f_inEvery f_inSome f_cutByEvery f_cutBySome : Int32} {a_start a_end a_rooms a_left a_from a_line a_level a_width a_done a_height a_excess : Nat → Int32} {j : Nat} (hN : fl_Net f_present a_start a_end a_rooms) (h : post (fl_ct f_present a_start a_end j)) :
    ∀ (d k : Nat), k + d = 20 → wX_arcsCutBy_4 post (nI j) f_present f_leastSize f_inEvery f_inSome f_cutByEvery f_cutBySome a_start a_end a_rooms a_left a_from a_line a_level a_width a_done a_height a_excess (d + 1) (fl_cm (fl_cf f_present a_start a_end (fl_tb j) (fl_tb j)) k) (nI k) := by
  intro d
  induction d with
  | zero =>
    intro k hk
    have e : k = 20 := by omega
    subst e
    exact br_t (nI_le (a := 20) (b := 20) (by omega) (by decide)) h
  | succ d ih =>
    intro k hk
    have e0 : fl_cf f_present a_start a_end (fl_tb j) (fl_tb j) k = (bt f_present k && (fl_tb j (fl_st a_start k) && !fl_tb j (fl_st a_end k))) := rfl
    have en : fl_cf f_present a_start a_end (fl_tb j) (fl_tb j) k = false → fl_cm (fl_cf f_present a_start a_end (fl_tb j) (fl_tb j)) (k + 1) = fl_cm (fl_cf f_present a_start a_end (fl_tb j) (fl_tb j)) k := fun z => if_neg (by rw [z]; decide)
    have ey : fl_cf f_present a_start a_end (fl_tb j) (fl_tb j) k = true → fl_cm (fl_cf f_present a_start a_end (fl_tb j) (fl_tb j)) (k + 1) = fl_cm (fl_cf f_present a_start a_end (fl_tb j) (fl_tb j)) k ||| ((1 : Int32) <<< (nI k &&& 31)) := fun z => if_pos z
    have ihk := ih (k + 1) (by omega)
    refine br_f (nI_ge (b := 20) (by omega) (by decide)) (xw_holds (by omega) (fun hb => br_f (by decide) ⟨vp_in_nI (by omega) (by decide), vp_in_nI (by omega) (by decide), ?_⟩) (fun hb => br_t rfl (nm_r (nI_1 k) ?_)))
    · obtain ⟨⟨s1, s2⟩, ⟨e1, e2⟩, _⟩ := hN k (by omega) hb
      rw [nI_clamp (show k < 2 ^ 31 by omega), s1, e1]
      refine xw_isSide (by omega) (by omega) (fun h1 h2 => br_f (by decide) (nm_e (nm_r (nI_1 k) ?_))) (fun h1 => br_t rfl (nm_r (nI_1 k) ?_))
      · rw [← ey (by rw [e0, hb, h1, h2]; rfl)]; exact ihk
      · rw [en ?_] at ihk
        · exact ihk
        · rw [e0, hb]
          cases c1 : fl_tb j (fl_st a_start k)
          · rfl
          · cases c2 : fl_tb j (fl_st a_end k)
            · exact absurd ⟨c1, c2⟩ h1
            · rfl
    · rw [en (by rw [e0, hb]; rfl)] at ihk
      exact ihk
theorem xw_cut {post : Int32 → Prop} {f_present f_leastSize f_inEvery f_inSome f_cutByEvery f_cutBySome : Int32} {a_start a_end a_rooms a_left a_from a_line a_level a_width a_done a_height a_excess : Nat → Int32} {j : Nat} (hN : fl_Net f_present a_start a_end a_rooms) (h : post (fl_ct f_present a_start a_end j)) : wpX_arcsCutBy post (f_present, f_leastSize, f_inEvery, f_inSome, f_cutByEvery, f_cutBySome, a_start, a_end, a_rooms, a_left, a_from, a_line, a_level, a_width, a_done, a_height, a_excess) (nI j) :=
  ⟨20 + 1, xw_cut_l hN h 20 0 rfl⟩
theorem xw_roomOf_l {post : Int32 → Prop} {f_present f_leastSize f_inEvery f_inSome f_cutByEvery f_cutBySome : Int32} {a_start a_end a_rooms a_left a_from a_line a_level a_width a_done a_height a_excess : Nat → Int32} {j : Nat} (hN : fl_Net f_present a_start a_end a_rooms) (h : ∀ x : Int32, x.toInt = fl_Cs f_present a_start a_end a_rooms 0 99 (fl_tb j) → post x) :
    ∀ (d k : Nat) (x : Int32), k + d = 20 → 0 ≤ x.toInt → x.toInt ≤ 99 * (k : Int) → x.toInt = fl_S k (fun k => if bt (fl_ct f_present a_start a_end j) k = true then fl_v a_rooms k else 0) → wX_roomOf_4 post (fl_ct f_present a_start a_end j) f_present f_leastSize f_inEvery f_inSome f_cutByEvery f_cutBySome a_start a_end a_rooms a_left a_from a_line a_level a_width a_done a_height a_excess (d + 1) x (nI k) := by
  intro d
  induction d with
  | zero =>
    intro k x hk h0 h1 hx
    have e : k = 20 := by omega
    subst e
    exact br_t (nI_le (a := 20) (b := 20) (by omega) (by decide)) (h x (by rw [hx]; exact fl_sz_eq hN))
  | succ d ih =>
    intro k x hk h0 h1 hx
    refine br_f (nI_ge (b := 20) (by omega) (by decide)) (xw_holds (by omega) (fun hb => br_f (by decide) ⟨vp_in_nI (by omega) (by decide), nm_e (nm_r (nI_1 k) (ih (k + 1) _ (by omega) ?_ ?_ ?_))⟩) (fun hb => br_t rfl (nm_r (nI_1 k) (ih (k + 1) x (by omega) h0 (by omega) ?_))))
    all_goals (try rw [nI_clamp (show k < 2 ^ 31 by omega)])
    all_goals (try (have hb2 := hb; rw [fl_ct_b (by omega)] at hb2))
    · have hb3 : (bt f_present k && (fl_tb j (fl_st a_start k) && !fl_tb j (fl_st a_end k))) = true := hb2
      rw [Bool.and_eq_true] at hb3
      have hr := (hN k (by omega) hb3.1).2.2
      have hr' : 0 ≤ (a_rooms k).toInt ∧ (a_rooms k).toInt ≤ 99 := hr
      rw [fl_tadd (by omega) (by omega)]; omega
    · have hb3 : (bt f_present k && (fl_tb j (fl_st a_start k) && !fl_tb j (fl_st a_end k))) = true := hb2
      rw [Bool.and_eq_true] at hb3
      have hr := (hN k (by omega) hb3.1).2.2
      have hr' : 0 ≤ (a_rooms k).toInt ∧ (a_rooms k).toInt ≤ 99 := hr
      rw [fl_tadd (by omega) (by omega)]; omega
    · have hb3 : (bt f_present k && (fl_tb j (fl_st a_start k) && !fl_tb j (fl_st a_end k))) = true := hb2
      rw [Bool.and_eq_true] at hb3
      have hr := (hN k (by omega) hb3.1).2.2
      have hr' : 0 ≤ (a_rooms k).toInt ∧ (a_rooms k).toInt ≤ 99 := hr
      rw [fl_tadd (by omega) (by omega), fl_Ss, if_pos hb, hx]; rfl
    · rw [fl_Ss, if_neg (by rw [hb]; decide), hx]; omega
theorem xw_roomOf {post : Int32 → Prop} {f_present f_leastSize f_inEvery f_inSome f_cutByEvery f_cutBySome : Int32} {a_start a_end a_rooms a_left a_from a_line a_level a_width a_done a_height a_excess : Nat → Int32} {j : Nat} (hN : fl_Net f_present a_start a_end a_rooms) (h : ∀ x : Int32, x.toInt = fl_Cs f_present a_start a_end a_rooms 0 99 (fl_tb j) → post x) : wpX_roomOf post (f_present, f_leastSize, f_inEvery, f_inSome, f_cutByEvery, f_cutBySome, a_start, a_end, a_rooms, a_left, a_from, a_line, a_level, a_width, a_done, a_height, a_excess) (fl_ct f_present a_start a_end j) :=
  ⟨20 + 1, xw_roomOf_l hN h 20 0 0 rfl (by decide) (by decide) (by rw [fl_z0]; rfl)⟩
theorem xw_among_l {post : Int32 → Prop} {f_present f_leastSize f_inEvery f_inSome f_cutByEvery f_cutBySome : Int32} {a_start a_end a_rooms a_left a_from a_line a_level a_width a_done a_height a_excess : Nat → Int32} {j : Nat} (hN : fl_Net f_present a_start a_end a_rooms) (h : ∀ x : Int32, x.toInt = fl_Cs f_present a_start a_end a_rooms 0 1 (fl_tb j) → post x) :
    ∀ (d k : Nat) (x : Int32), k + d = 20 → 0 ≤ x.toInt → x.toInt ≤ (k : Int) → x.toInt = fl_S k (fun k => if bt (fl_ct f_present a_start a_end j) k = true then (if fl_v a_rooms k ≤ 0 then 0 else 1) else 0) → wX_openAmong_4 post (fl_ct f_present a_start a_end j) f_present f_leastSize f_inEvery f_inSome f_cutByEvery f_cutBySome a_start a_end a_rooms a_left a_from a_line a_level a_width a_done a_height a_excess (d + 1) x (nI k) := by
  intro d
  induction d with
  | zero =>
    intro k x hk h0 h1 hx
    have e : k = 20 := by omega
    subst e
    exact br_t (nI_le (a := 20) (b := 20) (by omega) (by decide)) (h x (by rw [hx]; exact fl_cn_eq hN))
  | succ d ih =>
    intro k x hk h0 h1 hx
    refine br_f (nI_ge (b := 20) (by omega) (by decide)) (xw_holds (by omega) (fun hb => br_f (by decide) ⟨vp_in_nI (by omega) (by decide), ?_⟩) (fun hb => br_t rfl (nm_r (nI_1 k) (ih (k + 1) x (by omega) h0 (by omega) ?_))))
    · rw [nI_clamp (show k < 2 ^ 31 by omega)]
      refine fl_cle (fun hl => nm_r (nI_1 k) (ih (k + 1) x (by omega) h0 (by omega) ?_)) (fun hl => nm_e (nm_r (nI_1 k) (ih (k + 1) _ (by omega) ?_ ?_ ?_)))
      · have hl2 : fl_v a_rooms k ≤ 0 := hl
        rw [fl_Ss, if_pos hb, if_pos hl2, hx]; omega
      · rw [fl_tadd (by rw [fl_one1]; omega) (by rw [fl_one1]; omega), fl_one1]; omega
      · rw [fl_tadd (by rw [fl_one1]; omega) (by rw [fl_one1]; omega), fl_one1]; omega
      · have hl2 : ¬ fl_v a_rooms k ≤ 0 := hl
        rw [fl_tadd (by rw [fl_one1]; omega) (by rw [fl_one1]; omega), fl_one1, fl_Ss, if_pos hb, if_neg hl2, hx]
    · rw [fl_Ss, if_neg (by rw [hb]; decide), hx]; omega
theorem xw_among {post : Int32 → Prop} {f_present f_leastSize f_inEvery f_inSome f_cutByEvery f_cutBySome : Int32} {a_start a_end a_rooms a_left a_from a_line a_level a_width a_done a_height a_excess : Nat → Int32} {j : Nat} (hN : fl_Net f_present a_start a_end a_rooms) (h : ∀ x : Int32, x.toInt = fl_Cs f_present a_start a_end a_rooms 0 1 (fl_tb j) → post x) : wpX_openAmong post (f_present, f_leastSize, f_inEvery, f_inSome, f_cutByEvery, f_cutBySome, a_start, a_end, a_rooms, a_left, a_from, a_line, a_level, a_width, a_done, a_height, a_excess) (fl_ct f_present a_start a_end j) :=
  ⟨20 + 1, xw_among_l hN h 20 0 0 rfl (by decide) (by decide) (by rw [fl_z0]; rfl)⟩
