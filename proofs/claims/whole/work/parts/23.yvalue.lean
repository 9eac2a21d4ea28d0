theorem fl_255 : ∀ i, i < 256 → (255 : Int32) &&& nI i = nI i := by decide +kernel
theorem fl_or0 (x : Int32) : (0 : Int32) ||| x = x := b_ext (fun b hb => by rw [b_or, b_0, Bool.false_or])
theorem fl_andm (x : Int32) : (-1 : Int32) &&& x = x := b_ext (fun b hb => by rw [b_and, b_m1 b hb, Bool.true_and])
theorem fl_ct_y {pr : Int32} {st en rm : Nat → Int32} {i : Nat} (hN : fl_Net pr st en rm) : fl_cm (fl_cf pr st en (bt (nI i)) (bt (nI i))) 20 = fl_ct pr st en i :=
  fl_cm_congr 20 (fun k hk => fl_cf_congr hN (fun p hp => fl_bt (by omega)) (fun p hp => fl_bt (by omega)) hk)
theorem fl_sz_y {pr : Int32} {st en rm : Nat → Int32} {i : Nat} {most : Int} (hN : fl_Net pr st en rm) : fl_Cg pr st en rm most (bt (nI i)) (bt (nI i)) = fl_sz pr st en rm most i :=
  fl_Cg_congr hN (fun p hp => fl_bt (by omega)) (fun p hp => fl_bt (by omega))
theorem yw_gather_l {post : SY → Prop} {f_size f_common f_joined f_cutBySome f_cutByAll : Int32} {a_there a_froms a_tos a_rooms : Nat → Int32} {pr o : Int32} (hT : fl_Th pr a_there) (hN : fl_Net pr a_froms a_tos a_rooms)
    (h : post (f_size, f_common &&& o, f_joined ||| o, f_cutBySome ||| fl_cm (fl_cf pr a_froms a_tos (bt o) (bt o)) 20, f_cutByAll &&& fl_cm (fl_cf pr a_froms a_tos (bt o) (bt o)) 20, a_there, a_froms, a_tos, a_rooms)) :
    ∀ (d k : Nat), k + d = 20 → wY_gather_4 post o f_size f_common f_joined f_cutBySome f_cutByAll a_there a_froms a_tos a_rooms (d + 1) (fl_cm (fl_cf pr a_froms a_tos (bt o) (bt o)) k) (nI k) := by
  intro d
  induction d with
  | zero =>
    intro k hk
    have e : k = 20 := by omega
    subst e
    exact br_t (nI_le (a := 20) (b := 20) (by omega) (by decide)) (nm_e (nm_e (nm_e (nm_e h))))
  | succ d ih =>
    intro k hk
    have ihk := ih (k + 1) (by omega)
    refine br_f (nI_ge (b := 20) (by omega) (by decide)) (yw_cuts hT hN (by omega) (fun hc => br_f (by decide) (nm_e (nm_r (nI_1 k) ?_))) (fun hc => br_t rfl (nm_r (nI_1 k) ?_)))
    · have e : fl_cm (fl_cf pr a_froms a_tos (bt o) (bt o)) (k + 1) = fl_cm (fl_cf pr a_froms a_tos (bt o) (bt o)) k ||| ((1 : Int32) <<< (nI k &&& 31)) := if_pos hc
      rw [← e]; exact ihk
    · have e : fl_cm (fl_cf pr a_froms a_tos (bt o) (bt o)) (k + 1) = fl_cm (fl_cf pr a_froms a_tos (bt o) (bt o)) k := if_neg (by rw [hc]; decide)
      rw [e] at ihk; exact ihk
theorem yw_gather {post : SY → Prop} {f_size f_common f_joined f_cutBySome f_cutByAll : Int32} {a_there a_froms a_tos a_rooms : Nat → Int32} {pr : Int32} {i : Nat} (hT : fl_Th pr a_there) (hN : fl_Net pr a_froms a_tos a_rooms)
    (h : post (f_size, f_common &&& nI i, f_joined ||| nI i, f_cutBySome ||| fl_ct pr a_froms a_tos i, f_cutByAll &&& fl_ct pr a_froms a_tos i, a_there, a_froms, a_tos, a_rooms)) : wpY_gather post (f_size, f_common, f_joined, f_cutBySome, f_cutByAll, a_there, a_froms, a_tos, a_rooms) (nI i) :=
  ⟨20 + 1, yw_gather_l hT hN (by rw [fl_ct_y hN]; exact h) 20 0 rfl⟩
theorem yw_search_l {post : SY → Prop} {a_there a_froms a_tos a_rooms : Nat → Int32} {pr b : Int32} {s t : Nat} {most : Int} (hs : s < 32) (ht : t < 32) (hm : 0 ≤ most) (hT : fl_Th pr a_there) (hN : fl_Net pr a_froms a_tos a_rooms) (hb : (b = 0 ∧ most = 99) ∨ (¬ b = 0 ∧ most = 1))
    (h : ∀ (m ev so ce cs : Int32), fl_Stu 10000 (fl_Sj s t) (fl_sz pr a_froms a_tos a_rooms most) (fl_ct pr a_froms a_tos) 256 m.toInt ev so ce cs → post (m, ev, so, cs, ce, a_there, a_froms, a_tos, a_rooms)) :
    ∀ (d i : Nat) (m ev so ce cs : Int32), i + d = 256 → fl_Stu 10000 (fl_Sj s t) (fl_sz pr a_froms a_tos a_rooms most) (fl_ct pr a_froms a_tos) i m.toInt ev so ce cs → wY_search_10 post (nI s) (nI t) b (d + 1) (nI i) m ev so cs ce a_there a_froms a_tos a_rooms := by
  intro d
  induction d with
  | zero =>
    intro i m ev so ce cs hi hS
    have e : i = 256 := by omega
    subst e
    exact br_t (nI_le (a := 256) (b := 256) (by omega) (by decide)) (h m ev so ce cs hS)
  | succ d ih =>
    intro i m ev so ce cs hi hS
    have B := fl_Cg_b (O := bt (nI i)) (I := bt (nI i)) hN hm
    rw [fl_sz_y hN] at B
    refine br_f (nI_ge (b := 256) (by omega) (by decide)) (br_c (fun h1 => br_c (fun h2 => ?_) (fun h2 => nm_r (nI_1 i) (ih (i + 1) m ev so ce cs (by omega) (fl_Stu1 hS ?_)))) (fun h1 => nm_r (nI_1 i) (ih (i + 1) m ev so ce cs (by omega) (fl_Stu1 hS ?_))))
    · have hd : fl_Sj s t i := ⟨by show i.testBit s = true; rw [← fl_bt (n := i) hs]; exact (fl_bit hs).1.mp h1, by show i.testBit t = false; rw [← fl_bt (n := i) ht]; exact (fl_bit ht).2.mp h2⟩
      refine yw_size hT hN hb (fun x hx => ?_)
      rw [fl_sz_y hN] at hx
      refine fl_cle (fun hl => ?_) (fun hl => ?_)
      · refine fl_ce (fun he => yw_gather hT hN (nm_r (nI_1 i) (ih (i + 1) m _ _ _ _ (by omega) (fl_Stu3 hS hd (by omega) (by omega))))) (fun he => nm_r (nI_1 i) (ih (i + 1) m ev so ce cs (by omega) (fl_Stu4 hS (by omega) (by omega))))
      · refine br_t rfl (yw_gather hT hN (nm_r (nI_1 i) ?_))
        rw [fl_255 i (by omega), fl_or0, fl_or0, fl_andm]
        refine ih (i + 1) x _ _ _ _ (by omega) ?_
        rw [hx]
        exact fl_Stu2 hS hd (by omega)
    · intro z
      have z2 : i.testBit t = false := z.2
      rw [← fl_bt (n := i) ht] at z2
      exact h2 ((fl_bit ht).2.mpr z2)
    · intro z
      have z2 : i.testBit s = true := z.1
      rw [← fl_bt (n := i) hs] at z2
      exact h1 ((fl_bit hs).1.mpr z2)
theorem yw_search {post : SY → Prop} {f_size f_common f_joined f_cutBySome f_cutByAll : Int32} {a_there a_froms a_tos a_rooms : Nat → Int32} {pr b : Int32} {s t : Nat} {most : Int} (hs : s < 32) (ht : t < 32) (hm : 0 ≤ most) (hT : fl_Th pr a_there) (hN : fl_Net pr a_froms a_tos a_rooms) (hb : (b = 0 ∧ most = 99) ∨ (¬ b = 0 ∧ most = 1))
    (h : ∀ (m ev so ce cs : Int32), fl_Stu 10000 (fl_Sj s t) (fl_sz pr a_froms a_tos a_rooms most) (fl_ct pr a_froms a_tos) 256 m.toInt ev so ce cs → post (m, ev, so, cs, ce, a_there, a_froms, a_tos, a_rooms)) : wpY_search post (f_size, f_common, f_joined, f_cutBySome, f_cutByAll, a_there, a_froms, a_tos, a_rooms) (nI s) (nI t) b :=
  ⟨256 + 1, yw_search_l hs ht hm hT hN hb h 256 0 10000 f_common f_joined f_cutByAll f_cutBySome rfl (by rw [show (10000 : Int32).toInt = 10000 by decide]; exact fl_Stu0)⟩
def fl_En (e : Int32) : Prop := 0 ≤ e.toInt ∧ e.toInt ≤ 6
theorem yw_engine {post : Int32 → Prop} {u : SY} {p : Int32} (h1 : fl_En p → post 1) (h0 : ¬ fl_En p → post 0) : wpY_engine post u p := by
  unfold wpY_engine
  refine fl_cl (fun h => h0 ?_) (fun h => fl_cl (fun h2 => h0 ?_) (fun h2 => h1 ?_))
  · rw [fl_z0] at h; intro z; have := z.1; omega
  · rw [show (6 : Int32).toInt = 6 by decide] at h2; intro z; have := z.2; omega
  · rw [fl_z0] at h
    rw [show (6 : Int32).toInt = 6 by decide] at h2
    exact ⟨by omega, by omega⟩
theorem yw_value {post : Int32 → SY → Prop} {f_size f_common f_joined f_cutBySome f_cutByAll : Int32} {a_there a_froms a_tos a_rooms : Nat → Int32} {pr eng p q : Int32} (hT : fl_Th pr a_there) (hN : fl_Net pr a_froms a_tos a_rooms)
    (hP : ∀ s t, s < 8 → t < 8 → s ≠ t → p = nI s → q = nI t → fl_En eng → ∀ (m ev so ce cs : Int32), fl_Stu 10000 (fl_Sj s t) (fl_sz pr a_froms a_tos a_rooms 99) (fl_ct pr a_froms a_tos) 256 m.toInt ev so ce cs → post m (m, ev, so, cs, ce, a_there, a_froms, a_tos, a_rooms))
    (h0 : ¬ (fl_Two p q ∧ fl_En eng) → post (-1) (f_size, f_common, f_joined, f_cutBySome, f_cutByAll, a_there, a_froms, a_tos, a_rooms)) : wpY_value post (f_size, f_common, f_joined, f_cutBySome, f_cutByAll, a_there, a_froms, a_tos, a_rooms) eng p q := by
  unfold wpY_value
  refine yw_engine (fun he => br_f (by decide) (yw_two (fun h2 => br_f (by decide) ?_) (fun h2 => br_t rfl (h0 (fun z => h2 z.1))))) (fun he => br_t rfl (h0 (fun z => he z.2)))
  obtain ⟨s, t, hs, ht, hst, rfl, rfl⟩ := h2
  exact yw_search (by omega) (by omega) (by decide) hT hN (Or.inl ⟨rfl, rfl⟩) (hP s t hs ht hst rfl rfl he)
