/-- what is there, on the two sides -/
def fl_Th (pr : Int32) (th : Nat → Int32) : Prop := ∀ k, k < 20 → (th k = 0 ↔ bt pr k = false)
def fl_Cg (pr : Int32) (st en rm : Nat → Int32) (most : Int) (O I : Nat → Bool) : Int := fl_S 20 (fun k => if fl_cf pr st en O I k = true then (if fl_v rm k < most then fl_v rm k else most) else 0)
theorem fl_Cs_g {pr : Int32} {st en rm : Nat → Int32} {most : Int} {ext : Nat} {S : Nat → Bool} : fl_Cs pr st en rm ext most S = fl_Cg pr st en rm most (fun p => S (p + ext)) S := rfl
theorem fl_cf_congr {pr : Int32} {st en rm : Nat → Int32} {O I O' I' : Nat → Bool} (hN : fl_Net pr st en rm) (hO : ∀ p, p < 8 → O p = O' p) (hI : ∀ p, p < 8 → I p = I' p) {k : Nat} (hk : k < 20) : fl_cf pr st en O I k = fl_cf pr st en O' I' k := by
  unfold fl_cf
  cases hb : bt pr k
  · rfl
  · have h := hN k hk hb
    rw [hO _ h.1.2, hI _ h.2.1.2]
theorem fl_Cg_congr {pr : Int32} {st en rm : Nat → Int32} {most : Int} {O I O' I' : Nat → Bool} (hN : fl_Net pr st en rm) (hO : ∀ p, p < 8 → O p = O' p) (hI : ∀ p, p < 8 → I p = I' p) : fl_Cg pr st en rm most O I = fl_Cg pr st en rm most O' I' :=
  fl_congr (fun k hk => by
    show (if fl_cf pr st en O I k = true then (if fl_v rm k < most then fl_v rm k else most) else 0) = (if fl_cf pr st en O' I' k = true then (if fl_v rm k < most then fl_v rm k else most) else 0)
    rw [fl_cf_congr hN hO hI hk])
theorem fl_cm_congr {f g : Nat → Bool} : ∀ n, (∀ k, k < n → f k = g k) → fl_cm f n = fl_cm g n := by
  intro n
  induction n with
  | zero => intro _; rfl
  | succ n ih =>
    intro h
    show (if f n = true then fl_cm f n ||| ((1 : Int32) <<< (nI n &&& 31)) else fl_cm f n) = (if g n = true then fl_cm g n ||| ((1 : Int32) <<< (nI n &&& 31)) else fl_cm g n)
    rw [ih (fun k hk => h k (by omega)), h n (by omega)]
theorem fl_Cg_b {pr : Int32} {st en rm : Nat → Int32} {most : Int} {O I : Nat → Bool} (hN : fl_Net pr st en rm) (hm : 0 ≤ most) : 0 ≤ fl_Cg pr st en rm most O I ∧ fl_Cg pr st en rm most O I ≤ 1980 := by
  have key : ∀ j, j < 20 → 0 ≤ (if fl_cf pr st en O I j = true then (if fl_v rm j < most then fl_v rm j else most) else 0) ∧ (if fl_cf pr st en O I j = true then (if fl_v rm j < most then fl_v rm j else most) else 0) ≤ 99 := by
    intro j hj
    by_cases e : fl_cf pr st en O I j = true
    · rw [if_pos e]
      have e2 : (bt pr j && (O (fl_st st j) && !I (fl_st en j))) = true := e
      rw [Bool.and_eq_true] at e2
      have := (hN j hj e2.1).2.2
      split <;> omega
    · rw [if_neg e]; omega
  constructor
  · exact fl_nonneg (fun j hj => (key j hj).1)
  · have := fl_le (n := 20) (f := fun k => if fl_cf pr st en O I k = true then (if fl_v rm k < most then fl_v rm k else most) else 0) (g := fun _ => 99) (fun j hj => (key j hj).2)
    rw [fl_const] at this
    exact this
theorem yw_point {post : Int32 → Prop} {u : SY} {p : Int32} (h1 : fl_Pt p → post 1) (h0 : ¬ fl_Pt p → post 0) : wpY_point post u p := by
  unfold wpY_point
  rcases pk_ix p (n := 8) (by omega) with h | h | ⟨j, hj, rfl⟩
  · exact br_t h (h0 (fl_Pt_lo h))
  · refine br_c (fun _ => h0 (fl_Pt_hi h)) (fun _ => br_t ?_ (h0 (fl_Pt_hi h)))
    rw [Int32.lt_iff_toInt_lt]
    rw [Int32.le_iff_toInt_le, nI_toInt (by omega)] at h
    rw [show (7 : Int32).toInt = 7 by decide]
    omega
  · exact br_f (nI_pos (by omega)) (br_f (nI_nlt (a := 7) (by omega) (by decide)) (h1 ⟨j, hj, rfl⟩))
theorem yw_two {post : Int32 → Prop} {u : SY} {p q : Int32} (h1 : fl_Two p q → post 1) (h0 : ¬ fl_Two p q → post 0) : wpY_two post u p q := by
  unfold wpY_two
  refine yw_point (fun hp => br_f (by decide) (yw_point (fun hq => br_f (by decide) ?_) (fun hq => br_t rfl (h0 ?_)))) (fun hp => br_t rfl (h0 ?_))
  · refine br_c (fun e => h0 ?_) (fun e => h1 ?_)
    · rintro ⟨a, b, ha, hb, hab, ea, eb⟩
      rw [ea, eb, nI_eq (by omega) (by omega)] at e; exact hab e
    · obtain ⟨a, ha, ea⟩ := hp
      obtain ⟨b, hb, eb⟩ := hq
      exact ⟨a, b, ha, hb, fun z => e (by rw [ea, eb, z]), ea, eb⟩
  · rintro ⟨a, b, ha, hb, hab, ea, eb⟩; exact hq ⟨b, hb, eb⟩
  · rintro ⟨a, b, ha, hb, hab, ea, eb⟩; exact hp ⟨a, ha, ea⟩
theorem yw_amount {post : Int32 → Prop} {u : SY} {p : Int32} (h1 : fl_Rm p → post 1) (h0 : ¬ fl_Rm p → post 0) : wpY_amount post u p := by
  unfold wpY_amount
  refine fl_cl (fun h => h0 ?_) (fun h => fl_cl (fun h2 => h0 ?_) (fun h2 => h1 ?_))
  · rw [fl_z0] at h; intro z; have := z.1; omega
  · rw [show (99 : Int32).toInt = 99 by decide] at h2; intro z; have := z.2; omega
  · rw [fl_z0] at h
    rw [show (99 : Int32).toInt = 99 by decide] at h2
    exact ⟨by omega, by omega⟩
theorem yw_is {post : Int32 → Prop} {f_size f_common f_joined f_cutBySome f_cutByAll : Int32} {a_there a_froms a_tos a_rooms : Nat → Int32} {pr p : Int32} (hT : fl_Th pr a_there) (h1 : fl_Arc pr p → post 1) (h0 : ¬ fl_Arc pr p → post 0) : wpY_is post (f_size, f_common, f_joined, f_cutBySome, f_cutByAll, a_there, a_froms, a_tos, a_rooms) p := by
  show (p < 0 → post 0) ∧ (¬ p < 0 → _)
  rcases pk_ix p (n := 20) (by omega) with h | h | ⟨j, hj, rfl⟩
  · exact br_t h (h0 (fun ⟨k, hk, e, _⟩ => nI_pos (n := k) (by omega) (e ▸ h)))
  · have hn : ¬ fl_Arc pr p := fun ⟨k, hk, e, _⟩ => nI_ge (a := k) (b := 20) hk (by decide) (e ▸ h)
    exact br_c (fun _ => h0 hn) (fun _ => br_t h (h0 hn))
  · refine br_f (nI_pos (by omega)) (br_f (nI_ge (b := 20) hj (by decide)) ⟨vp_in_nI hj (by decide), ?_⟩)
    rw [nI_clamp (show j < 2 ^ 31 by omega)]
    refine br_c (fun hb => h0 ?_) (fun hb => h1 ⟨j, hj, rfl, ?_⟩)
    · rintro ⟨k, hk, e, hb2⟩
      rw [nI_eq (by omega) (by omega)] at e
      subst e
      rw [(hT j hj).mp hb] at hb2; cases hb2
    · cases e : bt pr j
      · exact absurd ((hT j hj).mpr e) hb
      · rfl
theorem yw_cuts {post : Int32 → Prop} {f_size f_common f_joined f_cutBySome f_cutByAll : Int32} {a_there a_froms a_tos a_rooms : Nat → Int32} {pr o i : Int32} {k : Nat} (hT : fl_Th pr a_there) (hN : fl_Net pr a_froms a_tos a_rooms) (hk : k < 20) (h1 : fl_cf pr a_froms a_tos (bt o) (bt i) k = true → post 1) (h0 : fl_cf pr a_froms a_tos (bt o) (bt i) k = false → post 0) : wpY_cuts post (f_size, f_common, f_joined, f_cutBySome, f_cutByAll, a_there, a_froms, a_tos, a_rooms) o i (nI k) := by
  have e0 : fl_cf pr a_froms a_tos (bt o) (bt i) k = (bt pr k && (bt o (fl_st a_froms k) && !bt i (fl_st a_tos k))) := rfl
  refine ⟨vp_in_nI hk (by decide), ?_⟩
  rw [nI_clamp (show k < 2 ^ 31 by omega)]
  refine br_c (fun hb => h0 ?_) (fun hb => ⟨vp_in_nI hk (by decide), ?_⟩)
  · rw [e0, (hT k hk).mp hb]; rfl
  · have hb1 : bt pr k = true := by
      cases e : bt pr k
      · exact absurd ((hT k hk).mpr e) hb
      · rfl
    obtain ⟨⟨s1, s2⟩, ⟨e1, e2⟩, _⟩ := hN k hk hb1
    rw [s1, e1]
    refine br_c (fun h2 => ⟨vp_in_nI hk (by decide), br_c (fun h3 => h1 ?_) (fun h3 => h0 ?_)⟩) (fun h2 => h0 ?_)
    · rw [e0, hb1, (fl_bit (by omega)).1.mp h2, (fl_bit (by omega)).2.mp h3]; rfl
    · rw [e0, hb1, (fl_bit (by omega)).1.mp h2]
      cases e : bt i (fl_st a_tos k)
      · exact absurd ((fl_bit (by omega)).2.mpr e) h3
      · rfl
    · rw [e0, hb1]
      cases e : bt o (fl_st a_froms k)
      · rfl
      · exact absurd ((fl_bit (by omega)).1.mpr e) h2
theorem yw_size_l {post : Int32 → Prop} {f_size f_common f_joined f_cutBySome f_cutByAll : Int32} {a_there a_froms a_tos a_rooms : Nat → Int32} {pr o i b : Int32} {most : Int} (hT : fl_Th pr a_there) (hN : fl_Net pr a_froms a_tos a_rooms) (hb : (b = 0 ∧ most = 99) ∨ (¬ b = 0 ∧ most = 1)) (h : ∀ x : Int32, x.toInt = fl_Cg pr a_froms a_tos a_rooms most (bt o) (bt i) → post x) :
    ∀ (d k : Nat) (x : Int32), k + d = 20 → 0 ≤ x.toInt → x.toInt ≤ 99 * (k : Int) → x.toInt = fl_S k (fun k => if fl_cf pr a_froms a_tos (bt o) (bt i) k = true then (if fl_v a_rooms k < most then fl_v a_rooms k else most) else 0) → wY_sizeOf_6 post o i b f_size f_common f_joined f_cutBySome f_cutByAll a_there a_froms a_tos a_rooms (d + 1) x (nI k) := by
  intro d
  induction d with
  | zero =>
    intro k x hk h0 h1 hx
    have e : k = 20 := by omega
    subst e
    exact br_t (nI_le (a := 20) (b := 20) (by omega) (by decide)) (h x hx)
  | succ d ih =>
    intro k x hk h0 h1 hx
    have key : ∀ z : Int32, (fl_cf pr a_froms a_tos (bt o) (bt i) k = true → z.toInt = (if fl_v a_rooms k < most then fl_v a_rooms k else most)) → wY_sizeOf_42 post (wY_sizeOf_6 post o i b f_size f_common f_joined f_cutBySome f_cutByAll a_there a_froms a_tos a_rooms (d + 1)) o i b x (nI k) z f_size f_common f_joined f_cutBySome f_cutByAll a_there a_froms a_tos a_rooms := by
      intro z hz
      refine yw_cuts hT hN (by omega) (fun hc => br_f (by decide) (nm_e (nm_r (nI_1 k) (ih (k + 1) _ (by omega) ?_ ?_ ?_)))) (fun hc => br_t rfl (nm_r (nI_1 k) (ih (k + 1) x (by omega) h0 (by omega) ?_)))
      · have hc2 : (bt pr k && (bt o (fl_st a_froms k) && !bt i (fl_st a_tos k))) = true := hc
        rw [Bool.and_eq_true] at hc2
        have hr := (hN k (by omega) hc2.1).2.2
        have hz1 := hz hc
        have hz2 : 0 ≤ z.toInt ∧ z.toInt ≤ 99 := by
          rw [hz1]; split <;> omega
        rw [fl_tadd (by omega) (by omega)]; omega
      · have hc2 : (bt pr k && (bt o (fl_st a_froms k) && !bt i (fl_st a_tos k))) = true := hc
        rw [Bool.and_eq_true] at hc2
        have hr := (hN k (by omega) hc2.1).2.2
        have hz1 := hz hc
        have hz2 : 0 ≤ z.toInt ∧ z.toInt ≤ 99 := by
          rw [hz1]; split <;> omega
        rw [fl_tadd (by omega) (by omega)]; omega
      · have hc2 : (bt pr k && (bt o (fl_st a_froms k) && !bt i (fl_st a_tos k))) = true := hc
        rw [Bool.and_eq_true] at hc2
        have hr := (hN k (by omega) hc2.1).2.2
        have hz1 := hz hc
        have hz2 : 0 ≤ z.toInt ∧ z.toInt ≤ 99 := by
          rw [hz1]; split <;> omega
        rw [fl_tadd (by omega) (by omega), fl_Ss, if_pos hc, hx, hz1]
      · rw [fl_Ss, if_neg (by rw [hc]; decide), hx]; omega
    have hrm : fl_cf pr a_froms a_tos (bt o) (bt i) k = true → 0 ≤ fl_v a_rooms k ∧ fl_v a_rooms k ≤ 99 := fun hc => by
      have hc2 : (bt pr k && (bt o (fl_st a_froms k) && !bt i (fl_st a_tos k))) = true := hc
      rw [Bool.and_eq_true] at hc2
      exact (hN k (by omega) hc2.1).2.2
    refine br_f (nI_ge (b := 20) (by omega) (by decide)) ?_
    rw [nI_clamp (show k < 2 ^ 31 by omega)]
    rcases hb with ⟨hb, hm⟩ | ⟨hb, hm⟩
    · refine br_t hb ⟨vp_in_nI (by omega) (by decide), key _ (fun hc => ?_)⟩
      have := hrm hc
      have e3 : (a_rooms k).toInt = fl_v a_rooms k := rfl
      rw [e3, hm]; split <;> omega
    · refine br_f hb ⟨vp_in_nI (by omega) (by decide), fl_cle (fun hl => key _ (fun hc => ?_)) (fun hl => key _ (fun hc => ?_))⟩
      · have := hrm hc
        have hl2 : fl_v a_rooms k ≤ 0 := hl
        rw [fl_z0, hm, if_pos (by omega)]; omega
      · have hl2 : ¬ fl_v a_rooms k ≤ 0 := hl
        rw [fl_one1, hm, if_neg (by omega)]
theorem yw_size {post : Int32 → Prop} {f_size f_common f_joined f_cutBySome f_cutByAll : Int32} {a_there a_froms a_tos a_rooms : Nat → Int32} {pr o i b : Int32} {most : Int} (hT : fl_Th pr a_there) (hN : fl_Net pr a_froms a_tos a_rooms) (hb : (b = 0 ∧ most = 99) ∨ (¬ b = 0 ∧ most = 1)) (h : ∀ x : Int32, x.toInt = fl_Cg pr a_froms a_tos a_rooms most (bt o) (bt i) → post x) : wpY_sizeOf post (f_size, f_common, f_joined, f_cutBySome, f_cutByAll, a_there, a_froms, a_tos, a_rooms) o i b :=
  ⟨20 + 1, yw_size_l hT hN hb h 20 0 0 rfl (by decide) (by decide) (by rw [fl_z0]; rfl)⟩
