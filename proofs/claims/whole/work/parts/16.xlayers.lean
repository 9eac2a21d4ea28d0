theorem xw_next_l {post : Int32 → Prop} {f_present f_leastSize f_inEvery f_inSome f_cutByEvery f_cutBySome : Int32} {a_start a_end a_rooms a_left a_from a_line a_level a_width a_done a_height a_excess : Nat → Int32} {u : Nat} (hu : u < 16) (hb : -1 ≤ fl_v a_level u ∧ fl_v a_level u ≤ 15)
    (h1 : ∀ v, v < 16 → fl_v a_level v = fl_v a_level u + 1 → 0 < fl_v a_left (u * 16 + v) → post (nI v))
    (h0 : (∀ v, v < 16 → fl_v a_level v = fl_v a_level u + 1 → ¬ 0 < fl_v a_left (u * 16 + v)) → post (-1)) :
    ∀ d j, j + d = 16 → (∀ v, v < j → fl_v a_level v = fl_v a_level u + 1 → ¬ 0 < fl_v a_left (u * 16 + v)) → wX_nextLayerAfter_2 post (nI u) f_present f_leastSize f_inEvery f_inSome f_cutByEvery f_cutBySome a_start a_end a_rooms a_left a_from a_line a_level a_width a_done a_height a_excess (d + 1) (nI j) := by
  have hb' : -1 ≤ (a_level u).toInt ∧ (a_level u).toInt ≤ 15 := hb
  have e1 : (a_level u + 1).toInt = fl_v a_level u + 1 := fl_tadd (by rw [fl_one1]; omega) (by rw [fl_one1]; omega)
  intro d
  induction d with
  | zero =>
    intro j hj hp
    have e : j = 16 := by omega
    subst e
    exact br_t (nI_le (a := 16) (b := 16) (by omega) (by decide)) (h0 hp)
  | succ d ih =>
    intro j hj hp
    refine br_f (nI_ge (b := 16) (by omega) (by decide)) ⟨vp_in_nI (by omega) (by decide), vp_in_nI hu (by decide), ?_⟩
    rw [nI_clamp (show j < 2 ^ 31 by omega), nI_clamp (show u < 2 ^ 31 by omega)]
    refine fl_ce (fun hf => ⟨fl_ixi hu (by omega), ?_⟩) (fun hf => nm_r (nI_1 j) (ih (j + 1) (by omega) (lt_s hp (fun z => absurd z (by rw [e1] at hf; exact hf)))))
    rw [e1] at hf
    rw [fl_ixc hu (by omega)]
    exact fl_cle (fun hl => nm_r (nI_1 j) (ih (j + 1) (by omega) (lt_s hp (fun _ => Int.not_lt.mpr hl)))) (fun hl => h1 j (by omega) hf (Int.not_le.mp hl))
theorem xw_next {post : Int32 → Prop} {f_present f_leastSize f_inEvery f_inSome f_cutByEvery f_cutBySome : Int32} {a_start a_end a_rooms a_left a_from a_line a_level a_width a_done a_height a_excess : Nat → Int32} {u : Nat} (hu : u < 16) (hb : -1 ≤ fl_v a_level u ∧ fl_v a_level u ≤ 15)
    (h1 : ∀ v, v < 16 → fl_v a_level v = fl_v a_level u + 1 → 0 < fl_v a_left (u * 16 + v) → post (nI v))
    (h0 : (∀ v, v < 16 → fl_v a_level v = fl_v a_level u + 1 → ¬ 0 < fl_v a_left (u * 16 + v)) → post (-1)) : wpX_nextLayerAfter post (f_present, f_leastSize, f_inEvery, f_inSome, f_cutByEvery, f_cutBySome, a_start, a_end, a_rooms, a_left, a_from, a_line, a_level, a_width, a_done, a_height, a_excess) (nI u) :=
  ⟨16 + 1, xw_next_l hu hb h1 h0 16 0 rfl (fun v hv => by omega)⟩
theorem xw_lay8 {post : Int32 → SX → Prop} {f_present f_leastSize f_inEvery f_inSome f_cutByEvery f_cutBySome : Int32} {a_start a_end a_rooms a_line a_width a_done a_height a_excess : Nat → Int32} {s t : Nat} {C L0 V0 : Nat → Int} {x0 : Int} (ht : t < 16) (hx0 : 0 ≤ x0) (hB : ∃ S, fl_Sd S s t ∧ fl_cut C S ≤ 1980) (hV0 : ∀ v, v < 16 → V0 v = -1 ∨ (0 ≤ V0 v ∧ V0 v ≤ 15)) (hs0 : V0 s = 0)
    (hP : ∀ (x : Int32) l f v, 0 ≤ x.toInt → fl_Inv C (fl_v l) s t (x0 + x.toInt) → fl_Bk L0 V0 (fl_v l) s t → post x (f_present, f_leastSize, f_inEvery, f_inSome, f_cutByEvery, f_cutBySome, a_start, a_end, a_rooms, l, f, a_line, v, a_width, a_done, a_height, a_excess)) :
    ∀ (d k : Nat) (x : Int32) (u : Nat) l f v pt, k + d = 31728 → 0 ≤ x.toInt → fl_Ly C L0 V0 (fl_v l) (fl_v f) (fl_v v) s t u (x0 + x.toInt) pt → fl_Lm (fl_v v) u (x0 + x.toInt) + (k : Int) ≤ 31727 →
      wX_fillLayers_8 post (nI s) (nI t) (d + 1) x (nI u) (nI k) f_present f_leastSize f_inEvery f_inSome f_cutByEvery f_cutBySome a_start a_end a_rooms l f a_line v a_width a_done a_height a_excess := by
  have hV15 : ∀ v, v < 16 → V0 v ≤ 15 := fun v hv => by
    have := hV0 v hv
    omega
  intro d
  induction d with
  | zero =>
    intro k x u l f v pt hk hx hY hM
    have h1 := fl_Inv_le hY.1 hB
    have h2 := fl_Lm_nn hY h1
    omega
  | succ d ih =>
    intro k x u l f v pt hk hx hY hM
    have hle := fl_Inv_le hY.1 hB
    have hu := hY.2.1.1
    have hut := hY.2.1.2.1
    have hVu : 0 ≤ fl_v v u ∧ fl_v v u ≤ 15 := ⟨hY.2.1.2.2.1, hY.2.1.2.2.2.1⟩
    have hs : s < 16 := hY.2.1.2.2.2.2.2.2
    refine br_f (nI_ge (b := 1000000) (by omega) (by decide)) (xw_next hu (by omega) (fun w hw hV hL => br_f (fl_nm (by omega)) ⟨vp_in_nI hw (by decide), nm_e ?_⟩) (fun hn => br_t rfl ?_))
    · rw [nI_clamp (show w < 2 ^ 31 by omega)]
      refine pk_eq w t (fun e => ?_) (fun e => nm_r (nI_1 k) ?_)
      · subst e
        obtain ⟨m, c, hC, hA⟩ := fl_Y2 hY hV15 hw hV hL
        rw [← fl_vun f w (n := u) (by omega)] at hC hA
        refine xw_fill hC (Int.le_refl _) hY.1.1 (fun l2 y h1 h2 ha hl => nm_e (nm_r (nI_1 k) (ih (k + 1) _ s l2 _ v (fun _ => s) (by omega) ?_ ?_ ?_)))
        · rw [fl_tadd (by omega) (by omega)]; omega
        · rw [fl_tadd (by omega) (by omega), hl, ← Int.add_assoc]
          exact (hA y.toInt h1 ha).1
        · have := (hA y.toInt h1 ha).2
          rw [fl_tadd (by omega) (by omega), ← Int.add_assoc]
          omega
      · have hh := fl_Y1 hY hV15 hw e hV hL
        rw [← fl_vun f w (n := u) (by omega)] at hh
        exact ih (k + 1) x w l _ v _ (by omega) hx hh.1 (by have := hh.2; omega)
    · refine pk_eq u s (fun e => ?_) (fun e => ⟨vp_in_nI hu (by decide), nm_e ⟨vp_in_nI hu (by decide), ?_⟩⟩)
      · subst e
        exact hP x l f v hx hY.1 (fl_Y4 hY (fun v hv => by have := hV0 v hv; omega) hs0 hn)
      · obtain ⟨p, hp, hF, hpt, hY2, hM2⟩ := fl_Y3 hY e hn
        have ev : fl_v (upd v u (-1)) = fl_pu (fl_v v) u (-1) := by rw [fl_vu, fl_m1]
        rw [← ev] at hY2 hM2
        rw [nI_clamp (show u < 2 ^ 31 by omega)]
        refine nm_r (fl_tn hF (by omega)) (pk_eq p t (fun z => absurd z hpt) (fun z => nm_r (nI_1 k) (ih (k + 1) x p l f _ pt (by omega) hx hY2 (by omega))))
theorem xw_fillLayers {post : Int32 → SX → Prop} {f_present f_leastSize f_inEvery f_inSome f_cutByEvery f_cutBySome : Int32} {a_start a_end a_rooms a_left a_from a_line a_level a_width a_done a_height a_excess : Nat → Int32} {s t : Nat} {C : Nat → Int} {x0 : Int} (hs : s < 16) (ht : t < 16) (hst : s ≠ t) (hx0 : 0 ≤ x0) (hB : ∃ S, fl_Sd S s t ∧ fl_cut C S ≤ 1980) (hI : fl_Inv C (fl_v a_left) s t x0) (hF : fl_Bf (fl_v a_left) (fl_v a_from) (fl_v a_level) s) (hV : fl_v a_level t ≠ -1)
    (hP : ∀ (x : Int32) l f v, 0 ≤ x.toInt → fl_Inv C (fl_v l) s t (x0 + x.toInt) → fl_Bk (fl_v a_left) (fl_v a_level) (fl_v l) s t → post x (f_present, f_leastSize, f_inEvery, f_inSome, f_cutByEvery, f_cutBySome, a_start, a_end, a_rooms, l, f, a_line, v, a_width, a_done, a_height, a_excess)) : wpX_fillLayers post (f_present, f_leastSize, f_inEvery, f_inSome, f_cutByEvery, f_cutBySome, a_start, a_end, a_rooms, a_left, a_from, a_line, a_level, a_width, a_done, a_height, a_excess) (nI s) (nI t) :=
  ⟨31728 + 1, xw_lay8 ht hx0 hB hF.2.1 hF.1 hP 31728 0 0 s a_left a_from a_level (fun _ => s) rfl (by decide) (by rw [fl_z0, Int.add_zero]; exact fl_Y0 hI hF hs hst hV) (by rw [fl_z0, Int.add_zero]; have := fl_Y0m (V := fl_v a_level) (s := s) hx0 hF.1; omega)⟩
theorem xw_layers5 {post : Int32 → SX → Prop} {f_present f_leastSize f_inEvery f_inSome f_cutByEvery f_cutBySome : Int32} {a_start a_end a_rooms a_width a_done a_height a_excess : Nat → Int32} {s t : Nat} {C : Nat → Int} (hs : s < 16) (ht : t < 16) (hst : s ≠ t) (hB : ∃ S, fl_Sd S s t ∧ fl_cut C S ≤ 1980)
    (hP : ∀ (x : Int32) l f q v, 0 ≤ x.toInt → fl_Min C s t x.toInt → post x (f_present, f_leastSize, f_inEvery, f_inSome, f_cutByEvery, f_cutBySome, a_start, a_end, a_rooms, l, f, q, v, a_width, a_done, a_height, a_excess)) :
    ∀ (d k : Nat) (x : Int32) l f q v, k + d = 15 → 0 ≤ x.toInt → fl_Inv C (fl_v l) s t x.toInt → (∀ F V, fl_Bf (fl_v l) F V s → V t ≠ -1 → (k : Int) + 1 ≤ V t) →
      wX_flowByLayers_5 post (nI s) (nI t) (d + 1) x (nI k) f_present f_leastSize f_inEvery f_inSome f_cutByEvery f_cutBySome a_start a_end a_rooms l f q v a_width a_done a_height a_excess := by
  intro d
  induction d with
  | zero =>
    intro k x l f q v hk hx hI hR
    refine br_f (nI_ge (b := 16) (by omega) (by decide)) (xw_broad hs ht (fun f v q hF hV => ?_) (fun f v q hF hV => br_t rfl (hP x l f q v hx (fl_end hI (fl_Bf_non hF hV)))))
    have h1 := hR _ _ hF hV
    have h2 := hF.2.1 t ht
    omega
  | succ d ih =>
    intro k x l f q v hk hx hI hR
    have hle := fl_Inv_le hI hB
    refine br_f (nI_ge (b := 16) (by omega) (by decide)) (xw_broad hs ht (fun f v q hF hV => br_f (by decide) (xw_fillLayers hs ht hst hx hB hI hF hV (fun y l2 f2 v2 hy hI2 hK => nm_e (nm_r (nI_1 k) (ih (k + 1) _ l2 f2 q v2 (by omega) ?_ ?_ ?_))))) (fun f v q hF hV => br_t rfl (hP x l f q v hx (fl_end hI (fl_Bf_non hF hV)))))
    · have := fl_Inv_le hI2 hB
      rw [fl_tadd (by omega) (by omega)]; omega
    · have := fl_Inv_le hI2 hB
      rw [fl_tadd (by omega) (by omega)]; exact hI2
    · intro F V hF2 hV2
      have h1 := fl_rise hF hK hF2 ht hV2
      have h2 := hR _ _ hF hV
      omega
theorem xw_layers {post : Int32 → SX → Prop} {f_present f_leastSize f_inEvery f_inSome f_cutByEvery f_cutBySome : Int32} {a_start a_end a_rooms a_left a_from a_line a_level a_width a_done a_height a_excess : Nat → Int32} {s t : Nat} (hs : s < 16) (ht : t < 16) (hst : s ≠ t) (hok : fl_ok (fl_v a_left)) (hB : ∃ S, fl_Sd S s t ∧ fl_cut (fl_v a_left) S ≤ 1980)
    (hP : ∀ (x : Int32) l f q v, 0 ≤ x.toInt → fl_Min (fl_v a_left) s t x.toInt → post x (f_present, f_leastSize, f_inEvery, f_inSome, f_cutByEvery, f_cutBySome, a_start, a_end, a_rooms, l, f, q, v, a_width, a_done, a_height, a_excess)) : wpX_flowByLayers post (f_present, f_leastSize, f_inEvery, f_inSome, f_cutByEvery, f_cutBySome, a_start, a_end, a_rooms, a_left, a_from, a_line, a_level, a_width, a_done, a_height, a_excess) (nI s) (nI t) := by
  refine ⟨15 + 1, xw_layers5 hs ht hst hB hP 15 0 0 a_left a_from a_line a_level rfl (by decide) ⟨hok, fun S _ => by rw [fl_z0]; omega⟩ (fun F V hF hV => ?_)⟩
  obtain ⟨u, u1, u2, u3, u4, u5⟩ := hF.2.2.1 t ht hV (Ne.symm hst)
  have := hF.2.1 u u1
  omega
