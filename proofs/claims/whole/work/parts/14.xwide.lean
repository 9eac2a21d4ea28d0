theorem fl_nar1 : (vp_nar .boolean 1) = 1 := by decide
theorem fl_nar0 : (vp_nar .boolean 0) = 0 := by decide
theorem xw_widest_l {post : Int32 → Prop} {f_present f_leastSize f_inEvery f_inSome f_cutByEvery f_cutBySome : Int32} {a_start a_end a_rooms a_left a_from a_line a_level a_width a_done a_height a_excess : Nat → Int32}
    (h1 : ∀ u, u < 16 → fl_v a_done u = 0 → 0 < fl_v a_width u → (∀ y, y < 16 → fl_v a_done y = 0 → fl_v a_width y ≤ fl_v a_width u) → post (nI u))
    (h0 : (∀ y, y < 16 → fl_v a_done y = 0 → fl_v a_width y ≤ 0) → post (-1)) :
    ∀ d j (x1 x2 : Int32), j + d = 16 → (∀ y, y < j → fl_v a_done y = 0 → fl_v a_width y ≤ x2.toInt) →
      ((x1 = -1 ∧ x2.toInt = 0) ∨ ∃ u : Nat, u < 16 ∧ x1 = nI u ∧ fl_v a_done u = 0 ∧ fl_v a_width u = x2.toInt ∧ 0 < x2.toInt) →
      wX_widestToDo_6 post f_present f_leastSize f_inEvery f_inSome f_cutByEvery f_cutBySome a_start a_end a_rooms a_left a_from a_line a_level a_width a_done a_height a_excess (d + 1) x1 x2 (nI j) := by
  intro d
  induction d with
  | zero =>
    intro j x1 x2 hj hp hx
    have e : j = 16 := by omega
    subst e
    refine br_t (nI_le (a := 16) (b := 16) (by omega) (by decide)) ?_
    rcases hx with ⟨rfl, e2⟩ | ⟨u, hu, rfl, hd, hw, hpos⟩
    · exact h0 (fun y hy hd => by
        have := hp y hy hd
        omega)
    · exact h1 u hu hd (by omega) (fun y hy hd2 => by
        have := hp y hy hd2
        omega)
  | succ d ih =>
    intro j x1 x2 hj hp hx
    refine br_f (nI_ge (b := 16) (by omega) (by decide)) ⟨vp_in_nI (by omega) (by decide), ?_⟩
    rw [nI_clamp (show j < 2 ^ 31 by omega)]
    refine fl_ce (fun hd => ⟨vp_in_nI (by omega) (by decide), ?_⟩) (fun hd => nm_r (nI_1 j) (ih (j + 1) x1 x2 (by omega) (lt_s hp (fun z => absurd z hd)) hx))
    have hd0 : fl_v a_done j = 0 := hd
    refine fl_cle (fun hl => nm_r (nI_1 j) (ih (j + 1) x1 x2 (by omega) (lt_s hp (fun _ => hl)) hx)) (fun hl => ⟨vp_in_nI (by omega) (by decide), nm_e (nm_r (nI_1 j) (ih (j + 1) (nI j) _ (by omega) (lt_s (fun y hy hdy => ?_) (fun _ => Int.le_refl _)) (Or.inr ⟨j, by omega, rfl, hd0, rfl, ?_⟩)))⟩)
    · have h3 := hp y hy hdy
      have h4 : fl_v a_width y ≤ (a_width j).toInt := by omega
      exact h4
    · rcases hx with ⟨_, e2⟩ | ⟨_, _, _, _, _, hpos⟩
      · omega
      · omega
theorem xw_widest {post : Int32 → Prop} {f_present f_leastSize f_inEvery f_inSome f_cutByEvery f_cutBySome : Int32} {a_start a_end a_rooms a_left a_from a_line a_level a_width a_done a_height a_excess : Nat → Int32}
    (h1 : ∀ u, u < 16 → fl_v a_done u = 0 → 0 < fl_v a_width u → (∀ y, y < 16 → fl_v a_done y = 0 → fl_v a_width y ≤ fl_v a_width u) → post (nI u))
    (h0 : (∀ y, y < 16 → fl_v a_done y = 0 → fl_v a_width y ≤ 0) → post (-1)) : wpX_widestToDo post (f_present, f_leastSize, f_inEvery, f_inSome, f_cutByEvery, f_cutBySome, a_start, a_end, a_rooms, a_left, a_from, a_line, a_level, a_width, a_done, a_height, a_excess) :=
  ⟨17, xw_widest_l h1 h0 16 0 (-1) 0 rfl (fun y hy => by omega) (Or.inl ⟨rfl, fl_z0⟩)⟩
theorem xw_pass_l {post : SX → Prop} {f_present f_leastSize f_inEvery f_inSome f_cutByEvery f_cutBySome : Int32} {a_start a_end a_rooms a_left a_line a_level a_done a_height a_excess : Nat → Int32} {s k u : Nat} {rk : Nat → Nat} (hu : u < 16)
    (h : ∀ f w, fl_Wd (fl_v a_left) (fl_v f) (fl_v w) (fl_v a_done) s (k + 1) rk → post (f_present, f_leastSize, f_inEvery, f_inSome, f_cutByEvery, f_cutBySome, a_start, a_end, a_rooms, a_left, f, a_line, a_level, w, a_done, a_height, a_excess)) :
    ∀ d j f w, j + d = 16 → fl_Wi (fl_v a_left) (fl_v f) (fl_v w) (fl_v a_done) s k rk u j → wX_passWidth_2 post (nI u) f_present f_leastSize f_inEvery f_inSome f_cutByEvery f_cutBySome (d + 1) (nI j) a_start a_end a_rooms a_left f a_line a_level w a_done a_height a_excess := by
  intro d
  induction d with
  | zero =>
    intro j f w hj hW
    have e : j = 16 := by omega
    subst e
    exact br_t (nI_le (a := 16) (b := 16) (by omega) (by decide)) (h f w (fl_W3 hW hu))
  | succ d ih =>
    intro j f w hj hW
    have key : ∀ a : Int32, a.toInt ≤ fl_v a_left (u * 16 + j) → a.toInt ≤ fl_v w u → (a.toInt = fl_v a_left (u * 16 + j) ∨ a.toInt = fl_v w u) →
        wX_passWidth_40 post (wX_passWidth_2 post (nI u) f_present f_leastSize f_inEvery f_inSome f_cutByEvery f_cutBySome (d + 1)) (nI u) (nI j) a f_present f_leastSize f_inEvery f_inSome f_cutByEvery f_cutBySome a_start a_end a_rooms a_left f a_line a_level w a_done a_height a_excess := by
      intro a h1 h2 h3
      have hh := fl_W2 hW hu (by omega) h1 h2 h3
      rw [← fl_vun f j (n := u) (by omega), ← fl_vu] at hh
      refine ⟨vp_in_nI (by omega) (by decide), ?_⟩
      rw [nI_clamp (show j < 2 ^ 31 by omega)]
      exact fl_cle (fun hl => nm_r (nI_1 j) (ih (j + 1) f w (by omega) (hh.1 (Int.not_lt.mpr hl)))) (fun hl => ⟨vp_in_nI (by omega) (by decide), nm_e ⟨vp_in_nI (by omega) (by decide), nm_e (nm_r (nI_1 j) (ih (j + 1) _ _ (by omega) (hh.2 (Int.not_le.mp hl))))⟩⟩)
    refine br_f (nI_ge (b := 16) (by omega) (by decide)) ⟨fl_ixi hu (by omega), ?_⟩
    rw [fl_ixc hu (by omega), nI_clamp (show u < 2 ^ 31 by omega)]
    refine nm_e ⟨vp_in_nI hu (by decide), fl_cle (fun hl => ⟨vp_in_nI hu (by decide), key _ hl (Int.le_refl _) (Or.inr rfl)⟩) (fun hl => key _ (Int.le_refl _) ?_ (Or.inl rfl))⟩
    have : fl_v w u = (w u).toInt := rfl
    omega
theorem xw_wide44 {post : Int32 → SX → Prop} {f_present f_leastSize f_inEvery f_inSome f_cutByEvery f_cutBySome : Int32} {a_start a_end a_rooms a_left a_line a_level a_height a_excess : Nat → Int32} {s t : Nat} (ht : t < 16)
    (h1 : ∀ f w dn, fl_Fd (fl_v a_left) (fl_v f) s t 1 → post 1 (f_present, f_leastSize, f_inEvery, f_inSome, f_cutByEvery, f_cutBySome, a_start, a_end, a_rooms, a_left, f, a_line, a_level, w, dn, a_height, a_excess))
    (h0 : ∀ f w dn, fl_Non (fl_v a_left) s t 1 → post 0 (f_present, f_leastSize, f_inEvery, f_inSome, f_cutByEvery, f_cutBySome, a_start, a_end, a_rooms, a_left, f, a_line, a_level, w, dn, a_height, a_excess)) :
    ∀ d k f w dn rk, k + d = 16 → fl_Wd (fl_v a_left) (fl_v f) (fl_v w) (fl_v dn) s k rk → wX_searchWide_44 post (nI t) (d + 1) (nI k) f_present f_leastSize f_inEvery f_inSome f_cutByEvery f_cutBySome a_start a_end a_rooms a_left f a_line a_level w dn a_height a_excess := by
  have hE : ∀ k f w dn rk, fl_Wd (fl_v a_left) (fl_v f) (fl_v w) (fl_v dn) s k rk → (∀ y, y < 16 → fl_v dn y = 0 → fl_v w y ≤ 0) → wX_searchWide_85 post (nI t) f_present f_leastSize f_inEvery f_inSome f_cutByEvery f_cutBySome a_start a_end a_rooms a_left f a_line a_level w dn a_height a_excess := by
    intro k f w dn rk hW hc
    have hh := fl_W4 hW ht hc
    refine ⟨vp_in_nI ht (by decide), ?_⟩
    rw [nI_clamp (show t < 2 ^ 31 by omega)]
    exact fl_cle (fun e => h0 f w dn (hh.2 (Int.not_lt.mpr e))) (fun e => h1 f w dn (hh.1 (Int.not_le.mp e)))
  intro d
  induction d with
  | zero =>
    intro k f w dn rk hk hW
    have e : k = 16 := by omega
    subst e
    refine br_t (nI_le (a := 16) (b := 16) (by omega) (by decide)) (hE 16 f w dn rk hW (fun y hy hd => ?_))
    have h2 := fl_nd_pos hy hd
    have h3 := hW.1.2
    omega
  | succ d ih =>
    intro k f w dn rk hk hW
    refine br_f (nI_ge (b := 16) (by omega) (by decide)) (xw_widest (fun u hu hd hw hm => br_f (fl_nm (by omega)) ⟨vp_in_nI hu (by decide), nm_e ?_⟩) (fun hc => br_t rfl (hE k f w dn rk hW hc)))
    have hh := fl_W1 hW hu hd hw hm
    rw [nI_clamp (show u < 2 ^ 31 by omega), fl_nar1]
    have e1 : fl_v (upd dn u 1) = fl_pu (fl_v dn) u 1 := by rw [fl_vu]; rfl
    rw [← e1] at hh
    exact ⟨17, xw_pass_l hu (fun f2 w2 hW2 => nm_r (nI_1 k) (ih (k + 1) f2 w2 _ _ (by omega) hW2)) 16 0 f w rfl hh⟩
theorem xw_wide7 {post : Int32 → SX → Prop} {f_present f_leastSize f_inEvery f_inSome f_cutByEvery f_cutBySome : Int32} {a_start a_end a_rooms a_left a_from a_line a_level a_height a_excess : Nat → Int32} {s t : Nat} (hs : s < 16) (ht : t < 16)
    (h1 : ∀ f w dn, fl_Fd (fl_v a_left) (fl_v f) s t 1 → post 1 (f_present, f_leastSize, f_inEvery, f_inSome, f_cutByEvery, f_cutBySome, a_start, a_end, a_rooms, a_left, f, a_line, a_level, w, dn, a_height, a_excess))
    (h0 : ∀ f w dn, fl_Non (fl_v a_left) s t 1 → post 0 (f_present, f_leastSize, f_inEvery, f_inSome, f_cutByEvery, f_cutBySome, a_start, a_end, a_rooms, a_left, f, a_line, a_level, w, dn, a_height, a_excess)) :
    ∀ d j w dn, j + d = 16 → (∀ y, y < j → fl_v w y = 0) → (∀ y, y < j → fl_v dn y = 0) → wX_searchWide_7 post (nI s) (nI t) f_present f_leastSize f_inEvery f_inSome f_cutByEvery f_cutBySome (d + 1) (nI j) a_start a_end a_rooms a_left a_from a_line a_level w dn a_height a_excess := by
  intro d
  induction d with
  | zero =>
    intro j w dn hj hw hd
    have e : j = 16 := by omega
    subst e
    refine br_t (nI_le (a := 16) (b := 16) (by omega) (by decide)) ⟨vp_in_nI hs (by decide), nm_e ⟨17, ?_⟩⟩
    rw [nI_clamp (show s < 2 ^ 31 by omega)]
    refine xw_wide44 (s := s) ht h1 h0 16 0 a_from _ dn (fun _ => 0) rfl (fl_W0 hd ?_ ?_)
    · intro x hx hxs
      rw [fl_vu, fl_pun hxs]; exact hw x hx
    · rw [fl_vu, fl_pus]; decide
  | succ d ih =>
    intro j w dn hj hw hd
    refine br_f (nI_ge (b := 16) (by omega) (by decide)) ⟨vp_in_nI (by omega) (by decide), nm_e ⟨vp_in_nI (by omega) (by decide), nm_e (nm_r (nI_1 j) (ih (j + 1) _ _ (by omega) ?_ ?_))⟩⟩
    · intro y hy
      rw [nI_clamp (by omega), fl_vu]
      by_cases e : y = j
      · rw [e, fl_pus]; decide
      · rw [fl_pun e]; exact hw y (by omega)
    · intro y hy
      rw [nI_clamp (by omega), fl_nar0, fl_vu]
      by_cases e : y = j
      · rw [e, fl_pus]; decide
      · rw [fl_pun e]; exact hd y (by omega)
theorem xw_wide {post : Int32 → SX → Prop} {f_present f_leastSize f_inEvery f_inSome f_cutByEvery f_cutBySome : Int32} {a_start a_end a_rooms a_left a_from a_line a_level a_width a_done a_height a_excess : Nat → Int32} {s t : Nat} (hs : s < 16) (ht : t < 16)
    (h1 : ∀ f w dn, fl_Fd (fl_v a_left) (fl_v f) s t 1 → post 1 (f_present, f_leastSize, f_inEvery, f_inSome, f_cutByEvery, f_cutBySome, a_start, a_end, a_rooms, a_left, f, a_line, a_level, w, dn, a_height, a_excess))
    (h0 : ∀ f w dn, fl_Non (fl_v a_left) s t 1 → post 0 (f_present, f_leastSize, f_inEvery, f_inSome, f_cutByEvery, f_cutBySome, a_start, a_end, a_rooms, a_left, f, a_line, a_level, w, dn, a_height, a_excess)) : wpX_searchWide post (f_present, f_leastSize, f_inEvery, f_inSome, f_cutByEvery, f_cutBySome, a_start, a_end, a_rooms, a_left, a_from, a_line, a_level, a_width, a_done, a_height, a_excess) (nI s) (nI t) := by
  unfold wpX_searchWide
  exact xw_forget hs (fun f hf hfs => ⟨17, xw_wide7 hs ht h1 h0 16 0 a_width a_done rfl (fun y hy => by omega) (fun y hy => by omega)⟩)
