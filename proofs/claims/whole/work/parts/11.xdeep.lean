theorem xw_forget_l {post : SX → Prop} {f_present f_leastSize f_inEvery f_inSome f_cutByEvery f_cutBySome : Int32} {a_start a_end a_rooms a_left a_line a_level a_width a_done a_height a_excess : Nat → Int32} {s : Nat} (hs : s < 16) (h : ∀ f, (∀ v, v < 16 → v ≠ s → fl_v f v = -1) → fl_v f s = (s : Int) → post (f_present, f_leastSize, f_inEvery, f_inSome, f_cutByEvery, f_cutBySome, a_start, a_end, a_rooms, a_left, f, a_line, a_level, a_width, a_done, a_height, a_excess)) :
    ∀ d j f, j + d = 16 → (∀ v, v < j → fl_v f v = -1) → wX_forgetPaths_2 post (nI s) f_present f_leastSize f_inEvery f_inSome f_cutByEvery f_cutBySome (d + 1) (nI j) a_start a_end a_rooms a_left f a_line a_level a_width a_done a_height a_excess := by
  intro d
  induction d with
  | zero =>
    intro j f hj hp
    have e : j = 16 := by omega
    subst e
    refine br_t (nI_le (a := 16) (b := 16) (by omega) (by decide)) ⟨vp_in_nI hs (by decide), nm_e (h _ ?_ ?_)⟩
    · intro v hv hvs
      rw [nI_clamp (by omega), fl_vun _ _ (by omega), fl_pun hvs]; exact hp v hv
    · rw [nI_clamp (by omega), fl_vun _ _ (by omega), fl_pus]
  | succ d ih =>
    intro j f hj hp
    refine br_f (nI_ge (b := 16) (by omega) (by decide)) ⟨vp_in_nI (by omega) (by decide), nm_e (nm_r (nI_1 j) (ih (j + 1) _ (by omega) ?_))⟩
    intro v hv
    rw [nI_clamp (by omega), fl_vu]
    by_cases e : v = j
    · rw [e, fl_pus]; decide
    · rw [fl_pun e]; exact hp v (by omega)
theorem xw_forget {post : SX → Prop} {f_present f_leastSize f_inEvery f_inSome f_cutByEvery f_cutBySome : Int32} {a_start a_end a_rooms a_left a_from a_line a_level a_width a_done a_height a_excess : Nat → Int32} {s : Nat} (hs : s < 16) (h : ∀ f, (∀ v, v < 16 → v ≠ s → fl_v f v = -1) → fl_v f s = (s : Int) → post (f_present, f_leastSize, f_inEvery, f_inSome, f_cutByEvery, f_cutBySome, a_start, a_end, a_rooms, a_left, f, a_line, a_level, a_width, a_done, a_height, a_excess)) : wpX_forgetPaths post (f_present, f_leastSize, f_inEvery, f_inSome, f_cutByEvery, f_cutBySome, a_start, a_end, a_rooms, a_left, a_from, a_line, a_level, a_width, a_done, a_height, a_excess) (nI s) :=
  ⟨17, xw_forget_l hs h 16 0 a_from rfl (fun v hv => by omega)⟩
theorem xw_unseen_l {post : Int32 → Prop} {f_present f_leastSize f_inEvery f_inSome f_cutByEvery f_cutBySome : Int32} {a_start a_end a_rooms a_left a_from a_line a_level a_width a_done a_height a_excess : Nat → Int32} {u : Nat} {g : Int32} (hu : u < 16)
    (h1 : ∀ v, v < 16 → fl_v a_from v = -1 → g.toInt ≤ fl_v a_left (u * 16 + v) → post (nI v))
    (h0 : (∀ v, v < 16 → fl_v a_from v = -1 → ¬ g.toInt ≤ fl_v a_left (u * 16 + v)) → post (-1)) :
    ∀ d j, j + d = 16 → (∀ v, v < j → fl_v a_from v = -1 → ¬ g.toInt ≤ fl_v a_left (u * 16 + v)) → wX_unseenAfter_2 post (nI u) g f_present f_leastSize f_inEvery f_inSome f_cutByEvery f_cutBySome a_start a_end a_rooms a_left a_from a_line a_level a_width a_done a_height a_excess (d + 1) (nI j) := by
  intro d
  induction d with
  | zero =>
    intro j hj hp
    have e : j = 16 := by omega
    subst e
    exact br_t (nI_le (a := 16) (b := 16) (by omega) (by decide)) (h0 hp)
  | succ d ih =>
    intro j hj hp
    refine br_f (nI_ge (b := 16) (by omega) (by decide)) ⟨vp_in_nI (by omega) (by decide), ?_⟩
    rw [nI_clamp (show j < 2 ^ 31 by omega)]
    refine fl_ce (fun hf => ⟨fl_ixi hu (by omega), ?_⟩) (fun hf => nm_r (nI_1 j) (ih (j + 1) (by omega) (lt_s hp (fun z => absurd z hf))))
    rw [fl_ixc hu (by omega)]
    refine fl_cl (fun hl => nm_r (nI_1 j) (ih (j + 1) (by omega) (lt_s hp (fun _ => Int.not_le.mpr hl)))) (fun hl => h1 j (by omega) hf (Int.not_lt.mp hl))
theorem xw_unseen {post : Int32 → Prop} {f_present f_leastSize f_inEvery f_inSome f_cutByEvery f_cutBySome : Int32} {a_start a_end a_rooms a_left a_from a_line a_level a_width a_done a_height a_excess : Nat → Int32} {u : Nat} {g : Int32} (hu : u < 16)
    (h1 : ∀ v, v < 16 → fl_v a_from v = -1 → g.toInt ≤ fl_v a_left (u * 16 + v) → post (nI v))
    (h0 : (∀ v, v < 16 → fl_v a_from v = -1 → ¬ g.toInt ≤ fl_v a_left (u * 16 + v)) → post (-1)) : wpX_unseenAfter post (f_present, f_leastSize, f_inEvery, f_inSome, f_cutByEvery, f_cutBySome, a_start, a_end, a_rooms, a_left, a_from, a_line, a_level, a_width, a_done, a_height, a_excess) (nI u) g :=
  ⟨17, xw_unseen_l hu h1 h0 16 0 rfl (fun v hv => by omega)⟩
theorem xw_deep_l {post : Int32 → SX → Prop} {f_present f_leastSize f_inEvery f_inSome f_cutByEvery f_cutBySome : Int32} {a_start a_end a_rooms a_left a_line a_level a_width a_done a_height a_excess : Nat → Int32} {s t : Nat} {g : Int32} (ht : t < 16)
    (h1 : ∀ f, fl_Fd (fl_v a_left) (fl_v f) s t g.toInt → post 1 (f_present, f_leastSize, f_inEvery, f_inSome, f_cutByEvery, f_cutBySome, a_start, a_end, a_rooms, a_left, f, a_line, a_level, a_width, a_done, a_height, a_excess)) (h0 : ∀ f, fl_Non (fl_v a_left) s t g.toInt → post 0 (f_present, f_leastSize, f_inEvery, f_inSome, f_cutByEvery, f_cutBySome, a_start, a_end, a_rooms, a_left, f, a_line, a_level, a_width, a_done, a_height, a_excess)) :
    ∀ d k u f, k + d = 32 → fl_Dk (fl_v a_left) (fl_v f) s t g.toInt u k → wX_searchDeep_11 post (nI t) g f_present f_leastSize f_inEvery f_inSome f_cutByEvery f_cutBySome (d + 1) (nI u) (nI k) a_start a_end a_rooms a_left f a_line a_level a_width a_done a_height a_excess := by
  intro d
  induction d with
  | zero =>
    intro k u f hk hD
    have e : k = 32 := by omega
    subst e
    exact br_t (nI_le (a := 32) (b := 32) (by omega) (by decide)) (h0 f (fl_D3 hD))
  | succ d ih =>
    intro k u f hk hD
    have hu : u < 16 := hD.2.2.1
    refine br_f (nI_ge (b := 32) (by omega) (by decide)) (xw_unseen hu (fun v hv hF hg => br_f (fl_nm (by omega)) ⟨vp_in_nI hv (by decide), nm_e ?_⟩) (fun hn => br_t rfl ⟨vp_in_nI hu (by decide), ?_⟩))
    · have hh := fl_D1 hD hv hF hg
      rw [← fl_vun f v (n := u) (by omega)] at hh
      rw [nI_clamp (show v < 2 ^ 31 by omega)]
      exact pk_eq v t (fun e => h1 _ (hh.1 e)) (fun e => nm_r (nI_1 k) (ih (k + 1) v _ (by omega) (hh.2 e)))
    · obtain ⟨p, hp, hFp, hpt, hD2⟩ := fl_D2 hD hn
      rw [nI_clamp (show u < 2 ^ 31 by omega)]
      refine nm_r (fl_tn hFp (by omega)) ?_
      exact pk_eq p t (fun e => absurd e hpt) (fun e => nm_r (nI_1 k) (ih (k + 1) p f (by omega) hD2))
theorem xw_deep {post : Int32 → SX → Prop} {f_present f_leastSize f_inEvery f_inSome f_cutByEvery f_cutBySome : Int32} {a_start a_end a_rooms a_left a_from a_line a_level a_width a_done a_height a_excess : Nat → Int32} {s t : Nat} {g : Int32} (hs : s < 16) (ht : t < 16) (hst : s ≠ t)
    (h1 : ∀ f, fl_Fd (fl_v a_left) (fl_v f) s t g.toInt → post 1 (f_present, f_leastSize, f_inEvery, f_inSome, f_cutByEvery, f_cutBySome, a_start, a_end, a_rooms, a_left, f, a_line, a_level, a_width, a_done, a_height, a_excess)) (h0 : ∀ f, fl_Non (fl_v a_left) s t g.toInt → post 0 (f_present, f_leastSize, f_inEvery, f_inSome, f_cutByEvery, f_cutBySome, a_start, a_end, a_rooms, a_left, f, a_line, a_level, a_width, a_done, a_height, a_excess)) : wpX_searchDeep post (f_present, f_leastSize, f_inEvery, f_inSome, f_cutByEvery, f_cutBySome, a_start, a_end, a_rooms, a_left, a_from, a_line, a_level, a_width, a_done, a_height, a_excess) (nI s) (nI t) g := by
  unfold wpX_searchDeep
  exact xw_forget hs (fun f hf hfs => ⟨33, xw_deep_l ht h1 h0 32 0 s f rfl (fl_D0 hs ht hst hf hfs)⟩)
