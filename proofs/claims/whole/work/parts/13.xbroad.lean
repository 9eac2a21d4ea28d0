theorem xw_broad70 {post : Int32 → SX → Prop} {J : Int32 → Int32 → (Nat → Int32) → (Nat → Int32) → (Nat → Int32) → (Nat → Int32) → (Nat → Int32) → (Nat → Int32) → (Nat → Int32) → (Nat → Int32) → (Nat → Int32) → (Nat → Int32) → (Nat → Int32) → Prop} {f_present f_leastSize f_inEvery f_inSome f_cutByEvery f_cutBySome : Int32} {a_start a_end a_rooms a_left a_width a_done a_height a_excess : Nat → Int32} {s t i u : Nat} (hi : i < 16)
    (hJ : ∀ w f v q ln, fl_Bq (fl_v a_left) (fl_v f) (fl_v v) (fl_v q) s (i + 1) w ln → J (nI w) (nI (i + 1)) a_start a_end a_rooms a_left f q v a_width a_done a_height a_excess) :
    ∀ d j w f v q ln, j + d = 16 → i < w → ln i = u → fl_Bq (fl_v a_left) (fl_v f) (fl_v v) (fl_v q) s i w ln → (∀ y, y < j → 0 < fl_v a_left (u * 16 + y) → fl_v f y ≠ -1) →
      wX_searchBroad_70 post J (nI t) (nI i) (nI u) f_present f_leastSize f_inEvery f_inSome f_cutByEvery f_cutBySome (d + 1) (nI w) (nI j) a_start a_end a_rooms a_left f q v a_width a_done a_height a_excess := by
  intro d
  induction d with
  | zero =>
    intro j w f v q ln hj hiw hu hB hp
    have e : j = 16 := by omega
    subst e
    refine br_t (nI_le (a := 16) (b := 16) (by omega) (by decide)) (nm_r (nI_1 i) (hJ w f v q ln (fl_Bq2 hB hiw ?_)))
    rw [hu]; exact hp
  | succ d ih =>
    intro j w f v q ln hj hiw hu hB hp
    have hw := fl_Bq_w hB
    have hui := hB.2.2.2.1 i hiw
    rw [hu] at hui
    have hVu := hB.2.2.1 u hui.2.1 hui.2.2
    have hun := fl_un_nn (fl_v f)
    have hVu' : 0 ≤ (v u).toInt ∧ (v u).toInt ≤ 15 := by
      have : fl_v v u = (v u).toInt := rfl
      omega
    refine br_f (nI_ge (b := 16) (by omega) (by decide)) ⟨vp_in_nI (by omega) (by decide), ?_⟩
    rw [nI_clamp (show j < 2 ^ 31 by omega)]
    refine fl_ce (fun hf => ⟨fl_ixi hui.2.1 (by omega), ?_⟩) (fun hf => nm_r (nI_1 j) (ih (j + 1) w f v q ln (by omega) hiw hu hB (lt_s hp (fun _ => hf))))
    rw [fl_ixc hui.2.1 (by omega)]
    refine fl_cle (fun hl => nm_r (nI_1 j) (ih (j + 1) w f v q ln (by omega) hiw hu hB (lt_s hp (fun z => absurd z (Int.not_lt.mpr hl))))) (fun hl => ?_)
    have hl2 : 0 < fl_v a_left (u * 16 + j) := Int.not_le.mp hl
    have hB1 := fl_Bq1 hB hiw (v := j) (by omega) hf (by rw [hu]; exact hl2)
    rw [hu] at hB1
    obtain ⟨hw16, hB1⟩ := hB1
    have e1 : (v u + 1).toInt = fl_v v u + 1 := fl_tadd (by rw [show (1 : Int32).toInt = 1 by decide]; omega) (by rw [show (1 : Int32).toInt = 1 by decide]; omega)
    rw [← fl_vun f j (n := u) (by omega), ← fl_vun q w (n := j) (by omega), ← e1, ← fl_vu] at hB1
    refine ⟨vp_in_nI (by omega) (by decide), nm_e ⟨vp_in_nI hui.2.1 (by decide), vp_in_nI (by omega) (by decide), nm_e ⟨vp_in_nI hw16 (by decide), nm_e (nm_r (nI_1 w) (nm_r (nI_1 j) ?_))⟩⟩⟩
    rw [nI_clamp (show u < 2 ^ 31 by omega), nI_clamp (show w < 2 ^ 31 by omega)]
    refine ih (j + 1) (w + 1) _ _ _ _ (by omega) (by omega) ?_ hB1 (lt_s (fun y hy hL => ?_) (fun _ => ?_))
    · show (if i = w then j else ln i) = u
      rw [if_neg (by omega)]; exact hu
    · rw [fl_vun f j (n := u) (by omega), fl_pun (by omega)]; exact hp y hy hL
    · rw [fl_vun f j (n := u) (by omega), fl_pus]; omega
theorem xw_broad45 {post : Int32 → SX → Prop} {f_present f_leastSize f_inEvery f_inSome f_cutByEvery f_cutBySome : Int32} {a_start a_end a_rooms a_left a_width a_done a_height a_excess : Nat → Int32} {s t : Nat} (ht : t < 16)
    (h1 : ∀ f v q, fl_Bf (fl_v a_left) (fl_v f) (fl_v v) s → fl_v v t ≠ -1 → post 1 (f_present, f_leastSize, f_inEvery, f_inSome, f_cutByEvery, f_cutBySome, a_start, a_end, a_rooms, a_left, f, q, v, a_width, a_done, a_height, a_excess))
    (h0 : ∀ f v q, fl_Bf (fl_v a_left) (fl_v f) (fl_v v) s → fl_v v t = -1 → post 0 (f_present, f_leastSize, f_inEvery, f_inSome, f_cutByEvery, f_cutBySome, a_start, a_end, a_rooms, a_left, f, q, v, a_width, a_done, a_height, a_excess)) :
    ∀ d i w f v q ln, i + d = 16 → fl_Bq (fl_v a_left) (fl_v f) (fl_v v) (fl_v q) s i w ln → wX_searchBroad_45 post (nI t) f_present f_leastSize f_inEvery f_inSome f_cutByEvery f_cutBySome (d + 1) (nI w) (nI i) a_start a_end a_rooms a_left f q v a_width a_done a_height a_excess := by
  have hE : ∀ f v q, fl_Bf (fl_v a_left) (fl_v f) (fl_v v) s → wX_searchBroad_152 post (nI t) f_present f_leastSize f_inEvery f_inSome f_cutByEvery f_cutBySome a_start a_end a_rooms a_left f q v a_width a_done a_height a_excess := by
    intro f v q hB
    refine ⟨vp_in_nI ht (by decide), ?_⟩
    rw [nI_clamp (show t < 2 ^ 31 by omega)]
    exact fl_ce (fun e => h0 f v q hB e) (fun e => h1 f v q hB e)
  intro d
  induction d with
  | zero =>
    intro i w f v q ln hi hB
    have hw := fl_Bq_w hB
    exact br_t (nI_le (by omega) (by omega)) (hE f v q (fl_Bq3 hB (by omega)))
  | succ d ih =>
    intro i w f v q ln hi hB
    have hw := fl_Bq_w hB
    by_cases hiw : w ≤ i
    · exact br_t (nI_le hiw (by omega)) (hE f v q (fl_Bq3 hB hiw))
    · have hq := hB.2.2.2.1 i (by omega)
      refine br_f (nI_ge (by omega) (by omega)) (br_f (nI_ge (b := 16) (by omega) (by decide)) ⟨vp_in_nI (by omega) (by decide), ?_⟩)
      rw [nI_clamp (show i < 2 ^ 31 by omega)]
      refine nm_r (fl_tn hq.1 (by omega)) ⟨17, ?_⟩
      exact xw_broad70 (by omega) (fun w f v q ln hB2 => ih (i + 1) w f v q ln (by omega) hB2) 16 0 w f v q ln rfl (by omega) rfl hB (fun y hy => by omega)
theorem xw_broad7 {post : Int32 → SX → Prop} {f_present f_leastSize f_inEvery f_inSome f_cutByEvery f_cutBySome : Int32} {a_start a_end a_rooms a_left a_from a_line a_width a_done a_height a_excess : Nat → Int32} {s t : Nat} (hs : s < 16) (ht : t < 16) (hf : ∀ v, v < 16 → v ≠ s → fl_v a_from v = -1) (hfs : fl_v a_from s = (s : Int))
    (h1 : ∀ f v q, fl_Bf (fl_v a_left) (fl_v f) (fl_v v) s → fl_v v t ≠ -1 → post 1 (f_present, f_leastSize, f_inEvery, f_inSome, f_cutByEvery, f_cutBySome, a_start, a_end, a_rooms, a_left, f, q, v, a_width, a_done, a_height, a_excess))
    (h0 : ∀ f v q, fl_Bf (fl_v a_left) (fl_v f) (fl_v v) s → fl_v v t = -1 → post 0 (f_present, f_leastSize, f_inEvery, f_inSome, f_cutByEvery, f_cutBySome, a_start, a_end, a_rooms, a_left, f, q, v, a_width, a_done, a_height, a_excess)) :
    ∀ d j v, j + d = 16 → (∀ y, y < j → fl_v v y = -1) → wX_searchBroad_7 post (nI s) (nI t) f_present f_leastSize f_inEvery f_inSome f_cutByEvery f_cutBySome (d + 1) (nI j) a_start a_end a_rooms a_left a_from a_line v a_width a_done a_height a_excess := by
  intro d
  induction d with
  | zero =>
    intro j v hj hp
    have e : j = 16 := by omega
    subst e
    refine br_t (nI_le (a := 16) (b := 16) (by omega) (by decide)) ⟨vp_in_nI hs (by decide), nm_e (nm_e ⟨17, ?_⟩)⟩
    rw [nI_clamp (show s < 2 ^ 31 by omega)]
    refine xw_broad45 (s := s) ht h1 h0 16 0 1 a_from _ _ (fun _ => s) rfl (fl_Bq0 hs hf hfs ?_ ?_ ?_)
    · intro x hx hxs
      rw [fl_vu, fl_pun hxs]; exact hp x hx
    · rw [fl_vu, fl_pus]; decide
    · rw [fl_vun _ _ (by omega), fl_pus]
  | succ d ih =>
    intro j v hj hp
    refine br_f (nI_ge (b := 16) (by omega) (by decide)) ⟨vp_in_nI (by omega) (by decide), nm_e (nm_r (nI_1 j) (ih (j + 1) _ (by omega) ?_))⟩
    intro y hy
    rw [nI_clamp (by omega), fl_vu]
    by_cases e : y = j
    · rw [e, fl_pus]; decide
    · rw [fl_pun e]; exact hp y (by omega)
theorem xw_broad {post : Int32 → SX → Prop} {f_present f_leastSize f_inEvery f_inSome f_cutByEvery f_cutBySome : Int32} {a_start a_end a_rooms a_left a_from a_line a_level a_width a_done a_height a_excess : Nat → Int32} {s t : Nat} (hs : s < 16) (ht : t < 16)
    (h1 : ∀ f v q, fl_Bf (fl_v a_left) (fl_v f) (fl_v v) s → fl_v v t ≠ -1 → post 1 (f_present, f_leastSize, f_inEvery, f_inSome, f_cutByEvery, f_cutBySome, a_start, a_end, a_rooms, a_left, f, q, v, a_width, a_done, a_height, a_excess))
    (h0 : ∀ f v q, fl_Bf (fl_v a_left) (fl_v f) (fl_v v) s → fl_v v t = -1 → post 0 (f_present, f_leastSize, f_inEvery, f_inSome, f_cutByEvery, f_cutBySome, a_start, a_end, a_rooms, a_left, f, q, v, a_width, a_done, a_height, a_excess)) : wpX_searchBroad post (f_present, f_leastSize, f_inEvery, f_inSome, f_cutByEvery, f_cutBySome, a_start, a_end, a_rooms, a_left, a_from, a_line, a_level, a_width, a_done, a_height, a_excess) (nI s) (nI t) := by
  unfold wpX_searchBroad
  exact xw_forget hs (fun f hf hfs => ⟨17, xw_broad7 hs ht hf hfs h1 h0 16 0 a_level rfl (fun y hy => by omega)⟩)
