def fl_sh (c : Nat) : Nat → Nat
  | 0 => c
  | p + 1 => fl_sh c p / 3
def fl_dg (c p : Nat) : Nat := fl_sh c p % 3
theorem fl_sh_s (c : Nat) : ∀ p, fl_sh c (p + 1) = fl_sh (c / 3) p := by
  intro p
  induction p with
  | zero => rfl
  | succ p ih => show fl_sh c (p + 1) / 3 = fl_sh (c / 3) p / 3; rw [ih]
theorem fl_sh_le (c : Nat) : ∀ p, fl_sh c p ≤ c := by
  intro p
  induction p with
  | zero => exact Nat.le_refl _
  | succ p ih => show fl_sh c p / 3 ≤ c; omega
theorem fl_code : ∀ (n : Nat) (g : Nat → Nat), (∀ p, p < n → g p < 3) → ∃ c, c < 3 ^ n ∧ ∀ p, p < n → fl_dg c p = g p := by
  intro n
  induction n with
  | zero => intro g _; exact ⟨0, by decide, fun p hp => by omega⟩
  | succ n ih =>
    intro g hg
    obtain ⟨c, hc, h⟩ := ih (fun p => g (p + 1)) (fun p hp => hg (p + 1) (by omega))
    have h0 := hg 0 (by omega)
    refine ⟨g 0 + 3 * c, by rw [Nat.pow_succ]; omega, fun p hp => ?_⟩
    cases p with
    | zero => show (g 0 + 3 * c) % 3 = g 0; omega
    | succ p =>
      show fl_sh (g 0 + 3 * c) (p + 1) % 3 = g (p + 1)
      rw [fl_sh_s, show (g 0 + 3 * c) / 3 = c by omega]
      exact h p (by omega)
/-- s wholly in, t wholly out, as far as n -/
def fl_Vd (s t c n : Nat) : Prop := ∀ b, b < n → (b = s → fl_dg c b = 2) ∧ (b = t → fl_dg c b = 0)
def fl_in (c : Nat) : Nat → Bool := fun q => decide (0 < fl_dg c q)
def fl_out (c : Nat) : Nat → Bool := fun q => decide (fl_dg c q = 2)
def fl_pn (much : Int) (c n : Nat) : Int := fl_S n (fun q => if fl_dg c q = 1 then much else 0)
def fl_pz (pr : Int32) (st en rm : Nat → Int32) (most much : Int) : Nat → Int := fun c => fl_pn much c 8 + fl_Cg pr st en rm most (fl_out c) (fl_in c)
theorem fl_pn_b {much : Int} (hm : 0 ≤ much ∧ much ≤ 99) (c : Nat) : ∀ n : Nat, 0 ≤ fl_pn much c n ∧ fl_pn much c n ≤ 99 * (n : Int) := by
  intro n
  induction n with
  | zero => exact ⟨Int.le_refl _, Int.le_refl _⟩
  | succ n ih =>
    have e : fl_pn much c (n + 1) = fl_pn much c n + (if fl_dg c n = 1 then much else 0) := rfl
    rw [e]
    split <;> omega
def fl_Q (s t c : Nat) (much : Int) (p : Nat) (n : Int) : Prop := ((fl_Vd s t c p ∧ n = fl_pn much c p) ∨ (¬ fl_Vd s t c p ∧ 20000 ≤ n)) ∧ 0 ≤ n ∧ n ≤ 20000 + 99 * (p : Int)
theorem fl_Q0 (s t c : Nat) (much : Int) : fl_Q s t c much 0 0 := ⟨Or.inl ⟨fun b hb => by omega, rfl⟩, by decide, by decide⟩
theorem fl_Q1 {s t c p : Nat} {much n : Int} (h : fl_Q s t c much p n) (hm : 0 ≤ much ∧ much ≤ 99) (h1 : p = s → fl_dg c p = 2) (h2 : p = t → fl_dg c p = 0) : fl_Q s t c much (p + 1) (if fl_dg c p = 1 then n + much else n) := by
  obtain ⟨h3, h4, h5⟩ := h
  have e : fl_pn much c (p + 1) = fl_pn much c p + (if fl_dg c p = 1 then much else 0) := rfl
  refine ⟨?_, by split <;> omega, by split <;> omega⟩
  rcases h3 with ⟨h6, h7⟩ | ⟨h6, h7⟩
  · refine Or.inl ⟨lt_s h6 ⟨h1, h2⟩, ?_⟩
    rw [e, h7]; split <;> omega
  · refine Or.inr ⟨fun z => h6 (fun b hb => z b (by omega)), ?_⟩
    split <;> omega
theorem fl_Q2 {s t c p : Nat} {much : Int} (h : ¬ ((p = s → fl_dg c p = 2) ∧ (p = t → fl_dg c p = 0))) : fl_Q s t c much (p + 1) 20000 :=
  ⟨Or.inr ⟨fun z => h (z p (by omega)), by decide⟩, by decide, by omega⟩
theorem yw_part32 {post : Int32 → Prop} {J : Int32 → Int32 → Prop} {f_size f_common f_joined f_cutBySome f_cutByAll : Int32} {a_there a_froms a_tos a_rooms : Nat → Int32} {pr much b least : Int32} {s t c : Nat} {most : Int} (hs : s < 8) (ht : t < 8) (hc : c < 6561) (hmo : 0 ≤ most) (hm : 0 ≤ much.toInt ∧ much.toInt ≤ 99) (hT : fl_Th pr a_there) (hN : fl_Net pr a_froms a_tos a_rooms) (hb : (b = 0 ∧ most = 99) ∨ (¬ b = 0 ∧ most = 1))
    (hL : fl_Le (fun c => fl_Vd s t c 8) (fl_pz pr a_froms a_tos a_rooms most much.toInt) c 10000 least.toInt)
    (hJ : ∀ z : Int32, fl_Le (fun c => fl_Vd s t c 8) (fl_pz pr a_froms a_tos a_rooms most much.toInt) (c + 1) 10000 z.toInt → J z (nI (c + 1))) :
    ∀ (d p : Nat) (n : Int32), p + d = 8 → fl_Q s t c much.toInt p n.toInt → wY_parted_32 post J (nI s) (nI t) much b least (nI c) f_size f_common f_joined f_cutBySome f_cutByAll a_there a_froms a_tos a_rooms (d + 1) (fl_cm (fl_in c) p) (fl_cm (fl_out c) p) n (nI (fl_sh c p)) (nI p) := by
  intro d
  induction d with
  | zero =>
    intro p n hp hQ
    have e : p = 8 := by omega
    subst e
    have hn := fl_pn_b hm c 8
    refine br_t (nI_le (a := 8) (b := 8) (by omega) (by decide)) (fl_cl (fun hl => ?_) (fun hl => ?_))
    · rw [show (10000 : Int32).toInt = 10000 by decide] at hl
      refine yw_size hT hN hb (fun r hr => ?_)
      have hr2 : r.toInt = fl_Cg pr a_froms a_tos a_rooms most (fl_out c) (fl_in c) := by
        rw [hr]
        refine fl_Cg_congr hN (fun q hq => ?_) (fun q hq => ?_)
        · rw [fl_cm_b _ 8 (by omega) q (by omega)]; simp [hq]
        · rw [fl_cm_b _ 8 (by omega) q (by omega)]; simp [hq]
      have hrb := fl_Cg_b (O := fl_out c) (I := fl_in c) hN hmo
      rw [← hr2] at hrb
      obtain ⟨h3, h4, h5⟩ := hQ
      rcases h3 with ⟨h6, h7⟩ | ⟨h6, h7⟩
      · have hz : (n + r).toInt = fl_pz pr a_froms a_tos a_rooms most much.toInt c := by
          rw [fl_tadd (by omega) (by omega), h7, hr2]; rfl
        refine fl_cle (fun hl2 => nm_r (nI_1 c) (hJ least (fl_Le_no hL (fun _ => by rw [← hz]; exact hl2)))) (fun hl2 => nm_r (nI_1 c) (hJ _ ?_))
        rw [hz]
        exact fl_Le_new hL h6 (by omega)
      · omega
    · rw [show (10000 : Int32).toInt = 10000 by decide] at hl
      obtain ⟨h3, h4, h5⟩ := hQ
      have hle := hL.1
      rcases h3 with ⟨h6, h7⟩ | ⟨h6, h7⟩
      · omega
      · exact fl_cle (fun hl2 => nm_r (nI_1 c) (hJ least (fl_Le_no hL (fun z => absurd z h6)))) (fun hl2 => by omega)
  | succ d ih =>
    intro p n hp hQ
    have hdg : fl_dg c p < 3 := Nat.mod_lt _ (by decide)
    have hsh := fl_sh_le c p
    have K : ∀ n2 : Int32, fl_Q s t c much.toInt (p + 1) n2.toInt → ∀ y, y = nI p + 1 → wY_parted_32 post J (nI s) (nI t) much b least (nI c) f_size f_common f_joined f_cutBySome f_cutByAll a_there a_froms a_tos a_rooms (d + 1) (fl_cm (fl_in c) (p + 1)) (fl_cm (fl_out c) (p + 1)) n2 (nI (fl_sh c (p + 1))) y :=
      fun n2 h => nm_r (nI_1 p) (ih (p + 1) n2 (by omega) h)
    have KB : ¬ ((p = s → fl_dg c p = 2) ∧ (p = t → fl_dg c p = 0)) → ∀ y, y = nI p + 1 → wY_parted_32 post J (nI s) (nI t) much b least (nI c) f_size f_common f_joined f_cutBySome f_cutByAll a_there a_froms a_tos a_rooms (d + 1) (fl_cm (fl_in c) (p + 1)) (fl_cm (fl_out c) (p + 1)) 20000 (nI (fl_sh c (p + 1))) y :=
      fun h => K 20000 (by rw [show (20000 : Int32).toInt = 20000 by decide]; exact fl_Q2 h)
    have K119 : ∀ n2 : Int32, n2.toInt = (if fl_dg c p = 1 then n.toInt + much.toInt else n.toInt) → (p = s → fl_dg c p = 2) → wY_parted_119 post J (wY_parted_32 post J (nI s) (nI t) much b least (nI c) f_size f_common f_joined f_cutBySome f_cutByAll a_there a_froms a_tos a_rooms (d + 1)) (nI s) (nI t) much b least (nI c) (fl_cm (fl_in c) (p + 1)) (fl_cm (fl_out c) (p + 1)) n2 (nI (fl_sh c (p + 1))) (nI p) (nI (fl_dg c p)) f_size f_common f_joined f_cutBySome f_cutByAll a_there a_froms a_tos a_rooms := by
      intro n2 hn2 h1
      refine pk_eq p t (fun e => pk_eq (fl_dg c p) 0 (fun e2 => K n2 ?_) (fun e2 => KB (fun z => e2 (z.2 e)))) (fun e => K n2 ?_)
      · rw [hn2]; exact fl_Q1 hQ hm h1 (fun _ => e2)
      · rw [hn2]; exact fl_Q1 hQ hm h1 (fun z => absurd z e)
    have K105 : ∀ n2 : Int32, n2.toInt = (if fl_dg c p = 1 then n.toInt + much.toInt else n.toInt) → wY_parted_105 post J (wY_parted_32 post J (nI s) (nI t) much b least (nI c) f_size f_common f_joined f_cutBySome f_cutByAll a_there a_froms a_tos a_rooms (d + 1)) (nI s) (nI t) much b least (nI c) (fl_cm (fl_in c) (p + 1)) (fl_cm (fl_out c) (p + 1)) (nI (fl_sh c (p + 1))) (nI p) (nI (fl_dg c p)) n2 f_size f_common f_joined f_cutBySome f_cutByAll a_there a_froms a_tos a_rooms := by
      intro n2 hn2
      exact pk_eq p s (fun e => pk_eq (fl_dg c p) 2 (fun e2 => K119 n2 hn2 (fun _ => e2)) (fun e2 => KB (fun z => e2 (z.1 e)))) (fun e => K119 n2 hn2 (fun z => absurd z e))
    have K88 : wY_parted_88 post J (wY_parted_32 post J (nI s) (nI t) much b least (nI c) f_size f_common f_joined f_cutBySome f_cutByAll a_there a_froms a_tos a_rooms (d + 1)) (nI s) (nI t) much b least (nI c) (fl_cm (fl_in c) (p + 1)) n (nI (fl_sh c (p + 1))) (nI p) (nI (fl_dg c p)) (fl_cm (fl_out c) (p + 1)) f_size f_common f_joined f_cutBySome f_cutByAll a_there a_froms a_tos a_rooms := by
      refine pk_eq (fl_dg c p) 1 (fun e => K105 _ ?_) (fun e => K105 n ?_)
      · have h4 := hQ.2.1
        have h5 := hQ.2.2
        rw [if_pos e, fl_tadd (by omega) (by omega)]
      · rw [if_neg e]
    have K68 : wY_parted_68 post J (wY_parted_32 post J (nI s) (nI t) much b least (nI c) f_size f_common f_joined f_cutBySome f_cutByAll a_there a_froms a_tos a_rooms (d + 1)) (nI s) (nI t) much b least (nI c) (fl_cm (fl_out c) p) n (nI (fl_sh c (p + 1))) (nI p) (nI (fl_dg c p)) (fl_cm (fl_in c) (p + 1)) f_size f_common f_joined f_cutBySome f_cutByAll a_there a_froms a_tos a_rooms := by
      refine pk_eq (fl_dg c p) 2 (fun e => ?_) (fun e => ?_)
      · have e3 : fl_cm (fl_out c) (p + 1) = fl_cm (fl_out c) p ||| ((1 : Int32) <<< (nI p &&& 31)) := if_pos (decide_eq_true e)
        rw [← e3]; exact K88
      · have e3 : fl_cm (fl_out c) (p + 1) = fl_cm (fl_out c) p := if_neg (by show ¬ decide (fl_dg c p = 2) = true; simpa using e)
        rw [e3] at K88; exact K88
    have e1 : nI (fl_sh c p) - nI (fl_sh c p) / 3 * 3 = nI (fl_dg c p) := pk_rem (d := 3) (by omega) (by omega) (by omega)
    have e2 : nI (fl_sh c p) / 3 = nI (fl_sh c (p + 1)) := pk_div (d := 3) (by omega) (by omega) (by omega)
    refine br_f (nI_ge (b := 8) (by omega) (by decide)) ⟨by decide, nm_r e1 ⟨by decide, nm_r e2 (pk_le (fl_dg c p) 0 (fun e => ?_) (fun e => ?_))⟩⟩
    · have e3 : fl_cm (fl_in c) (p + 1) = fl_cm (fl_in c) p := if_neg (by show ¬ decide (0 < fl_dg c p) = true; simp; omega)
      rw [e3] at K68; exact K68
    · have e3 : fl_cm (fl_in c) (p + 1) = fl_cm (fl_in c) p ||| ((1 : Int32) <<< (nI p &&& 31)) := if_pos (decide_eq_true e)
      rw [← e3]; exact K68
theorem yw_part8 {post : Int32 → Prop} {f_size f_common f_joined f_cutBySome f_cutByAll : Int32} {a_there a_froms a_tos a_rooms : Nat → Int32} {pr much b : Int32} {s t : Nat} {most : Int} (hs : s < 8) (ht : t < 8) (hmo : 0 ≤ most) (hm : 0 ≤ much.toInt ∧ much.toInt ≤ 99) (hT : fl_Th pr a_there) (hN : fl_Net pr a_froms a_tos a_rooms) (hb : (b = 0 ∧ most = 99) ∨ (¬ b = 0 ∧ most = 1))
    (h : ∀ x : Int32, fl_Le (fun c => fl_Vd s t c 8) (fl_pz pr a_froms a_tos a_rooms most much.toInt) 6561 10000 x.toInt → post x) :
    ∀ (d c : Nat) (x : Int32), c + d = 6561 → fl_Le (fun c => fl_Vd s t c 8) (fl_pz pr a_froms a_tos a_rooms most much.toInt) c 10000 x.toInt → wY_parted_8 post (nI s) (nI t) much b f_size f_common f_joined f_cutBySome f_cutByAll a_there a_froms a_tos a_rooms (d + 1) x (nI c) := by
  intro d
  induction d with
  | zero =>
    intro c x hc hL
    have e : c = 6561 := by omega
    subst e
    exact br_t (nI_le (a := 6561) (b := 6561) (by omega) (by decide)) (h x hL)
  | succ d ih =>
    intro c x hc hL
    exact br_f (nI_ge (b := 6561) (by omega) (by decide)) ⟨8 + 1, yw_part32 hs ht (by omega) hmo hm hT hN hb hL (fun z hz => ih (c + 1) z (by omega) hz) 8 0 0 rfl (by rw [fl_z0]; exact fl_Q0 s t c much.toInt)⟩
theorem yw_parted {post : Int32 → Prop} {f_size f_common f_joined f_cutBySome f_cutByAll : Int32} {a_there a_froms a_tos a_rooms : Nat → Int32} {pr much b : Int32} {s t : Nat} {most : Int} (hs : s < 8) (ht : t < 8) (hmo : 0 ≤ most) (hm : 0 ≤ much.toInt ∧ much.toInt ≤ 99) (hT : fl_Th pr a_there) (hN : fl_Net pr a_froms a_tos a_rooms) (hb : (b = 0 ∧ most = 99) ∨ (¬ b = 0 ∧ most = 1))
    (h : ∀ x : Int32, fl_Le (fun c => fl_Vd s t c 8) (fl_pz pr a_froms a_tos a_rooms most much.toInt) 6561 10000 x.toInt → post x) : wpY_parted post (f_size, f_common, f_joined, f_cutBySome, f_cutByAll, a_there, a_froms, a_tos, a_rooms) (nI s) (nI t) much b :=
  ⟨6561 + 1, yw_part8 hs ht hmo hm hT hN hb h 6561 0 10000 rfl ⟨by decide, Or.inl (by decide), fun j hj => by omega⟩⟩
