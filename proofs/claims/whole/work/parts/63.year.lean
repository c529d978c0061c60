/-! Call: year. -/
def sp_dr (s : Int32) : Int32 := s * 1103515245 + 12345
def sp_dv (s : Int32) : Nat := (sp_dr s).toBitVec.toNat / 65536
theorem sp_dv_lt (s : Int32) : sp_dv s < 65536 := by
  unfold sp_dv
  have := (sp_dr s).toBitVec.isLt
  omega
theorem mx_ofN {x : Int32} {m : Nat} (h : x.toBitVec.toNat = m) : x = nI m := Int32.toBitVec_inj.mp (by
  show _ = BitVec.ofNat 32 _
  rw [← h]; simp)
theorem sp_dv_is (s : Int32) : ((sp_dr s).toUInt32 >>> ((16 : Int32).toUInt32 &&& Int32.toUInt32 31)).toInt32 = nI (sp_dv s) := mx_ofN (by
  rw [pk_ushr (sp_dr s) 16 16 (by decide)]; rfl)
def sp_dd (s : Int32) : Int32 × Nat :=
  if sp_dv s % 6 < 2 then (sp_dr s, 0)
  else if sp_dv s % 6 < 5 then (sp_dr (sp_dr s), if sp_dv s % 6 = 2 then 10 + sp_dv (sp_dr s) % 8 else if sp_dv s % 6 = 3 then 20 + sp_dv (sp_dr s) % 8 else 30 + sp_dv (sp_dr s) % 10)
  else (sp_dr (sp_dr (sp_dr s)), 100 + 10 * (sp_dv (sp_dr s) % 8) + sp_dv (sp_dr (sp_dr s)) % 10)
theorem sp_dd_lt (s : Int32) : (sp_dd s).2 < 200 := by
  unfold sp_dd
  repeat' split
  all_goals (simp only; omega)
def sp_year : Nat → Int32 → (Nat → Int32) → Nat → (Nat → Int32) × Nat
  | 0, _, A, c => (A, c)
  | f + 1, s, A, c => if sp_whyD A (sp_dd s).2 = 0 then sp_year f (sp_dd s).1 (sp_doD A (sp_dd s).2) (c + 1) else sp_year f (sp_dd s).1 A c
theorem sp_year_inv {V : vw} : ∀ f s A c, sp_now (vA V) A → InvM (vw_A V A) → sp_now (vA V) (sp_year f s A c).1 ∧ InvM (vw_A V (sp_year f s A c).1)
  | 0, _, _, _, s, m => ⟨s, m⟩
  | f + 1, sd, A, c, s, m => by
    unfold sp_year
    by_cases q : sp_whyD A (sp_dd sd).2 = 0
    · rw [if_pos q]
      exact sp_year_inv f _ _ _ (s.tr (sp_doD_now A (sp_dd_lt sd))) (m.tell (V := vw_A V A) (sp_dd_lt sd) q)
    · rw [if_neg q]; exact sp_year_inv f _ _ _ s m
theorem sp_year_c : ∀ f s A c, c ≤ (sp_year f s A c).2 ∧ (sp_year f s A c).2 ≤ c + f ∧ ((sp_year f s A c).2 = c → (sp_year f s A c).1 = A)
  | 0, _, A, c => ⟨Nat.le_refl _, Nat.le_refl _, fun _ => rfl⟩
  | f + 1, s, A, c => by
    unfold sp_year
    by_cases q : sp_whyD A (sp_dd s).2 = 0
    · rw [if_pos q]
      obtain ⟨h1, h2, -⟩ := sp_year_c f (sp_dd s).1 (sp_doD A (sp_dd s).2) (c + 1)
      exact ⟨by omega, by omega, fun d => by omega⟩
    · rw [if_neg q]
      obtain ⟨h1, h2, h3⟩ := sp_year_c f (sp_dd s).1 A c
      exact ⟨h1, by omega, h3⟩
def yn (x : Int32) : Bool := !decide (x < 1) && !decide (40 < x)
theorem ynT {x : Int32} (h : yn x = true) : ∃ j, 1 ≤ j ∧ j ≤ 40 ∧ x = nI j := by
  unfold yn at h
  simp only [Bool.and_eq_true, Bool.not_eq_true', decide_eq_false_iff_not] at h
  have h0 : ¬ x < 0 := fun c => h.1 (by
    rw [Int32.lt_iff_toInt_lt] at c ⊢
    have e1 : (0 : Int32).toInt = 0 := rfl
    have e2 : (1 : Int32).toInt = 1 := rfl
    omega)
  obtain ⟨j, hj, rfl⟩ := nI_of h0
  have a : ¬ j < 1 := fun c => h.1 (show nI j < nI 1 from (nI_ltI hj (by omega)).mpr c)
  have b : ¬ 40 < j := fun c => h.2 (show nI 40 < nI j from (nI_ltI (by omega) hj).mpr c)
  exact ⟨j, by omega, by omega, rfl⟩
def V_year (V : vw) (x y : Int32) : vw := cond (yn y) (V_done V (sp_year y.toNatClampNeg x (vA V) 0).1 (sp_year y.toNatClampNeg x (vA V) 0).2) V
def v_year (V : vw) (x y : Int32) : Int32 := cond (yn y) (nI (sp_year y.toNatClampNeg x (vA V) 0).2) (-3)
theorem im_year {V : vw} {x y : Int32} (m : InvM V) : InvM (V_year V x y) := by
  unfold V_year
  cases yn y with
  | false => exact m
  | true =>
    obtain ⟨s1, m1⟩ := sp_year_inv (V := V) y.toNatClampNeg x (vA V) 0 (fun _ _ => rfl) m
    exact im_done m s1 m1
def mx_sdr (a k : Nat) : Bool := Nat.beq a 50 && Nat.beq k 16
theorem ct126 {E : mv_E} {D k n : Nat} {h : mv_H} {Q : mv_Q} {s : Int32} (e : mv_I h 50 16 = s) (H : Q (some (.int (nI (sp_dv s)))) (mv_sI h 50 16 (sp_dr s))) : mv_VE E D k n 126 0 [some (.ref 50)] [] h Q := by
  apply sg126_0
  rw [e]
  show Q (some (.int (((sp_dr s).toUInt32 >>> ((16 : Int32).toUInt32 &&& Int32.toUInt32 31)).toInt32))) (mv_sI h 50 16 (sp_dr s))
  rw [sp_dv_is]
  exact H
theorem mx_rem (a d : Nat) (ha : a < 65536) (h0 : 0 < d) (hd : d < 2 ^ 31) : nI a - nI a / nI d * nI d = nI (a % d) := pk_rem (by omega) h0 hd
theorem ct125 {E : mv_E} {D k n : Nat} {h : mv_H} {Q : mv_Q} {s : Int32} (e : mv_I h 50 16 = s) (H : ∀ h', mx_fz mx_sdr h h' → mv_I h' 50 16 = (sp_dd s).1 → Q (some (.int (nI (sp_dd s).2))) h') : mv_VE E (D + 1) k n 125 0 [some (.ref 50), none] [] h Q := by
  have l1 := sp_dv_lt s
  have l2 := sp_dv_lt (sp_dr s)
  have l3 := sp_dv_lt (sp_dr (sp_dr s))
  have z1 : ∀ (h : mv_H) (x : Int32), mx_fz mx_sdr h (mv_sI h 50 16 x) := fun h x => (mx_fr.sI (S := mx_sdr) rfl).z
  unfold sp_dd at H
  apply sg125_0
  refine ct126 e ⟨_, rfl, ?_⟩
  rw [show nI (sp_dv s) - nI (sp_dv s) / 6 * 6 = nI (sp_dv s % 6) from mx_rem _ 6 l1 (by omega) (by omega)]
  have l6 : sp_dv s % 6 < 6 := Nat.mod_lt _ (by omega)
  refine mx_eq (sp_dv s % 6) 0 (fun q => ?_) (fun q => ?_) (by omega) (by omega)
  · rw [if_pos (by omega)] at H; exact H _ (z1 _ _) mx_Iss
  refine mx_eq (sp_dv s % 6) 1 (fun q1 => ?_) (fun q1 => ?_) (by omega) (by omega)
  · rw [if_pos (by omega)] at H; exact H _ (z1 _ _) mx_Iss
  rw [if_neg (by omega)] at H
  refine mx_eq (sp_dv s % 6) 2 (fun q2 => ?_) (fun q2 => ?_) (by omega) (by omega)
  · rw [if_pos (by omega), if_pos q2] at H
    refine ct126 mx_Iss ⟨_, rfl, ?_⟩
    rw [show nI (sp_dv (sp_dr s)) - nI (sp_dv (sp_dr s)) / 8 * 8 = nI (sp_dv (sp_dr s) % 8) from mx_rem _ 8 l2 (by omega) (by omega), show (10 : Int32) + nI (sp_dv (sp_dr s) % 8) = nI (10 + sp_dv (sp_dr s) % 8) from nI_add 10 _]
    exact H _ ((z1 _ _).tr (z1 _ _)) mx_Iss
  refine mx_eq (sp_dv s % 6) 3 (fun q3 => ?_) (fun q3 => ?_) (by omega) (by omega)
  · rw [if_pos (by omega), if_neg q2, if_pos q3] at H
    refine ct126 mx_Iss ⟨_, rfl, ?_⟩
    rw [show nI (sp_dv (sp_dr s)) - nI (sp_dv (sp_dr s)) / 8 * 8 = nI (sp_dv (sp_dr s) % 8) from mx_rem _ 8 l2 (by omega) (by omega), show (20 : Int32) + nI (sp_dv (sp_dr s) % 8) = nI (20 + sp_dv (sp_dr s) % 8) from nI_add 20 _]
    exact H _ ((z1 _ _).tr (z1 _ _)) mx_Iss
  refine mx_eq (sp_dv s % 6) 4 (fun q4 => ?_) (fun q4 => ?_) (by omega) (by omega)
  · rw [if_pos (by omega), if_neg q2, if_neg q3] at H
    refine ct126 mx_Iss ⟨_, rfl, ?_⟩
    rw [show nI (sp_dv (sp_dr s)) - nI (sp_dv (sp_dr s)) / 10 * 10 = nI (sp_dv (sp_dr s) % 10) from mx_rem _ 10 l2 (by omega) (by omega), show (30 : Int32) + nI (sp_dv (sp_dr s) % 10) = nI (30 + sp_dv (sp_dr s) % 10) from nI_add 30 _]
    exact H _ ((z1 _ _).tr (z1 _ _)) mx_Iss
  · rw [if_neg (by omega)] at H
    refine ct126 mx_Iss ⟨_, rfl, ct126 mx_Iss ⟨_, rfl, ?_⟩⟩
    rw [show nI (sp_dv (sp_dr s)) - nI (sp_dv (sp_dr s)) / 8 * 8 = nI (sp_dv (sp_dr s) % 8) from mx_rem _ 8 l2 (by omega) (by omega), show (10 : Int32) * nI (sp_dv (sp_dr s) % 8) = nI (10 * (sp_dv (sp_dr s) % 8)) from pk_mul 10 _, show (100 : Int32) + nI (10 * (sp_dv (sp_dr s) % 8)) = nI (100 + 10 * (sp_dv (sp_dr s) % 8)) from nI_add 100 _, show nI (sp_dv (sp_dr (sp_dr s))) - nI (sp_dv (sp_dr (sp_dr s))) / 10 * 10 = nI (sp_dv (sp_dr (sp_dr s)) % 10) from mx_rem _ 10 l3 (by omega) (by omega), nI_add]
    exact H _ ((z1 _ _).tr ((z1 _ _).tr (z1 _ _))) mx_Iss
theorem cc124 {E : mv_E} {D k n : Nat} {h : mv_H} {Q : mv_Q} {V : vw} {x y : Int32} (i : InvC E h V) (m : InvM V) (H : ∀ h', InvC E h' (V_year V x y) → fCl h h' → Q (some (.int (v_year V x y))) h') : mv_VE E (D + 6) k n 124 0 [some (.ref 50), some (.int x), some (.int y), none, none] [] h Q := by
  apply sg124_0
  unfold V_year v_year at H
  refine mx_if (fun q => ?_) (fun q => mx_if (fun r => ?_) (fun r => ?_))
  · have z : yn y = false := by unfold yn; rw [decide_eq_true q]; rfl
    rw [z] at H; exact H h i fCl.rf
  · have z : yn y = false := by unfold yn; rw [decide_eq_true r, Bool.not_true, Bool.and_false]
    rw [z] at H; exact H h i fCl.rf
  · have z : yn y = true := by unfold yn; rw [decide_eq_false q, decide_eq_false r]; rfl
    rw [z, cond_true, cond_true] at H
    obtain ⟨N, n1, n40, rfl⟩ := ynT z
    rw [nI_clamp (by omega)] at H
    refine ct67 (Or.inr (Or.inl rfl)) (Or.inl rfl) (fun h1 f1 c1 c2 => ⟨rfl, ?_⟩)
    have g1 : mx_fz mx_sY h (mv_sI h1 50 16 x) := (mx_sYof f1.z (fun a k q => by
      unfold mx_sx
      rw [mv_bne (by omega), mv_bne (by omega)]; rfl)).tr (mx_fr.sI (S := mx_sY) rfl).z
    have nw := InvC.now i.1
    have z50 : mx_fz mx_sdr h1 (mv_sI h1 50 16 x) := (mx_fr.sI (S := mx_sdr) rfl).z
    have d50 : ∀ a k, a ≠ 50 → mx_sdr a k = false := fun a k q => by unfold mx_sdr; rw [mv_bne q]; rfl
    have j0 : i_st h1 83 (sp_was (vA V)) := ⟨(c1 0 (by omega)).trans nw.1, (c1 1 (by omega)).trans nw.2.1, (c1 2 (by omega)).trans nw.2.2.1, fun p hp => (c2 p hp).trans (nw.2.2.2 p hp)⟩
    have j1 : i_st (mv_sI h1 50 16 x) 83 (sp_was (vA V)) := j0.fz z50 (fun k => rfl) (fun k => rfl)
    have n0 : i_st h1 81 (sp_was (vA V)) := nw.fz f1.z (fun k => rfl) (fun k => rfl)
    have n1' : i_st (mv_sI h1 50 16 x) 81 (sp_was (vA V)) := n0.fz z50 (fun k => rfl) (fun k => rfl)
    have iv0 : se_iv E h1 := i.2.fz f1.z (fun a k q => by
      unfold mx_sx
      rw [mv_bne (by unfold cr_reg at q; omega), mv_bne (by unfold cr_reg at q; omega)]; rfl)
    have iv1 : se_iv E (mv_sI h1 50 16 x) := iv0.fz z50 (fun a k q => d50 a k (by unfold cr_reg at q; omega))
    have key : ∀ f l s A c h2, l + f = N → c ≤ l → sp_now (vA V) A → InvM (vw_A V A) → mx_fz mx_sY h h2 → se_iv E h2 → i_st h2 81 (sp_was A) → i_st h2 83 (sp_was (vA V)) → mv_I h2 50 16 = s → (c = 0 → A = vA V) → (∀ h', InvC E h' (V_done V (sp_year f s A c).1 (sp_year f s A c).2) → fCl h h' → Q (some (.int (nI (sp_year f s A c).2))) h') → mv_VE E (D + 6) k n 124 35 [some (.ref 50), none, some (.int (nI N)), some (.int (nI c)), some (.int (nI l))] [] h2 Q := by
      intro f
      induction f with
      | zero =>
        intro l s A c h2 hk cl sn mA f2 iv2 i2 i3 e16 c0 K
        apply sg124_35
        exact mx_ltF l N (by omega) (c_done c i m (by omega) sn c0 f2 iv2 i2 i3 K) (by omega)
      | succ f ih =>
        intro l s A c h2 hk cl sn mA f2 iv2 i2 i3 e16 c0 K
        unfold sp_year at K
        apply sg124_35
        refine mx_ltT l N (by omega) (ct125 e16 (fun h3 f3 e3 => ⟨_, rfl, ?_⟩)) (by omega)
        have dl := sp_dd_lt s
        rw [nI_l (by omega)]
        have f23 : mx_fz mx_sY h h3 := f2.tr (mx_sYof f3 (fun a k q => by
          unfold mx_sdr
          rcases q.2 with c | c
          · rw [mv_bne c]; rfl
          · rw [mv_bne c, Bool.and_false]))
        have iv3 : se_iv E h3 := iv2.fz f3 (fun a k q => d50 a k (by unfold cr_reg at q; omega))
        have i2' : i_st h3 81 (sp_was A) := i2.fz f3 (fun k => rfl) (fun k => rfl)
        have i3' : i_st h3 83 (sp_was (vA V)) := i3.fz f3 (fun k => rfl) (fun k => rfl)
        have ed := dn_N dl
        refine ct120 (Or.inl rfl) (InvC.crY i.1 m sn f23) mA.1.1 iv3 i2' (fun w h4 f4 i4 iv4 => ⟨_, rfl, ?_⟩) (fun w => ⟨_, rfl, ?_⟩)
        · rw [ed] at w i4
          rw [if_pos w] at K
          rw [if_pos rfl, nI_1, nI_1]
          refine ih (l + 1) (sp_dd s).1 _ (c + 1) h4 (by omega) (by omega) (sn.tr (sp_doD_now A dl)) (mA.tell (V := vw_A V A) dl w) (f23.tr (mx_sYX f4)) iv4 i4 (i3'.fz f4 (fun k => mx_sXf (by omega)) (fun k => mx_sXf (by omega))) ?_ (fun c => by omega) K
          rw [(f4.2.2 50 16 (mx_sXf (by omega))).1]; exact e3
        · rw [ed] at w
          rw [if_neg w] at K
          have wl := sp_whyD_lt A (sp_dd s).2
          rw [ed, if_neg (nI_ne0 (by omega) (by omega)), nI_1]
          exact ih (l + 1) (sp_dd s).1 A c h3 (by omega) (by omega) sn mA f23 iv3 i2' i3' e3 c0 K
    exact key N 0 x (vA V) 0 _ (by omega) (by omega) (fun _ _ => rfl) m g1 iv1 n1' j1 mx_Iss (fun _ => rfl) H
theorem ct247 {E : mv_E} {D k n : Nat} {h : mv_H} {Q : mv_Q} {s y : Int32} (d : Nat) (h0 : 0 < d) (hd : d < 2 ^ 31) (ed : y = nI d) (e : mv_I h 148 20 = s) (H : Q (some (.int (nI (sp_dv s % d)))) (mv_sI h 148 20 (sp_dr s))) : mv_VE E D k n 247 0 [some (.ref 148), some (.int y)] [] h Q := by
  subst ed
  apply sg247_0
  rw [e, Int32.mul_comm 1103515245 s]
  show mv_gd _ (Q (some (.int (((sp_dr s).toUInt32 >>> ((16 : Int32).toUInt32 &&& Int32.toUInt32 31)).toInt32 - ((sp_dr s).toUInt32 >>> ((16 : Int32).toUInt32 &&& Int32.toUInt32 31)).toInt32 / nI d * nI d))) (mv_sI h 148 20 (sp_dr s)))
  rw [sp_dv_is, mx_rem _ d (sp_dv_lt s) h0 hd]
  exact mv_gdI (by rw [decide_eq_false (nI_ne0 h0 hd)]; rfl) H
theorem cw246 {E : mv_E} {D k n : Nat} {h0 h : mv_H} {Q : mv_Q} {V : vw} {s : Int32} (f : fM V h0 h) (e : mv_I h 148 20 = s) (H : ∀ h', fM V h0 h' → mv_I h' 148 20 = (sp_dd s).1 → mv_I h' 155 = mv_I h 155 → Q (some (.int (nI (sp_dd s).2))) h') : mv_VE E (D + 1) k n 246 0 [some (.ref 148), none, none] [] h Q := by
  have e5 : ∀ (h : mv_H) (x : Int32), mv_I (mv_sI h 148 20 x) 155 = mv_I h 155 := fun h x => funext fun l => mx_InE (by omega)
  have g : ∀ {h : mv_H} (x : Int32), fM V h0 h → fM V h0 (mv_sI h 148 20 x) := fun x f => f.sc (a := 148) (k := 20) rfl (by omega)
  unfold sp_dd at H
  apply sg246_0
  refine ct247 6 (by omega) (by omega) rfl e ⟨_, rfl, ?_⟩
  have l6 : sp_dv s % 6 < 6 := Nat.mod_lt _ (by omega)
  refine mx_lt (sp_dv s % 6) 2 (fun q => ?_) (fun q => ?_) (by omega) (by omega)
  · rw [if_pos q] at H; exact H _ (g _ f) mx_Iss (e5 _ _)
  rw [if_neg (by omega)] at H
  refine mx_lt (sp_dv s % 6) 5 (fun q1 => ?_) (fun q1 => ?_) (by omega) (by omega)
  · rw [if_pos q1] at H
    have fin : ∀ (c d : Nat) (cI : Int32), cI = nI c → (if sp_dv s % 6 = 2 then 10 + sp_dv (sp_dr s) % 8 else if sp_dv s % 6 = 3 then 20 + sp_dv (sp_dr s) % 8 else 30 + sp_dv (sp_dr s) % 10) = c + sp_dv (sp_dr s) % d → Q (some (.int (cI + nI (sp_dv (sp_dr s) % d)))) (mv_sI (mv_sI h 148 20 (sp_dr s)) 148 20 (sp_dr (sp_dr s))) := by
      intro c d cI hc hd
      have := H (mv_sI (mv_sI h 148 20 (sp_dr s)) 148 20 (sp_dr (sp_dr s))) (g _ (g _ f)) mx_Iss ((e5 _ _).trans (e5 _ _))
      have this : Q (some (.int (nI (if sp_dv s % 6 = 2 then 10 + sp_dv (sp_dr s) % 8 else if sp_dv s % 6 = 3 then 20 + sp_dv (sp_dr s) % 8 else 30 + sp_dv (sp_dr s) % 10)))) (mv_sI (mv_sI h 148 20 (sp_dr s)) 148 20 (sp_dr (sp_dr s))) := this
      rw [hd] at this
      rw [hc, nI_add]; exact this
    refine mx_eq (sp_dv s % 6) 2 (fun q2 => ?_) (fun q2 => ?_) (by omega) (by omega)
    · exact ct247 8 (by omega) (by omega) rfl mx_Iss ⟨_, rfl, fin 10 8 10 rfl (by rw [if_pos q2])⟩
    · refine mx_eq (sp_dv s % 6) 3 (fun q3 => ?_) (fun q3 => ?_) (by omega) (by omega)
      · exact ct247 8 (by omega) (by omega) rfl mx_Iss ⟨_, rfl, fin 20 8 20 rfl (by rw [if_neg q2, if_pos q3])⟩
      · exact ct247 10 (by omega) (by omega) rfl mx_Iss ⟨_, rfl, fin 30 10 30 rfl (by rw [if_neg q2, if_neg q3])⟩
  · rw [if_neg (by omega)] at H
    refine ct247 8 (by omega) (by omega) rfl mx_Iss ⟨_, rfl, ct247 10 (by omega) (by omega) rfl mx_Iss ⟨_, rfl, ?_⟩⟩
    rw [show (10 : Int32) * nI (sp_dv (sp_dr s) % 8) = nI (10 * (sp_dv (sp_dr s) % 8)) from pk_mul 10 _, show (100 : Int32) + nI (10 * (sp_dv (sp_dr s) % 8)) = nI (100 + 10 * (sp_dv (sp_dr s) % 8)) from nI_add 100 _, nI_add]
    exact H _ (g _ (g _ (g _ f))) mx_Iss ((e5 _ _).trans ((e5 _ _).trans (e5 _ _)))
theorem cm245 {E : mv_E} {D k n : Nat} {h : mv_H} {Q : mv_Q} {V : vw} {x y : Int32} (e : vw_of h = V) (m : InvM V) (H : ∀ h', fM (V_year V x y) h h' → Q (some (.int (v_year V x y))) h') : mv_VE E (D + 6) k n 245 0 [some (.ref 148), some (.int x), some (.int y), none, none, none] [] h Q := by
  have f0 := fM.of e
  apply sg245_0
  unfold V_year v_year at H
  have ey : pf182 y.toInt64 1 40 = yn y := mx_wi (x := y) (L := 1) (H := 40) 1 40 rfl rfl
  refine mx_cdb _ ey (fun z => ?_) (fun z => ?_)
  · rw [z, cond_true, cond_true] at H
    obtain ⟨N, n1, n40, rfl⟩ := ynT z
    rw [nI_clamp (by omega)] at H
    refine cw227 f0 (fun h1 f1 g1 => ⟨rfl, ?_⟩)
    have key : ∀ f l s A c h2, l + f = N → c ≤ l → sp_now (vA V) A → InvM (vw_A V A) → fM (vw_A V A) h h2 → (∀ j, j < 11 → mv_I h2 155 j = vA V (65 + j)) → mv_I h2 148 20 = s → (c = 0 → A = vA V) → (∀ h', fM (V_done V (sp_year f s A c).1 (sp_year f s A c).2) h h' → Q (some (.int (nI (sp_year f s A c).2))) h') → mv_VE E (D + 6) k n 245 34 [some (.ref 148), none, some (.int (nI N)), some (.int (nI c)), some (.int (nI l)), none] [] h2 Q := by
      intro f
      induction f with
      | zero =>
        intro l s A c h2 hk cl sn mA f2 e155 e20 c0 K
        apply sg245_34
        exact mx_ltF l N (by omega) (cm_done c m (by omega) sn c0 f2 e155 K) (by omega)
      | succ f ih =>
        intro l s A c h2 hk cl sn mA f2 e155 e20 c0 K
        have dl := sp_dd_lt s
        have ed := dn_N dl
        have wl := sp_whyD_lt A (sp_dd s).2
        unfold sp_year at K
        apply sg245_34
        refine mx_ltT l N (by omega) (cw246 f2 e20 (fun h3 f3 e3 e3' => ⟨_, rfl, ?_⟩)) (by omega)
        rw [cw241 f3 mA, nI_l (by omega), ed, nI_1, nI_1]
        show if nI (sp_whyD A (sp_dd s).2) = 0 then _ else _
        by_cases w : sp_whyD A (sp_dd s).2 = 0
        · rw [if_pos w] at K
          refine mx_T (by rw [w]; rfl) ?_
          refine cw242 (V := vw_A V A) (sp_dd s).2 f3 mA dl w rfl (fun h4 f4 g4 => ⟨rfl, ?_⟩)
          exact ih (l + 1) (sp_dd s).1 _ (c + 1) h4 (by omega) (by omega) (sn.tr (sp_doD_now A dl)) (mA.tell (V := vw_A V A) dl w) f4 (fun j hj => by rw [g4 155 j (by omega), e3']; exact e155 j hj) (by rw [g4 148 20 (by omega)]; exact e3) (fun c => by omega) K
        · rw [if_neg w] at K
          refine mx_F (nI_ne0 (by omega) (by omega)) ?_
          exact ih (l + 1) (sp_dd s).1 A c h3 (by omega) (by omega) sn mA f3 (fun j hj => by rw [e3']; exact e155 j hj) e3 c0 K
    exact key N 0 x (vA V) 0 _ (by omega) (by omega) (fun _ _ => rfl) m (f1.sc (a := 148) (k := 20) rfl (by omega)) (fun j hj => by rw [mx_InE (by omega)]; exact g1 j hj) mx_Iss (fun _ => rfl) H
  · rw [z] at H; exact H _ f0
