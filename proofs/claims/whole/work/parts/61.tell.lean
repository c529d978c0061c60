/-! Told deeds: why one can't be, what it does; the class's tryDeed, the model's whyNot and does. -/
theorem mx_T {c : Prop} [Decidable c] {A B : Prop} (h : c) (a : A) : if c then A else B := by rw [if_pos h]; exact a
theorem mx_F {c : Prop} [Decidable c] {A B : Prop} (h : ¬ c) (b : B) : if c then A else B := by rw [if_neg h]; exact b
def dn (v : Int64) : Nat := if v < 0 then 200 else if v < 200 then v.toInt32.toNatClampNeg else 200
theorem dn_N {j : Nat} (h : j < 200) : dn (lN j) = j := by
  unfold dn
  rw [if_neg (show ¬ lN j < 0 from fun c => by have := (lN_lt (b := 0) (by omega) (by omega)).mp c; omega), if_pos (show lN j < 200 from (lN_lt (b := 200) (by omega) (by omega)).mpr h), lN_i, nI_clamp (by omega)]
theorem dn_cases (v : Int64) : (∃ j, j < 200 ∧ v = lN j ∧ dn v = j) ∨ (dn v = 200 ∧ (v < 0 ∨ ¬ v < 200)) := by
  by_cases q : v < 0
  · exact Or.inr ⟨by unfold dn; rw [if_pos q], Or.inl q⟩
  · by_cases r : v < 200
    · obtain ⟨k, hk, rfl⟩ := pk_lOf q
      have r : lN k < lN 200 := r
      rw [pk_lLT hk (by omega)] at r
      exact Or.inl ⟨k, r, rfl, dn_N r⟩
    · exact Or.inr ⟨by unfold dn; rw [if_neg q, if_neg r], Or.inr r⟩
def sp_whyD (A : Nat → Int32) (j : Nat) : Nat :=
  if j = 0 then 0 else if 10 ≤ j ∧ j < 20 then sp_why A (nI (j - 10)) false else if 20 ≤ j ∧ j < 30 then sp_why A (nI (j - 20)) true
  else if 30 ≤ j ∧ j < 40 then 0 else if 100 ≤ j ∧ j < 200 then cond (pn A (nI ((j - 100) / 10))) 0 1 else 1
def sp_doD (A : Nat → Int32) (j : Nat) : Nat → Int32 :=
  if j = 0 then mx_upA (mx_upA A 65 (nI (sp_week A (sp_hold A)))) 75 (A 75 + 1) else if j < 30 then mx_upA A 65 (nI (sp_hold A ^^^ 2 ^ (j % 10)))
  else if j < 40 then mx_upA A 74 (nI (j - 30)) else mx_upA A (66 + (j - 100) / 10) (nI (j % 10))
theorem sp_why_lt (A : Nat → Int32) (x : Int32) (t : Bool) : sp_why A x t < 3 := by
  unfold sp_why
  cases pn A x <;> cases ((sp_hold A).testBit x.toNatClampNeg == t) <;> decide
theorem sp_whyD_lt (A : Nat → Int32) (j : Nat) : sp_whyD A j < 3 := by
  unfold sp_whyD
  repeat' split
  all_goals first | exact sp_why_lt _ _ _ | omega | skip
  cases pn A (nI ((j - 100) / 10)) <;> decide
theorem sp_doD_now (A : Nat → Int32) {j : Nat} (hj : j < 200) : sp_now A (sp_doD A j) := by
  unfold sp_doD
  by_cases c0 : j = 0
  · rw [if_pos c0]; exact (sp_now.up (by omega) (by omega)).tr (sp_now.up (by omega) (by omega))
  · rw [if_neg c0]
    by_cases c1 : j < 30
    · rw [if_pos c1]; exact sp_now.up (by omega) (by omega)
    · rw [if_neg c1]
      by_cases c2 : j < 40
      · rw [if_pos c2]; exact sp_now.up (by omega) (by omega)
      · rw [if_neg c2]; exact sp_now.up (by omega) (by omega)
theorem sp_dg_n {j : Nat} (h : j < 10) : sp_dg (nI j) := ⟨j, by omega, rfl⟩
theorem sp_week_lt {A : Nat → Int32} {s P : Nat} (h : s < 2 ^ P) : sp_week A s < 2 ^ P := sp_sub_lt (sp_week_sub A s) h
theorem sp_whyD_turn {A : Nat → Int32} {j : Nat} (ok : sp_ok A) (h0 : j ≠ 0) (h30 : j < 30) (hw : sp_whyD A j = 0) : 10 ≤ j ∧ j % 10 < sp_P A ∧ sp_why A (nI (j % 10)) (decide (20 ≤ j)) = 0 := by
  have p8 := ok.2.1
  unfold sp_whyD at hw
  rw [if_neg h0] at hw
  by_cases c1 : 10 ≤ j ∧ j < 20
  · rw [if_pos c1, show j - 10 = j % 10 by omega] at hw
    obtain ⟨p, hp, e, -⟩ := sp_why0 ok hw
    rw [nI_eq (by omega) (by omega)] at e
    exact ⟨c1.1, by omega, by rw [decide_eq_false (by omega)]; exact hw⟩
  · rw [if_neg c1] at hw
    by_cases c2 : 20 ≤ j ∧ j < 30
    · rw [if_pos c2, show j - 20 = j % 10 by omega] at hw
      obtain ⟨p, hp, e, -⟩ := sp_why0 ok hw
      rw [nI_eq (by omega) (by omega)] at e
      exact ⟨by omega, by omega, by rw [decide_eq_true c2.1]; exact hw⟩
    · rw [if_neg c2, if_neg (by omega), if_neg (by omega)] at hw
      omega
theorem sp_whyD_mend {A : Nat → Int32} {j : Nat} (ok : sp_ok A) (h40 : 40 ≤ j) (hw : sp_whyD A j = 0) : 100 ≤ j ∧ j < 200 ∧ (j - 100) / 10 < sp_P A := by
  have p8 := ok.2.1
  unfold sp_whyD at hw
  rw [if_neg (by omega), if_neg (by omega), if_neg (by omega), if_neg (by omega)] at hw
  by_cases c : 100 ≤ j ∧ j < 200
  · rw [if_pos c] at hw
    cases z : pn A (nI ((j - 100) / 10)) with
    | false => rw [z] at hw; cases hw
    | true =>
      obtain ⟨p, hp, e⟩ := pnT ok z
      rw [nI_eq (by omega) (by omega)] at e
      exact ⟨c.1, c.2, by omega⟩
  · rw [if_neg c] at hw; omega
theorem sp_doD_st {A : Nat → Int32} {j : Nat} (m : m_ok A) (hw : sp_whyD A j = 0) : m_st (sp_P A) (sp_was (sp_doD A j)) := by
  have p8 := m.1.2.1
  have p2 := mx_p2 p8
  have hh := m.hold
  unfold sp_doD
  by_cases c0 : j = 0
  · rw [if_pos c0]
    have l := sp_week_lt (A := A) hh.2
    have e : ∀ k, k ≠ 75 → mx_upA (mx_upA A 65 (nI (sp_week A (sp_hold A)))) 75 (A 75 + 1) k = mx_upA A 65 (nI (sp_week A (sp_hold A))) k := fun k hk => by
      show (if k = 75 then _ else _) = _
      rw [if_neg hk]
    obtain ⟨a1, a2, a3, a4⟩ := m_st_h (s := sp_week A (sp_hold A)) p8 m.2.1 l
    refine ⟨?_, ?_, fun p hp => ?_, ?_⟩
    · show mx_upA (mx_upA A 65 (nI (sp_week A (sp_hold A)))) 75 (A 75 + 1) (65 + 0) = nI (mx_upA (mx_upA A 65 (nI (sp_week A (sp_hold A)))) 75 (A 75 + 1) (65 + 0)).toNatClampNeg
      rw [e _ (by omega)]; exact a1
    · show (mx_upA (mx_upA A 65 (nI (sp_week A (sp_hold A)))) 75 (A 75 + 1) (65 + 0)).toNatClampNeg < _
      rw [e _ (by omega)]; exact a2
    · show sp_dg (mx_upA (mx_upA A 65 (nI (sp_week A (sp_hold A)))) 75 (A 75 + 1) (65 + (1 + p)))
      rw [e _ (by omega)]; exact a3 p hp
    · show sp_dg (mx_upA (mx_upA A 65 (nI (sp_week A (sp_hold A)))) 75 (A 75 + 1) (65 + 9))
      rw [e _ (by omega)]; exact a4
  · rw [if_neg c0]
    by_cases c1 : j < 30
    · rw [if_pos c1]
      obtain ⟨-, h2, -⟩ := sp_whyD_turn m.1 c0 c1 hw
      exact m_st_h p8 m.2.1 (mx_xor_lt hh.2 h2)
    · rw [if_neg c1]
      by_cases c2 : j < 40
      · rw [if_pos c2]; exact m_st_up m.2.1 (Or.inr rfl) (sp_dg_n (by omega))
      · rw [if_neg c2]
        obtain ⟨-, -, h3⟩ := sp_whyD_mend m.1 (by omega) hw
        exact m_st_up m.2.1 (Or.inl ⟨(j - 100) / 10, by omega, rfl⟩) (sp_dg_n (Nat.mod_lt _ (by omega)))
theorem InvM.tell {V : vw} {j : Nat} (m : InvM V) (hj : j < 200) (hw : sp_whyD (vA V) j = 0) : InvM (vw_A V (sp_doD (vA V) j)) := m.nowd (sp_doD_now _ hj) (sp_doD_st m.1.1 hw)
theorem sp_whyD_200 (A : Nat → Int32) : sp_whyD A 200 = 1 := by
  unfold sp_whyD
  rw [if_neg (by omega), if_neg (by omega), if_neg (by omega), if_neg (by omega), if_neg (by omega)]
theorem sp_whyD_l {A : Nat → Int32} {v : Int64} (h : sp_whyD A (dn v) = 0) : ∃ j, j < 200 ∧ v = lN j ∧ dn v = j := by
  rcases dn_cases v with q | ⟨q, -⟩
  · exact q
  · rw [q, sp_whyD_200] at h; omega
-- the class
theorem ct104 {E : mv_E} {D k n : Nat} {h : mv_H} {Q : mv_Q} {A : Nat → Int32} {x : Int32} (cr : cr_ok E h (mv_R h 50 3) A) (H : Q (some (.int (nI (pn A x).toNat))) h) : mv_VE E D k n 104 0 [some (.ref 50), some (.int x)] [] h Q := by
  apply sg104_0
  rw [cr.1.2.1, cr.2.1.1]
  unfold pn at H
  refine mx_if (fun q => ?_) (fun q => mv_gdI rfl (mx_if (fun r => ?_) (fun r => ?_)))
  · rw [decide_eq_true q] at H; exact H
  · rw [decide_eq_false q, decide_eq_true r] at H; exact H
  · rw [decide_eq_false q, decide_eq_false r] at H; exact H
theorem ct113 {E : mv_E} {D k n : Nat} {h : mv_H} {Q : mv_Q} {A : Nat → Int32} {x0 : Nat} {x y : Int32} (t : Bool) (ax : st_ad x0) (cr : cr_ok E h (mv_R h 50 3) A) (m : m_ok A) (e0 : mv_I h x0 0 = A 65) (ey : y = nI (!t).toNat) (H0 : sp_why A x t = 0 → Q (some (.int 0)) (mv_sI h x0 0 (nI (sp_turn A x)))) (H1 : sp_why A x t ≠ 0 → Q (some (.int (nI (sp_why A x t)))) h) : mv_VE E (D + 1) k n 113 0 [some (.ref 50), some (.ref x0), some (.int x), some (.int y)] [] h Q := by
  subst ey
  have p8 := m.1.2.1
  have p2 := mx_p2 p8
  have hh := m.hold
  have eh : mv_I h x0 0 = nI (sp_hold A) := e0.trans hh.1
  apply sg113_0
  refine ct104 cr ⟨_, rfl, mx_ifB _ (fun z => ?_) (fun z => ?_)⟩
  · have e : sp_why A x t = 1 := by unfold sp_why; rw [z]; rfl
    rw [e] at H1; exact H1 (by omega)
  · obtain ⟨p, hp, rfl⟩ := pnT m.1 z
    have e : sp_why A (nI p) t = cond ((sp_hold A).testBit p == t) 2 0 := by unfold sp_why; rw [z, cond_true, nI_clamp (by omega)]
    have et : sp_turn A (nI p) = sp_hold A ^^^ 2 ^ p := by unfold sp_turn; rw [nI_clamp (by omega)]
    rw [e] at H0 H1
    rw [et] at H0
    rw [(st_sh ax E h).1, eh, mx_bit (by omega) (by omega), mx_1shl (by omega), mx_xor]
    refine mv_gdI rfl (mx_if (fun c => ?_) (fun c => ?_))
    · refine mv_gdI rfl (mv_gdI rfl (H0 ?_))
      rw [nI_eq (by have := mx_tn ((sp_hold A).testBit p); omega) (by have := mx_tn (!t); omega)] at c
      rw [mx_tninj c]; cases t <;> rfl
    · have c2 : ((sp_hold A).testBit p == t) = true := by
        cases b : (sp_hold A).testBit p <;> cases t <;> first | rfl | (rw [b] at c; exact absurd rfl c)
      rw [c2] at H1; exact H1 (by decide)
def mx_sX (x a _ : Nat) : Bool := Nat.beq a x || (Nat.beq a (x + 1) || (Nat.ble 87 a && Nat.ble a 93))
theorem mx_sXf {x a k : Nat} (h : a ≠ x ∧ a ≠ x + 1 ∧ (a < 87 ∨ 93 < a)) : mx_sX x a k = false := by
  have bl : (Nat.ble 87 a && Nat.ble a 93) = false := by
    cases z : Nat.ble 87 a with
    | false => rfl
    | true =>
      cases z2 : Nat.ble a 93 with
      | false => rfl
      | true =>
        have := Nat.le_of_ble_eq_true z
        have := Nat.le_of_ble_eq_true z2
        omega
  unfold mx_sX
  rw [mv_bne h.1, mv_bne h.2.1, bl]; rfl
theorem mx_sXt {x a k : Nat} (h : a = x ∨ a = x + 1 ∨ (87 ≤ a ∧ a ≤ 93)) : mx_sX x a k = true := by
  unfold mx_sX
  rcases h with h | h | h
  · rw [h, mv_beq]; rfl
  · rw [h, mv_beq, Bool.true_or, Bool.or_true]
  · rw [Nat.ble_eq_true_of_le h.1, Nat.ble_eq_true_of_le h.2, Bool.and_true, Bool.or_true, Bool.or_true]
theorem mx_sXof {S : Nat → Nat → Bool} {x : Nat} {h h' : mv_H} (z : mx_fz S h h') (hS : ∀ a k, a ≠ x ∧ a ≠ x + 1 ∧ (a < 87 ∨ 93 < a) → S a k = false) : mx_fz (mx_sX x) h h' := z.to (fun a k q => hS a k (by
  by_cases c : a = x ∨ a = x + 1 ∨ (87 ≤ a ∧ a ≤ 93)
  · rw [mx_sXt c] at q; cases q
  · omega))
theorem st_adD {x : Nat} (hx : x = 81 ∨ x = 85) : st_ad x := by unfold st_ad; omega
theorem se_iv.sX {E : mv_E} {h : mv_H} {x b k : Nat} {y : Int32} (hx : x = 81 ∨ x = 85) (hb : b = x ∨ b = x + 1) (s : se_iv E h) : se_iv E (mv_sI h b k y) := s.fz mx_fzat (fun a k q => mv_bne (by unfold cr_reg at q; omega))
theorem ct121 {E : mv_E} {D k n : Nat} {h : mv_H} {Q : mv_Q} {A : Nat → Int32} {x : Nat} (hx : x = 81 ∨ x = 85) (cr : cr_ok E h (mv_R h 50 3) A) (m : m_ok A) (iv : se_iv E h) (ix : i_st h x (sp_was A)) (H : ∀ h', mx_fz (mx_sX x) h h' → i_st h' x (sp_was (sp_doD A 0)) → se_iv E h' → Q none h') : mv_VE E (D + 4) k n 121 0 [some (.ref 50), some (.ref x)] [] h Q := by
  have p2 := mx_p2 m.1.2.1
  have hh := m.hold
  have ax := st_adD hx
  apply sg121_0
  refine ct51 iv ax (by omega) cr m.1 (i_st.as ix) (fun h1 f1 se1 => ⟨rfl, ?_⟩)
  have ix1 : i_st h1 x (sp_was A) := ix.fz f1 (fun k => mx_s6f (by omega)) (fun k => mx_s6f (by omega))
  rw [(st_sh ax E h1).1]
  refine mv_gdI rfl (ct59 (sp_hold A) se1 m.1 m.vb hh.2 (ix1.1.trans hh.1) (fun h2 f2 se2 => ⟨_, rfl, ?_⟩))
  have ix2 : i_st h2 x (sp_was A) := ix1.fz f2.z (fun k => mx_s5f (by omega)) (fun k => mx_s5f (by omega))
  rw [(st_sh ax E h2).1]
  refine mv_gdI rfl (mv_gdI rfl (mv_gdI rfl ?_))
  have z : mx_fz (mx_sX x) h (mv_sI (mv_sI h2 x 0 (nI (sp_week A (sp_hold A)))) x 2 (mv_I (mv_sI h2 x 0 (nI (sp_week A (sp_hold A)))) x 2 + 1)) := (mx_sXof f1 (fun a k q => mx_s6f (by omega))).tr ((mx_sXof f2.z (fun a k q => mx_s5f (by omega))).tr ((mx_fr.sI (mx_sXt (Or.inl rfl))).z.tr (mx_fr.sI (mx_sXt (Or.inl rfl))).z))
  have iv2 : se_iv E h2 := ⟨A, m.1, se2⟩
  refine H _ z ⟨?_, ?_, ?_, fun p hp => ?_⟩ ((iv2.sX hx (Or.inl rfl)).sX hx (Or.inl rfl))
  · rw [mx_Isk (by omega), mx_Iss]; rfl
  · rw [mx_Isk (by omega), mx_Isk (by omega)]; exact ix2.2.1
  · rw [mx_Iss, mx_Isk (by omega), ix2.2.2.1]; rfl
  · rw [mx_InE (by omega), mx_InE (by omega), ix2.2.2.2 p hp]
    show A (65 + (1 + p)) = mx_upA (mx_upA A 65 _) 75 _ (65 + (1 + p))
    unfold mx_upA
    rw [if_neg (by omega), if_neg (by omega)]
theorem lgN {j c : Nat} (hj : j < 2 ^ 31) (hc : c < 2 ^ 31) : (lg_cmp (lN j) (lN c) < 0) ↔ j < c := by rw [lg_cmp_lt, lN_lt hj hc]
theorem ct120 {E : mv_E} {D k n : Nat} {h : mv_H} {Q : mv_Q} {A : Nat → Int32} {x : Nat} {v : Int64} (hx : x = 81 ∨ x = 85) (cr : cr_ok E h (mv_R h 50 3) A) (m : m_ok A) (iv : se_iv E h) (ix : i_st h x (sp_was A)) (H0 : sp_whyD A (dn v) = 0 → ∀ h', mx_fz (mx_sX x) h h' → i_st h' x (sp_was (sp_doD A (dn v))) → se_iv E h' → Q (some (.int 0)) h') (H1 : sp_whyD A (dn v) ≠ 0 → Q (some (.int (nI (sp_whyD A (dn v))))) h) : mv_VE E (D + 5) k n 120 0 [some (.ref 50), some (.ref x), some (.long v), none, none] [] h Q := by
  have p8 := m.1.2.1
  have hh := m.hold
  have ax := st_adD hx
  apply sg120_0
  rcases dn_cases v with ⟨j, hj, rfl, ed⟩ | ⟨ed, hv⟩
  · rw [ed] at H0 H1
    rw [lN_i]
    have c0 : (lg_cmp (lN j) 0 = 0) ↔ j = 0 := by rw [lg_cmp_eq]; exact lN_eq (b := 0) (by omega) (by omega)
    have c10 : (lg_cmp (lN j) 10 < 0) ↔ j < 10 := lgN (c := 10) (by omega) (by omega)
    have c20 : (lg_cmp (lN j) 20 < 0) ↔ j < 20 := lgN (c := 20) (by omega) (by omega)
    have c30 : (lg_cmp (lN j) 30 < 0) ↔ j < 30 := lgN (c := 30) (by omega) (by omega)
    have c40 : (lg_cmp (lN j) 40 < 0) ↔ j < 40 := lgN (c := 40) (by omega) (by omega)
    have c100 : (lg_cmp (lN j) 100 < 0) ↔ j < 100 := lgN (c := 100) (by omega) (by omega)
    have c200 : (lg_cmp (lN j) 200 < 0) ↔ j < 200 := lgN (c := 200) (by omega) (by omega)
    by_cases q0 : j = 0
    · subst q0
      exact mx_T (c0.mpr rfl) (ct121 hx cr m iv ix (fun h1 f1 i1 s1 => ⟨rfl, H0 rfl h1 f1 i1 s1⟩))
    refine mx_F (fun c => q0 (c0.mp c)) ?_
    -- what lets go or takes hold
    have turn : ∀ (t : Bool) (d : Nat) (y : Int32) (Q' : mv_Q), 10 ≤ j → j < 30 → d = j % 10 → t = decide (20 ≤ j) → y = nI (!t).toNat → (∀ r h', Q (some (.int r)) h' → Q' (some (.int r)) h') → mv_VE E (D + 4) 0 0 113 0 [some (.ref 50), some (.ref x), some (.int (nI d)), some (.int y)] [] h Q' := by
      intro t d y Q' j10 j30 hd ht hy K
      have ew : sp_whyD A j = sp_why A (nI d) t := by
        unfold sp_whyD
        rw [if_neg q0]
        by_cases w : j < 20
        · rw [if_pos (by omega), show j - 10 = d by omega, ht, decide_eq_false (by omega)]
        · rw [if_neg (by omega), if_pos (by omega), show j - 20 = d by omega, ht, decide_eq_true (by omega)]
      have eo : sp_doD A j = mx_upA A 65 (nI (sp_turn A (nI d))) := by
        unfold sp_doD sp_turn
        rw [if_neg q0, if_pos j30, nI_clamp (by omega), hd]
      rw [ew, eo] at H0
      rw [ew] at H1
      refine ct113 t ax cr m ix.1 hy (fun w => K _ _ (H0 w _ ?_ ?_ (iv.sX hx (Or.inl rfl)))) (fun w => K _ _ (H1 w))
      · exact (mx_fr.sI (mx_sXt (Or.inl rfl))).z
      · refine ⟨?_, ?_, ?_, fun p hp => ?_⟩
        · rw [mx_Iss]; rfl
        · rw [mx_Isk (by omega)]; exact ix.2.1
        · rw [mx_Isk (by omega)]; exact ix.2.2.1
        · rw [mx_InE (by omega), ix.2.2.2 p hp]
          show A (65 + (1 + p)) = mx_upA A 65 _ (65 + (1 + p))
          unfold mx_upA
          rw [if_neg (by omega)]
    have one : sp_whyD A j = 1 → Q (some (.int 1)) h := fun w => by
      rw [w] at H1; exact H1 (by omega)
    by_cases q10 : j < 10
    · refine mx_T (c10.mpr q10) (mx_T (c20.mpr (by omega)) (mx_T (c30.mpr (by omega)) (mx_T (c100.mpr (by omega)) (one ?_))))
      unfold sp_whyD
      rw [if_neg q0, if_neg (by omega), if_neg (by omega), if_neg (by omega), if_neg (by omega)]
    refine mx_F (fun c => q10 (c10.mp c)) ?_
    by_cases q20 : j < 20
    · refine mx_T (c20.mpr q20) ?_
      rw [show nI j - (10 : Int32) = nI (j - 10) from pk_sub (b := 10) (by omega)]
      exact turn false (j - 10) 1 _ (by omega) (by omega) (by omega) (by rw [decide_eq_false (by omega)]) rfl (fun r h' q => ⟨r, rfl, q⟩)
    refine mx_F (fun c => q20 (c20.mp c)) (mx_F (fun c => q20 (c20.mp c)) ?_)
    by_cases q30 : j < 30
    · refine mx_T (c30.mpr q30) ?_
      rw [show nI j - (20 : Int32) = nI (j - 20) from pk_sub (b := 20) (by omega)]
      exact turn true (j - 20) 0 _ (by omega) (by omega) (by omega) (by rw [decide_eq_true (by omega)]) rfl (fun r h' q => ⟨r, rfl, q⟩)
    refine mx_F (fun c => q30 (c30.mp c)) (mx_F (fun c => q30 (c30.mp c)) ?_)
    by_cases q40 : j < 40
    · refine mx_T (c40.mpr q40) ?_
      rw [show nI j - (30 : Int32) = nI (j - 30) from pk_sub (b := 30) (by omega), (st_sh ax E h).1]
      have ew : sp_whyD A j = 0 := by
        unfold sp_whyD
        rw [if_neg q0, if_neg (by omega), if_neg (by omega), if_pos (by omega)]
      have eo : sp_doD A j = mx_upA A 74 (nI (j - 30)) := by
        unfold sp_doD
        rw [if_neg q0, if_neg q30, if_pos q40]
      rw [eo] at H0
      refine mv_gdI rfl (H0 ew _ (mx_fr.sI (mx_sXt (Or.inl rfl))).z ⟨?_, ?_, ?_, fun p hp => ?_⟩ (iv.sX hx (Or.inl rfl)))
      · rw [mx_Isk (by omega)]; exact ix.1
      · rw [mx_Iss]; rfl
      · rw [mx_Isk (by omega)]; exact ix.2.2.1
      · rw [mx_InE (by omega), ix.2.2.2 p hp]
        show A (65 + (1 + p)) = mx_upA A 74 _ (65 + (1 + p))
        unfold mx_upA
        rw [if_neg (by omega)]
    refine mx_F (fun c => q40 (c40.mp c)) ?_
    by_cases q100 : j < 100
    · refine mx_T (c100.mpr q100) (one ?_)
      unfold sp_whyD
      rw [if_neg q0, if_neg (by omega), if_neg (by omega), if_neg (by omega), if_neg (by omega)]
    refine mx_F (fun c => q100 (c100.mp c)) (mx_T (c200.mpr hj) ?_)
    have ew : sp_whyD A j = cond (pn A (nI ((j - 100) / 10))) 0 1 := by
      unfold sp_whyD
      rw [if_neg q0, if_neg (by omega), if_neg (by omega), if_neg (by omega), if_pos (by omega)]
    have eo : sp_doD A j = mx_upA A (66 + (j - 100) / 10) (nI (j % 10)) := by
      unfold sp_doD
      rw [if_neg q0, if_neg q30, if_neg q40]
    rw [eo] at H0
    rw [show nI j - (100 : Int32) = nI (j - 100) from pk_sub (b := 100) (by omega), show nI (j - 100) - nI (j - 100) / 10 * 10 = nI ((j - 100) % 10) from pk_rem (d := 10) (by omega) (by omega) (by omega), show nI (j - 100) / 10 = nI ((j - 100) / 10) from pk_div (d := 10) (by omega) (by omega) (by omega), show (j - 100) % 10 = j % 10 by omega]
    apply sg122_0
    refine ct104 cr ⟨_, rfl, mx_ifB _ (fun z => ?_) (fun z => ?_)⟩
    · refine ⟨_, rfl, one ?_⟩
      rw [ew, z]; rfl
    · obtain ⟨p, hp, ep⟩ := pnT m.1 z
      rw [nI_eq (by omega) (by omega)] at ep
      obtain ⟨g1, g2, g3⟩ := st_sh ax E h
      rw [g1, g2, g3, ep, nI_clamp (by omega)]
      refine mv_gdI rfl (mv_gdI (by rw [mx_in p (by omega) (by omega)]; rfl) ⟨_, rfl, ?_⟩)
      rw [ep] at H0
      refine H0 (by rw [ew, z]; rfl) _ (mx_fr.sI (mx_sXt (Or.inr (Or.inl rfl)))).z ⟨?_, ?_, ?_, fun l hl => ?_⟩ (iv.sX hx (Or.inr rfl))
      · rw [mx_InE (by omega), ix.1]
        show A 65 = mx_upA A (66 + p) _ 65
        unfold mx_upA
        rw [if_neg (by omega)]
      · rw [mx_InE (by omega), ix.2.1]
        show A 74 = mx_upA A (66 + p) _ 74
        unfold mx_upA
        rw [if_neg (by omega)]
      · rw [mx_InE (by omega), ix.2.2.1]
        show A 75 = mx_upA A (66 + p) _ 75
        unfold mx_upA
        rw [if_neg (by omega)]
      · show mv_I (mv_sI h (x + 1) p _) (x + 1) l = mx_upA A (66 + p) _ (65 + (1 + l))
        unfold mx_upA
        rw [mx_upI]
        by_cases c : l = p
        · rw [if_pos ⟨rfl, c⟩, if_pos (by omega)]
        · rw [if_neg (fun d => c d.2), if_neg (by omega)]; exact ix.2.2.2 l hl
  · rw [ed, sp_whyD_200] at H1
    have q1 := H1 (by omega)
    rcases hv with hv | hv
    · have c : ∀ j : Nat, j < 2 ^ 31 → lg_cmp v (lN j) < 0 := fun j hj => by
        rw [lg_cmp_lt, Int64.lt_iff_toInt_lt, lN_toInt hj]
        rw [Int64.lt_iff_toInt_lt] at hv
        have : (0 : Int64).toInt = 0 := rfl
        omega
      refine mx_F (fun z => ?_) (mx_T (c 10 (by omega)) (mx_T (c 20 (by omega)) (mx_T (c 30 (by omega)) (mx_T (c 100 (by omega)) q1))))
      rw [lg_cmp_eq] at z
      rw [z] at hv
      exact absurd hv (by decide)
    · have c : ∀ j : Nat, j ≤ 200 → ¬ lg_cmp v (lN j) < 0 := fun j hj => by
        rw [lg_cmp_lt, Int64.lt_iff_toInt_lt, lN_toInt (by omega)]
        rw [Int64.lt_iff_toInt_lt, show (200 : Int64).toInt = 200 from rfl] at hv
        omega
      refine mx_F (fun z => ?_) (mx_F (c 10 (by omega)) (mx_F (c 20 (by omega)) (mx_F (c 20 (by omega)) (mx_F (c 30 (by omega)) (mx_F (c 30 (by omega)) (mx_F (c 40 (by omega)) (mx_F (c 100 (by omega)) (mx_F (c 200 (by omega)) q1))))))))
      rw [lg_cmp_eq] at z
      rw [z] at hv
      exact absurd (by decide) hv
-- the model
theorem w182 {j l u : Nat} (hj : j < 2 ^ 31) (hl : l < 2 ^ 31) (hu : u < 2 ^ 31) : pf182 (lN j) (lN l) (lN u) = (decide (l ≤ j) && decide (j ≤ u)) := by
  unfold pf182
  have h1 : (lg_cmp (lN j) (lN l) < 0) ↔ j < l := lgN hj hl
  have h2 : (0 < lg_cmp (lN j) (lN u)) ↔ u < j := by rw [lg_cmp_gt, lN_lt hu hj]
  by_cases c : j < l
  · rw [if_pos (h1.mpr c), decide_eq_false (by omega)]; rfl
  · rw [if_neg (fun z => c (h1.mp z)), decide_eq_true (by omega)]
    by_cases d : u < j
    · rw [if_pos (h2.mpr d), decide_eq_false (by omega)]; rfl
    · rw [if_neg (fun z => d (h2.mp z)), decide_eq_true (by omega)]; rfl
theorem mx_241 {h : mv_H} {v : Int64} (ok : sp_ok (mv_I h 149)) (hh : mv_I h 149 65 = nI (sp_hold (mv_I h 149)) ∧ sp_hold (mv_I h 149) < 2 ^ sp_P (mv_I h 149)) : pf241 h v = nI (sp_whyD (mv_I h 149) (dn v)) := by
  have p8 := ok.2.1
  unfold pf241
  rcases dn_cases v with ⟨j, hj, rfl, ed⟩ | ⟨ed, hv⟩
  · rw [ed]
    have c0 : (lg_cmp (lN j) 0 = 0) ↔ j = 0 := by rw [lg_cmp_eq]; exact lN_eq (b := 0) (by omega) (by omega)
    have c20 : (lg_cmp (lN j) 20 < 0) ↔ j < 20 := lgN (c := 20) (by omega) (by omega)
    have w1 : pf182 (lN j) 30 39 = (decide (30 ≤ j) && decide (j ≤ 39)) := w182 (l := 30) (u := 39) (by omega) (by omega) (by omega)
    have w2 : pf182 (lN j) 10 29 = (decide (10 ≤ j) && decide (j ≤ 29)) := w182 (l := 10) (u := 29) (by omega) (by omega) (by omega)
    have w3 : pf182 (lN j) 100 199 = (decide (100 ≤ j) && decide (j ≤ 199)) := w182 (l := 100) (u := 199) (by omega) (by omega) (by omega)
    have er : lN j - lN j / 10 * 10 = (nI (j % 10)).toInt64 := by
      rw [nI_l (by omega)]; exact pk_lRem (b := 10) (by omega) (by omega) (by omega)
    rw [w1, w2, w3, er]
    unfold sp_whyD
    by_cases q0 : j = 0
    · rw [if_pos (c0.mpr q0), if_pos q0]; rfl
    rw [if_neg (fun c => q0 (c0.mp c)), if_neg q0]
    by_cases q30 : 30 ≤ j ∧ j < 40
    · rw [decide_eq_true q30.1, decide_eq_true (show j ≤ 39 by omega), Bool.and_true, cond_true, if_neg (by omega), if_neg (by omega), if_pos q30]; rfl
    have f30 : (decide (30 ≤ j) && decide (j ≤ 39)) = false := by
      by_cases c : 30 ≤ j
      · rw [decide_eq_false (show ¬ j ≤ 39 by omega), Bool.and_false]
      · rw [decide_eq_false c]; rfl
    rw [f30, cond_false]
    by_cases q10 : 10 ≤ j ∧ j < 30
    · rw [decide_eq_true q10.1, decide_eq_true (show j ≤ 29 by omega), Bool.and_true, cond_true]
      by_cases q20 : j < 20
      · rw [if_pos (c20.mpr q20), if_pos (by omega), mx_233 (y := 0) false ok hh rfl, show j - 10 = j % 10 by omega]
      · rw [if_neg (fun c => q20 (c20.mp c)), if_neg (by omega), if_pos (by omega), mx_233 (y := 1) true ok hh rfl, show j - 20 = j % 10 by omega]
    have f10 : (decide (10 ≤ j) && decide (j ≤ 29)) = false := by
      by_cases c : 10 ≤ j
      · rw [decide_eq_false (show ¬ j ≤ 29 by omega), Bool.and_false]
      · rw [decide_eq_false c]; rfl
    rw [f10, cond_false, if_neg (by omega), if_neg (by omega), if_neg q30]
    by_cases q100 : 100 ≤ j
    · have ed : (lN j - 100) / 10 = (nI ((j - 100) / 10)).toInt64 := by
        rw [nI_l (by omega), show lN j - (100 : Int64) = lN (j - 100) from lN_sub (b := 100) q100]
        exact pk_lDiv (b := 10) (by omega) (by omega) (by omega)
      rw [decide_eq_true q100, decide_eq_true (show j ≤ 199 by omega), Bool.and_true, cond_true, if_pos (by omega), ed, pn210 ok]
      cases pn (mv_I h 149) (nI ((j - 100) / 10)) <;> rfl
    · rw [decide_eq_false q100, if_neg (by omega)]; rfl
  · rw [ed, sp_whyD_200]
    have z0 : ¬ lg_cmp v 0 = 0 := fun z => by
      rw [lg_cmp_eq] at z
      rw [z] at hv
      exact absurd hv (by decide)
    have w : ∀ l u : Nat, l < 2 ^ 31 → u < 200 → pf182 v (lN l) (lN u) = false := fun l u hl hu => by
      unfold pf182
      rcases hv with hv | hv
      · have : lg_cmp v (lN l) < 0 := by
          rw [lg_cmp_lt, Int64.lt_iff_toInt_lt, lN_toInt hl]
          rw [Int64.lt_iff_toInt_lt, show (0 : Int64).toInt = 0 from rfl] at hv
          omega
        rw [if_pos this]
      · have : 0 < lg_cmp v (lN u) := by
          rw [lg_cmp_gt, Int64.lt_iff_toInt_lt, lN_toInt (by omega)]
          rw [Int64.lt_iff_toInt_lt, show (200 : Int64).toInt = 200 from rfl] at hv
          omega
        rw [if_pos this]
        split <;> rfl
    rw [if_neg z0, show pf182 v 30 39 = false from w 30 39 (by omega) (by omega), show pf182 v 10 29 = false from w 10 29 (by omega) (by omega), show pf182 v 100 199 = false from w 100 199 (by omega) (by omega)]
    rfl
theorem cw241 {h0 h : mv_H} {V : vw} {v : Int64} (f : fM V h0 h) (m : InvM V) : pf241 h v = nI (sp_whyD (vA V) (dn v)) := by
  rw [mx_241 (by rw [f.A]; exact m.ok) (by rw [f.A]; exact m.1.1.hold), f.A]
theorem cw242 {E : mv_E} {D k n : Nat} {h0 h : mv_H} {Q : mv_Q} {V : vw} {x : Int32} (j : Nat) (f : fM V h0 h) (m : InvM V) (hj : j < 200) (hw : sp_whyD (vA V) j = 0) (e : x = nI j) (H : ∀ h', fM (vw_A V (sp_doD (vA V) j)) h0 h' → (∀ a k, a = 155 ∨ (a = 148 ∧ (k = 19 ∨ k = 20)) → mv_I h' a k = mv_I h a k) → Q none h') : mv_VE E (D + 5) k n 242 0 [some (.ref 148), some (.int x)] [] h Q := by
  subst e
  have p8 := m.p8
  have p2 := m.p2
  have hh := m.1.1.hold
  apply sg242_0
  unfold sp_doD at H
  refine mx_eq j 0 (fun q => ?_) (fun q => ?_) (by omega) (by omega)
  · rw [if_pos q] at H
    apply sg228_0
    refine ct229 (sp_hold (vA V)) (by rw [f.A]; exact m.ok) (by omega) (by rw [f.A]; exact hh.1) (fun h1 f1 => ⟨_, rfl, rfl, ?_⟩)
    have g1 := f.s2 f1
    rw [f.A, g1.A]
    refine H _ ((g1.at (k := 65) (x := nI (sp_week (vA V) (sp_hold (vA V))))).at (k := 75)) (fun a k' w => ?_)
    rw [mx_InE (by omega), mx_InE (by omega)]
    rcases w with w | w
    · rw [w]; exact congrFun (f1.I 155 (fun _ => rfl)) _
    · rw [w.1]; exact congrFun (f1.I 148 (fun _ => rfl)) _
  · rw [if_neg q] at H
    refine mx_lt j 30 (fun q1 => ?_) (fun q1 => ?_) (by omega) (by omega)
    · rw [if_pos q1] at H
      obtain ⟨-, h2, -⟩ := sp_whyD_turn m.ok q q1 hw
      rw [show nI j - nI j / 10 * 10 = nI (j % 10) from pk_rem (d := 10) (by omega) (by omega) (by omega), mx_1shl (by omega), f.A, hh.1, mx_xor]
      exact H _ (f.at) (fun a k' w => by rw [mx_InE (by omega)])
    · rw [if_neg (by omega)] at H
      refine mx_lt j 40 (fun q2 => ?_) (fun q2 => ?_) (by omega) (by omega)
      · rw [if_pos q2] at H
        rw [show nI j - (30 : Int32) = nI (j - 30) from pk_sub (b := 30) (by omega)]
        exact H _ (f.at) (fun a k' w => by rw [mx_InE (by omega)])
      · rw [if_neg (by omega)] at H
        obtain ⟨h1, h2, h3⟩ := sp_whyD_mend m.ok q2 hw
        rw [show nI j - (100 : Int32) = nI (j - 100) from pk_sub (b := 100) (by omega), show nI (j - 100) / 10 = nI ((j - 100) / 10) from pk_div (d := 10) (by omega) (by omega) (by omega), show (66 : Int32) + nI ((j - 100) / 10) = nI (66 + (j - 100) / 10) from nI_add 66 _, nI_clamp (by omega), show nI j - nI j / 10 * 10 = nI (j % 10) from pk_rem (d := 10) (by omega) (by omega) (by omega)]
        exact mv_gdI (mx_inT (66 + (j - 100) / 10) (by omega) (by omega)) (H _ (f.at) (fun a k' w => by rw [mx_InE (by omega)]))
