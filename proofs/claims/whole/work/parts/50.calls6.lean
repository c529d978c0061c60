/-! Calls: storm, mend, undo, go, take. -/
def sp_was (A : Nat → Int32) : Nat → Int32 := fun j => A (65 + j)
/-- A1 is A but for the state now -/
def sp_now (A A1 : Nat → Int32) : Prop := ∀ k, k < 65 ∨ 76 ≤ k → A1 k = A k
theorem sp_now.d {A A1 : Nat → Int32} (s : sp_now A A1) : sp_d A1 = sp_d A := by unfold sp_d; rw [s 76 (by omega)]
theorem sp_now.P {A A1 : Nat → Int32} (s : sp_now A A1) : sp_P A1 = sp_P A := by unfold sp_P; rw [s 1 (by omega)]
theorem sp_now.st {A A1 : Nat → Int32} (s : sp_now A A1) : sp_st65 A A1 := fun k hk => s k (by omega)
theorem sp_now.tr {A A1 A2 : Nat → Int32} (s : sp_now A A1) (t : sp_now A1 A2) : sp_now A A2 := fun k hk => (t k hk).trans (s k hk)
theorem sp_now.up {A : Nat → Int32} {k : Nat} {x : Int32} (h1 : 65 ≤ k) (h2 : k < 76) : sp_now A (mx_upA A k x) := fun j hj => by unfold mx_upA; rw [if_neg (by omega)]
theorem sp_note_now {A A1 w : Nat → Int32} (s : sp_now A A1) (md : sp_d A ≤ 10) (k : Nat) (hk : 76 ≤ k) : sp_note A1 w k = sp_note A w k := by
  unfold sp_note
  rw [s.d]
  by_cases q : sp_d A = 10
  · rw [if_pos q, if_pos q, s k (by omega), s (k + 11) (by omega)]
  · rw [if_neg q, if_neg q, s k (by omega)]
theorem i_past.cg {h : mv_H} {A A' : Nat → Int32} (e : ∀ k, 76 ≤ k → k < 187 → A' k = A k) (i : i_past h A) : i_past h A' := by
  have ed : sp_d A' = sp_d A := by unfold sp_d; rw [e 76 (by omega) (by omega)]
  refine ⟨i.1.trans (e 76 (by omega) (by omega)).symm, i.2.1, i.2.2.1, fun j hj hd => ?_⟩
  rw [ed] at hd
  exact (i.2.2.2 j hj hd).cg (fun l hl => e _ (by omega) (by omega))
theorem m_past.cg {A A' : Nat → Int32} (hP : sp_P A' = sp_P A) (h8 : sp_P A ≤ 8) (e : ∀ k, 76 ≤ k → k < 187 → A' k = A k) (i : m_past A) : m_past A' := by
  have ed : sp_d A' = sp_d A := by unfold sp_d; rw [e 76 (by omega) (by omega)]
  refine ⟨by rw [ed, e 76 (by omega) (by omega)]; exact i.1, by rw [ed]; exact i.2.1, fun j hj => ?_⟩
  rw [ed] at hj
  have := i.2.1
  rw [hP]
  exact (i.2.2 j hj).cg h8 (fun l hl => e _ (by omega) (by omega))
theorem se_at.fz {S : Nat → Nat → Bool} {E : mv_E} {h h' : mv_H} {A : Nat → Int32} (s : se_at E h A) (f : mx_fz S h h') (hS : ∀ a k, cr_reg a ∨ (87 ≤ a ∧ a ≤ 93) → S a k = false) : se_at E h' A := by
  have R87 : mv_R h' 87 = mv_R h 87 := f.Rr 87 (fun k => hS _ k (by omega))
  refine ⟨?_, ⟨?_, fun p hp => ?_⟩, fun t ht => ?_⟩
  · rw [R87]; exact s.1.fz f (fun a k q => hS a k (Or.inl q))
  · rw [f.I 88 (fun k => hS _ k (by omega))]; exact s.2.1.1
  · rw [f.I 89 (fun k => hS _ k (by omega))]; exact s.2.1.2 p hp
  · rw [f.I 90 (fun k => hS _ k (by omega)), f.I 91 (fun k => hS _ k (by omega))]; exact s.2.2 t ht
theorem se_iv.fz {S : Nat → Nat → Bool} {E : mv_E} {h h' : mv_H} (s : se_iv E h) (f : mx_fz S h h') (hS : ∀ a k, cr_reg a ∨ (87 ≤ a ∧ a ≤ 93) → S a k = false) : se_iv E h' := by
  obtain ⟨A, o, q⟩ := s
  exact ⟨A, o, q.fz f hS⟩
theorem mx_sDfC {h h' : mv_H} (f : mx_fz mx_sD h h') : fCl h h' := f.toC (fun a k q => mx_sDf (by omega))
theorem InvM.fin {V : vw} {A1 : Nat → Int32} (m : InvM V) (s : sp_now (vA V) A1) (h1 : m_st (sp_P (vA V)) (fun j => A1 (65 + j))) : InvM (vw_A V (sp_note A1 (sp_was (vA V)))) := by
  have md : sp_d A1 ≤ 10 := by rw [s.d]; exact m.1.2.2.1
  refine m.deed (fun k hk => (sp_note_65 md k (by omega)).trans (s k (by omega))) ?_ ?_
  · exact h1.cg m.p8 (fun j hj => sp_note_65 md _ (by omega))
  · refine sp_note_mp (m.1.2.cg s.P m.p8 (fun k h1 h2 => s k (by omega))) (by rw [s.P]; exact m.p8) ?_
    rw [s.P]; exact m.1.1.2.1
theorem InvC.fin {E : mv_E} {h h' : mv_H} {V : vw} {A1 : Nat → Int32} (i : InvC0 E h V) (m : InvM V) (s : sp_now (vA V) A1) (f : mx_fz mx_sD h h') (h1 : i_st h' 81 (fun j => A1 (65 + j))) (h2 : i_past h' (sp_note (vA V) (sp_was (vA V)))) : InvC0 E h' (vw_A V (sp_note A1 (sp_was (vA V)))) := by
  have md0 := m.1.2.2.1
  have md : sp_d A1 ≤ 10 := by rw [s.d]; exact md0
  refine i.deed m f (fun a k q => mx_sDf (by omega)) (fun k hk => (sp_note_65 md k (by omega)).trans (s k (by omega))) ?_ ?_
  · exact h1.cg (fun j hj => sp_note_65 md _ (by omega))
  · exact h2.cg (fun k h1 h2 => sp_note_now s md0 k h1)
theorem mx_sPD {h h' : mv_H} (f : mx_fz mx_sP h h') : mx_fz mx_sD h h' := f.to (fun a k q => by
  by_cases c : 109 ≤ a ∧ a ≤ 130
  · exfalso
    unfold mx_sD at q
    rw [show (Nat.ble 109 a && Nat.ble a 130) = true by rw [Nat.ble_eq_true_of_le c.1, Nat.ble_eq_true_of_le c.2]; rfl] at q
    cases z : (Nat.ble 81 a && Nat.ble a 96) <;> cases z2 : Nat.beq a 108 <;> rw [z, z2] at q <;> cases q
  · exact mx_sPf (by omega))
theorem mx_sD81 {h : mv_H} {a k : Nat} {x : Int32} (ha : 81 ≤ a ∧ a ≤ 96) : mx_fz mx_sD h (mv_sI h a k x) := (mx_fr.sI (by
  unfold mx_sD
  rw [Nat.ble_eq_true_of_le ha.1, Nat.ble_eq_true_of_le ha.2]; rfl)).z
theorem mx_sPsea {a k : Nat} (q : cr_reg a ∨ (87 ≤ a ∧ a ≤ 93)) : mx_sP a k = false := mx_sPf (by unfold cr_reg at q; omega)
theorem mx_st81 {a k : Nat} {b : Nat} (hb : b = 81 ∨ b = 82) (q : cr_reg a ∨ (87 ≤ a ∧ a ≤ 93)) : (fun x (_ : Nat) => Nat.beq x b) a k = false := mv_bne (by unfold cr_reg at q; omega)
theorem mx_fzat {h : mv_H} {b k : Nat} {x : Int32} : mx_fz (fun y _ => Nat.beq y b) h (mv_sI h b k x) := (mx_fr.sI (S := fun y _ => Nat.beq y b) (mv_beq b)).z
theorem i_past.sI {h : mv_H} {A : Nat → Int32} {b k : Nat} {x : Int32} (hb : b < 109 ∨ 130 < b) (i : i_past h A) : i_past (mv_sI h b k x) A := by
  refine ⟨by rw [mx_InE (by omega)]; exact i.1, i.2.1, i.2.2.1, fun j hj hd => ?_⟩
  obtain ⟨l, hl, e⟩ := i.2.1 j hj
  have q := i.2.2.2 j hj hd
  rw [mx_RsI]
  exact q.fz mx_fzat (fun k => mv_bne (by omega)) (fun k => mv_bne (by omega))
theorem se_iv.s81 {E : mv_E} {h : mv_H} {b k : Nat} {x : Int32} (hb : b = 81 ∨ b = 82) (s : se_iv E h) : se_iv E (mv_sI h b k x) := s.fz mx_fzat (fun a k q => mx_st81 (k := k) hb q)
theorem InvC.now {E : mv_E} {h : mv_H} {V : vw} (i : InvC0 E h V) : i_st h 81 (sp_was (vA V)) := i.1.2.1
theorem cc20 {E : mv_E} {D k n : Nat} {h : mv_H} {Q : mv_Q} {V : vw} (i : InvC E h V) (m : InvM V) (H : ∀ h', mx_fz mx_sP h h' → i_past h' (sp_note (vA V) (sp_was (vA V))) → se_iv E h' → i_st h' 81 (sp_was (vA V)) → Q none h') : mv_VE E (D + 2) k n 20 0 [some (.ref 109), some (.ref 81)] [] h Q :=
  ct20 i.1.1.2.2 m.1.2.1 m.1.2.2.1 (Or.inl rfl) (InvC.now i.1) (fun h' f g => H h' f g (i.2.fz f (fun a k q => mx_sPsea q)) ((InvC.now i.1).fz f (fun k => mx_sPf (by omega)) (fun k => mx_sPf (by omega))))
theorem m_st_up {P k : Nat} {A : Nat → Int32} {x : Int32} (m : m_st P (sp_was A)) (hk : (∃ p, p < 8 ∧ k = 66 + p) ∨ k = 74) (hx : sp_dg x) : m_st P (fun j => mx_upA A k x (65 + j)) := by
  refine ⟨?_, ?_, fun p hp => ?_, ?_⟩
  · show mx_upA A k x 65 = nI (mx_upA A k x 65).toNatClampNeg
    unfold mx_upA
    rw [if_neg (by omega)]; exact m.1
  · show (mx_upA A k x 65).toNatClampNeg < _
    unfold mx_upA
    rw [if_neg (by omega)]; exact m.2.1
  · show sp_dg (mx_upA A k x (65 + (1 + p)))
    unfold mx_upA
    split
    · exact hx
    · exact m.2.2.1 p hp
  · show sp_dg (mx_upA A k x 74)
    unfold mx_upA
    split
    · exact hx
    · exact m.2.2.2
theorem mx_r10 (x : Int32) : pf182 x.toInt64 0 9 = (!decide (x < 0) && decide (x < nI 10)) := by
  have w := mx_wi (x := x) (L := 0) (H := 9) 0 9 rfl rfl
  rw [w]
  congr 1
  by_cases q : x < nI 10
  · rw [decide_eq_true q, decide_eq_false]
    · rfl
    · rw [Int32.lt_iff_toInt_lt, nI_toInt (by omega)] at q
      rw [Int32.lt_iff_toInt_lt]
      show ¬ (9 : Int) < _
      omega
  · rw [decide_eq_false q, decide_eq_true]
    · rfl
    · rw [Int32.lt_iff_toInt_lt, nI_toInt (by omega)] at q
      rw [Int32.lt_iff_toInt_lt]
      show (9 : Int) < _
      omega
theorem mx_dg10 {x : Int32} (h : (!decide (x < 0) && decide (x < nI 10)) = true) : sp_dg x := by
  simp only [Bool.and_eq_true, Bool.not_eq_true', decide_eq_false_iff_not, decide_eq_true_eq] at h
  obtain ⟨j, hj, rfl⟩ := nI_of h.1
  rw [nI_ltI hj (by omega)] at h
  exact ⟨j, by omega, rfl⟩
-- storm
def V_storm (V : vw) (x : Int32) : vw := cond (!decide (x < 0) && decide (x < nI 10)) (vw_A V (sp_note (mx_upA (vA V) 74 x) (sp_was (vA V)))) V
def v_storm (V : vw) (x : Int32) : Int32 := cond (!decide (x < 0) && decide (x < nI 10)) (vA V 74) (-11)
theorem im_storm {V : vw} {x : Int32} (m : InvM V) : InvM (V_storm V x) := by
  unfold V_storm
  cases z : (!decide (x < 0) && decide (x < nI 10)) with
  | false => exact m
  | true => exact m.fin (sp_now.up (by omega) (by omega)) (m_st_up m.1.1.2.1 (Or.inr rfl) (mx_dg10 z))
theorem cc116 {E : mv_E} {D k n : Nat} {h : mv_H} {Q : mv_Q} {V : vw} {x : Int32} (i : InvC E h V) (m : InvM V) (H : ∀ h', InvC E h' (V_storm V x) → fCl h h' → Q (some (.int (v_storm V x))) h') : mv_VE E (D + 3) k n 116 0 [some (.ref 50), some (.int x), none] [] h Q := by
  apply sg116_0
  unfold V_storm v_storm at H
  refine mx_if (fun q => ?_) (fun q => mx_if (fun r => ?_) (fun r => ?_))
  · rw [decide_eq_true q] at H; exact H h i fCl.rf
  · rw [decide_eq_false q, decide_eq_true (show x < nI 10 from r)] at H
    refine cc20 i m (fun h1 f1 g1 s1 n1 => ⟨rfl, ?_⟩)
    rw [i.1.1.2.1.2.1]
    have f2 : mx_fz mx_sD h (mv_sI h1 81 1 x) := (mx_sPD f1).tr (mx_sD81 (by omega))
    refine H _ ⟨InvC.fin i.1 m (sp_now.up (by omega) (by omega)) f2 ?_ ?_, s1.s81 (Or.inl rfl)⟩ (mx_sDfC f2)
    · refine ⟨?_, ?_, ?_, fun p hp => ?_⟩
      · rw [mx_Isk (by omega)]; exact n1.1
      · rw [mx_Iss]; rfl
      · rw [mx_Isk (by omega)]; exact n1.2.2.1
      · rw [mx_InE (by omega)]
        show _ = mx_upA (vA V) 74 x (65 + (1 + p))
        unfold mx_upA
        rw [if_neg (by omega)]; exact n1.2.2.2 p hp
    · exact g1.sI (by omega)
  · rw [decide_eq_false q, decide_eq_false (show ¬ x < nI 10 from r)] at H; exact H h i fCl.rf
theorem cm236 {E : mv_E} {D k n : Nat} {h : mv_H} {Q : mv_Q} {V : vw} {x : Int32} (e : vw_of h = V) (m : InvM V) (H : ∀ h', fM (V_storm V x) h h' → Q (some (.int (v_storm V x))) h') : mv_VE E (D + 1) k n 236 0 [some (.ref 148), some (.int x)] [] h Q := by
  have f0 := fM.of e
  have md := m.1.2.2.1
  apply sg236_0
  unfold V_storm v_storm at H
  refine mx_cdb _ (mx_r10 x) (fun z => ?_) (fun z => ?_)
  · rw [z] at H
    refine cw227 f0 (fun h1 f1 g1 => ⟨rfl, ?_⟩)
    have s : sp_now (vA V) (mx_upA (vA V) 74 x) := sp_now.up (by omega) (by omega)
    refine cw230 (sp_was (vA V)) (f1.at (k := 74) (x := x)) ?_ ?_ g1 (fun h2 f2 g2 => ⟨rfl, ?_⟩)
    · show mx_upA (vA V) 74 x 76 = nI (sp_d (mx_upA (vA V) 74 x))
      rw [s.d, s 76 (by omega)]; exact m.1.2.1
    · show sp_d (mx_upA (vA V) 74 x) ≤ 10
      rw [s.d]; exact md
    · have e9 : mv_I h2 155 9 = vA V 74 := by rw [g2]; exact g1 9 (by omega)
      rw [e9]
      exact H h2 f2
  · rw [z] at H; exact H _ f0
-- mend
def V_mend (V : vw) (x y : Int32) : vw := cond (pn (vA V) x && (!decide (y < 0) && decide (y < nI 10))) (vw_A V (sp_note (mx_upA (vA V) (66 + x.toNatClampNeg) y) (sp_was (vA V)))) V
def v_mend (V : vw) (x y : Int32) : Int32 := cond (pn (vA V) x && (!decide (y < 0) && decide (y < nI 10))) (vA V (66 + x.toNatClampNeg)) (-11)
theorem im_mend {V : vw} {x y : Int32} (m : InvM V) : InvM (V_mend V x y) := by
  have p8 := m.p8
  unfold V_mend
  cases z : pn (vA V) x with
  | false => exact m
  | true =>
    cases z2 : (!decide (y < 0) && decide (y < nI 10)) with
    | false => exact m
    | true =>
      obtain ⟨p, hp, rfl⟩ := pnT m.ok z
      rw [nI_clamp (by omega)]
      exact m.fin (sp_now.up (by omega) (by omega)) (m_st_up m.1.1.2.1 (Or.inl ⟨p, by omega, rfl⟩) (mx_dg10 z2))
theorem cc115 {E : mv_E} {D k n : Nat} {h : mv_H} {Q : mv_Q} {V : vw} {x y : Int32} (i : InvC E h V) (m : InvM V) (H : ∀ h', InvC E h' (V_mend V x y) → fCl h h' → Q (some (.int (v_mend V x y))) h') : mv_VE E (D + 3) k n 115 0 [some (.ref 50), some (.int x), some (.int y), none] [] h Q := by
  have p8 := m.p8
  apply sg115_0
  unfold V_mend v_mend at H
  refine cc104 i.1 m ⟨_, rfl, mx_ifB _ (fun z => ?_) (fun z => ?_)⟩
  · rw [z] at H; exact H h i fCl.rf
  rw [z, Bool.true_and] at H
  obtain ⟨p, hp, rfl⟩ := pnT m.ok z
  rw [nI_clamp (by omega)] at H
  refine mx_if (fun q => ?_) (fun q => mx_if (fun r => ?_) (fun r => ?_))
  · rw [decide_eq_true q] at H; exact H h i fCl.rf
  · rw [decide_eq_false q, decide_eq_true (show y < nI 10 from r)] at H
    have i8 : (true && mv_in (nI p) 8) = true := mx_inT p (by omega) (by omega)
    refine mv_gdI i8 ?_
    refine cc20 i m (fun h1 f1 g1 s1 n1 => ⟨rfl, mv_gdI i8 ?_⟩)
    have eb : mv_I h 82 p = vA V (66 + p) := by
      have := (InvC.now i.1).2.2.2 p (by omega)
      unfold sp_was at this
      rw [show 65 + (1 + p) = 66 + p by omega] at this
      exact this
    rw [nI_clamp (by omega), eb]
    have f2 : mx_fz mx_sD h (mv_sI h1 82 p y) := (mx_sPD f1).tr (mx_sD81 (by omega))
    refine H _ ⟨InvC.fin i.1 m (sp_now.up (by omega) (by omega)) f2 ?_ ?_, s1.s81 (Or.inr rfl)⟩ (mx_sDfC f2)
    · refine ⟨?_, ?_, ?_, fun j hj => ?_⟩
      · rw [mx_InE (by omega)]
        show _ = mx_upA (vA V) (66 + p) y 65
        unfold mx_upA
        rw [if_neg (by omega)]; exact n1.1
      · rw [mx_InE (by omega)]
        show _ = mx_upA (vA V) (66 + p) y 74
        unfold mx_upA
        rw [if_neg (by omega)]; exact n1.2.1
      · rw [mx_InE (by omega)]
        show _ = mx_upA (vA V) (66 + p) y 75
        unfold mx_upA
        rw [if_neg (by omega)]; exact n1.2.2.1
      · show mv_I (mv_sI h1 82 p y) 82 j = mx_upA (vA V) (66 + p) y (65 + (1 + j))
        unfold mx_upA
        rw [mx_upI]
        by_cases c : j = p
        · rw [if_pos ⟨rfl, c⟩, if_pos (by omega)]
        · rw [if_neg (fun d => c d.2), if_neg (by omega)]; exact n1.2.2.2 j hj
    · exact g1.sI (by omega)
  · rw [decide_eq_false q, decide_eq_false (show ¬ y < nI 10 from r)] at H; exact H h i fCl.rf
theorem cm235 {E : mv_E} {D k n : Nat} {h : mv_H} {Q : mv_Q} {V : vw} {x y : Int32} (e : vw_of h = V) (m : InvM V) (H : ∀ h', fM (V_mend V x y) h h' → Q (some (.int (v_mend V x y))) h') : mv_VE E (D + 2) k n 235 0 [some (.ref 148), some (.int x), some (.int y)] [] h Q := by
  have f0 := fM.of e
  have p8 := m.p8
  have md := m.1.2.2.1
  have e1 : pf210 (mv_sI h 148 0 0) x.toInt64 = pn (vA V) x := by rw [pn210 (by rw [f0.A]; exact m.ok), f0.A]
  apply sg235_0
  unfold V_mend v_mend at H
  refine mx_cdb _ e1 (fun z1 => ?_) (fun z1 => ?_)
  · refine mx_cdb _ (mx_r10 y) (fun z => ?_) (fun z => ?_)
    · rw [z1, z] at H
      obtain ⟨p, hp, rfl⟩ := pnT m.ok z1
      rw [nI_clamp (by omega)] at H
      refine cw227 f0 (fun h1 f1 g1 => ⟨rfl, ?_⟩)
      have s : sp_now (vA V) (mx_upA (vA V) (66 + p) y) := sp_now.up (by omega) (by omega)
      rw [show (66 : Int32) + nI p = nI (66 + p) from nI_add 66 p, show (1 : Int32) + nI p = nI (1 + p) from nI_add 1 p, nI_clamp (n := 66 + p) (by omega)]
      refine mv_gdI (mx_inT (66 + p) (by omega) (by omega)) ?_
      refine cw230 (sp_was (vA V)) (f1.at (k := 66 + p) (x := y)) ?_ ?_ g1 (fun h2 f2 g2 => ⟨rfl, mv_gdI (mx_inT (1 + p) (by omega) (by omega)) ?_⟩)
      · show mx_upA (vA V) (66 + p) y 76 = nI (sp_d (mx_upA (vA V) (66 + p) y))
        rw [s.d, s 76 (by omega)]; exact m.1.2.1
      · show sp_d (mx_upA (vA V) (66 + p) y) ≤ 10
        rw [s.d]; exact md
      · have e9 : mv_I h2 155 (1 + p) = vA V (66 + p) := by
          rw [g2]
          refine (g1 (1 + p) (by omega)).trans ?_
          rw [show 65 + (1 + p) = 66 + p by omega]
        rw [nI_clamp (n := 1 + p) (by omega), e9]
        exact H h2 f2
    · rw [z, Bool.and_false] at H; exact H _ f0
  · rw [z1] at H; exact H _ f0
