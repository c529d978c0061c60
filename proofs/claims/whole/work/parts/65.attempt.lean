/-! Call: attempt. -/
def sp_c10 (s : Nat) : Nat := mx_fold (fun i a => a + (s.testBit i).toNat) 0 10
set_option maxRecDepth 100000 in
theorem mx_305k : ∀ s, s < 1024 → pf305 (nI s) = nI (sp_c10 s) := by decide +kernel
theorem sp_c10_le (s : Nat) : sp_c10 s ≤ 10 := by
  have : ∀ i, mx_fold (fun i a => a + (s.testBit i).toNat) 0 i ≤ i := by
    intro i
    induction i with
    | zero => exact Nat.le_refl _
    | succ i ih =>
      show mx_fold _ 0 i + (s.testBit i).toNat ≤ i + 1
      have := mx_tn (s.testBit i)
      omega
  exact this 10
/-- of how many of those it would float -/
def sp_yes (A : Nat → Int32) (c those s : Nat) : Nat → Nat := mx_fold (fun b a => a + (those.testBit b && sp_float (mx_upA A c (nI b)) s).toNat) 0
def sp_no (A : Nat → Int32) (c those s : Nat) : Nat → Nat := mx_fold (fun b a => a + (those.testBit b && !sp_float (mx_upA A c (nI b)) s).toNat) 0
theorem sp_yn (A : Nat → Int32) (c those s : Nat) : ∀ i, sp_yes A c those s i + sp_no A c those s i = mx_fold (fun i a => a + (those.testBit i).toNat) 0 i
  | 0 => rfl
  | i + 1 => by
    have ih := sp_yn A c those s i
    show sp_yes A c those s i + (those.testBit i && sp_float (mx_upA A c (nI i)) s).toNat + (sp_no A c those s i + (those.testBit i && !sp_float (mx_upA A c (nI i)) s).toNat) = mx_fold (fun i a => a + (those.testBit i).toNat) 0 i + (those.testBit i).toNat
    have : (those.testBit i && sp_float (mx_upA A c (nI i)) s).toNat + (those.testBit i && !sp_float (mx_upA A c (nI i)) s).toNat = (those.testBit i).toNat := by
      cases those.testBit i <;> cases sp_float (mx_upA A c (nI i)) s <;> rfl
    omega
def sp_gt (A : Nat → Int32) (c those s : Nat) : Nat := if sp_no A c those s 10 < sp_yes A c those s 10 then sp_yes A c those s 10 else sp_no A c those s 10
theorem sp_gt_le (A : Nat → Int32) (c those s : Nat) : sp_gt A c those s ≤ sp_c10 those := by
  have : sp_yes A c those s 10 + sp_no A c those s 10 = sp_c10 those := sp_yn A c those s 10
  unfold sp_gt
  split <;> omega
def sp_att (A : Nat → Int32) (c those : Nat) : Nat → Nat × Nat := mx_fold (fun s st => if sp_gt A c those s < st.2 then (s, sp_gt A c those s) else st) (0, sp_c10 those + 1)
theorem sp_att_s (A : Nat → Int32) (c those s : Nat) : sp_att A c those (s + 1) = if sp_gt A c those s < (sp_att A c those s).2 then (s, sp_gt A c those s) else sp_att A c those s := rfl
theorem sp_att_l (A : Nat → Int32) (c those : Nat) : ∀ s, (sp_att A c those s).2 ≤ 11 ∧ (sp_att A c those s).1 ≤ s
  | 0 => ⟨by have := sp_c10_le those; show sp_c10 those + 1 ≤ 11; omega, Nat.le_refl _⟩
  | s + 1 => by
    have ih := sp_att_l A c those s
    rw [sp_att_s]
    split
    · exact ⟨by have := sp_gt_le A c those s; have := sp_c10_le those; show sp_gt A c those s ≤ 11; omega, by show s ≤ s + 1; omega⟩
    · exact ⟨ih.1, by omega⟩
theorem sp_bb_lt (A : Nat → Int32) (c : Nat) (nu : Nat → Int64) (mm : Nat) : ∀ j, sp_bb A c nu mm j < 2 ^ j
  | 0 => by show 0 < 1; omega
  | j + 1 => by
    have ih := sp_bb_lt A c nu mm j
    show sp_bb A c nu mm j ||| cond (sp_ft (mx_upA A c (nI j)) nu mm) (2 ^ j) 0 < 2 ^ (j + 1)
    apply Nat.or_lt_two_pow
    · rw [Nat.pow_succ]; omega
    · have := Nat.pow_pos (n := j) (show 0 < 2 by omega)
      cases sp_ft (mx_upA A c (nI j)) nu mm <;> rw [Nat.pow_succ] <;> simp <;> omega
def v_attempt (V : vw) (x y : Int32) : Int32 := cond (bn x 4 && pn (vA V) y) (if v_nts V x = 0 then (if sp_bb (vA V) (66 + y.toNatClampNeg) (fun j => vNu V (40 * x.toNatClampNeg + j)) (vRm V x.toNatClampNeg).toNatClampNeg 10 = 0 then -1 else nI (sp_att (vA V) (66 + y.toNatClampNeg) (sp_bb (vA V) (66 + y.toNatClampNeg) (fun j => vNu V (40 * x.toNatClampNeg + j)) (vRm V x.toNatClampNeg).toNatClampNeg 10) (2 ^ sp_P (vA V))).1) else v_nts V x) (-2)
-- the class: ways
def mx_sW (w a _ : Nat) : Bool := Nat.beq a w || (Nat.beq a 85 || (Nat.beq a 86 || (Nat.ble 87 a && Nat.ble a 93)))
theorem mx_sWf {w a k : Nat} (h : a ≠ w ∧ (a < 85 ∨ 93 < a)) : mx_sW w a k = false := by
  have bl : (Nat.ble 87 a && Nat.ble a 93) = false := mx_sVf (k := 0) (by omega)
  unfold mx_sW
  rw [mv_bne h.1, mv_bne (by omega), mv_bne (by omega), bl]; rfl
theorem mx_sWof {S : Nat → Nat → Bool} {w : Nat} {h h' : mv_H} (z : mx_fz S h h') (hS : ∀ a k, a ≠ w ∧ (a < 85 ∨ 93 < a) → S a k = false) : mx_fz (mx_sW w) h h' := z.to (fun a k q => hS a k (by
  by_cases c : a = w ∨ (85 ≤ a ∧ a ≤ 93)
  · exfalso
    unfold mx_sW at q
    rcases c with c | c
    · rw [c, mv_beq] at q; cases q
    · rcases (by omega : a = 85 ∨ a = 86 ∨ (87 ≤ a ∧ a ≤ 93)) with d | d | d
      · rw [d] at q
        cases z : Nat.beq 85 w <;> rw [z] at q <;> cases q
      · rw [d] at q
        cases z : Nat.beq 86 w <;> rw [z] at q <;> cases q
      · rw [Nat.ble_eq_true_of_le d.1, Nat.ble_eq_true_of_le d.2, Bool.and_true, Bool.or_true, Bool.or_true, Bool.or_true] at q; cases q
  · omega))
theorem InvC.w {E : mv_E} {h : mv_H} {V : vw} (i : InvC0 E h V) : mv_R h 50 14 = 134 ∨ mv_R h 50 14 = 135 := by
  rcases i.2.2.2.2.2 with q | q
  · exact Or.inl q.1
  · exact Or.inr q.1
theorem wy_sh {w : Nat} (hw : w = 134 ∨ w = 135) (E : mv_E) (h : mv_H) : mv_KE E h w = (20, 256) := by
  rcases hw with rfl | rfl <;> rfl
theorem InvC.sW {E : mv_E} {h h' : mv_H} {V : vw} {w : Nat} (hw : w = 134 ∨ w = 135) (i : InvC0 E h V) (f : mx_fz (mx_sW w) h h') (iv : se_iv E h') : InvC E h' V := ⟨i.fz f (fun a k q => mx_sWf (by omega)), iv⟩
theorem fClW {h h' : mv_H} {w : Nat} (hw : w = 134 ∨ w = 135) (f : mx_fz (mx_sW w) h h') : fCl h h' := f.toC (fun a k q => mx_sWf (by omega))
theorem ct162 {E : mv_E} {D k n : Nat} {h : mv_H} {Q : mv_Q} {A : Nat → Int32} {cnt : Nat → Nat} (w : Nat) (hw : w = 134 ∨ w = 135) (e14 : mv_R h 50 14 = w) (cr : cr_ok E h (mv_R h 50 3) A) (m : m_ok A) (se : se_at E h A) (hc : ∀ s, s < 2 ^ sp_P A → mv_I h w s = nI (cnt s)) (H : ∀ h', mx_fz (fun a k => Nat.beq a w || mx_sV a k) h h' → se_at E h' A → (∀ s, s < 2 ^ sp_P A → mv_I h' w s = nI (cnt s + (sp_float A s).toNat)) → Q none h') : mv_VE E (D + 4) k n 162 0 [some (.ref 50), none] [] h Q := by
  have p8 := m.1.2.1
  have p2 := mx_p2 p8
  have p1 : 0 < 2 ^ sp_P A := Nat.pow_pos (by omega)
  have off : ∀ a k, a ≠ w ∧ (a < 87 ∨ 93 < a) → (fun a k => Nat.beq a w || mx_sV a k) a k = false := fun a k q => by
    dsimp only
    rw [mv_bne q.1, mx_sVf q.2]; rfl
  apply sg162_0
  refine mx_loop (P := fun j => ∀ h2, mx_fz (fun a k => Nat.beq a w || mx_sV a k) h h2 → se_at E h2 A → (∀ s, s < 2 ^ sp_P A → mv_I h2 w s = nI (cnt s + cond (decide (s < j)) (sp_float A s).toNat 0)) → mv_VE E (D + 4) k n 162 2 [some (.ref 50), some (.int (nI j))] [] h2 Q) (2 ^ sp_P A) ?_ ?_ h mx_fz.rf se (fun s hs => by rw [decide_eq_false (by omega), hc s hs]; rfl)
  · intro h2 f2 se2 c2
    have R3 : mv_R h2 50 3 = mv_R h 50 3 := (f2.2.2 50 3 (off _ _ (by omega))).2.2
    have cr2 : cr_ok E h2 (mv_R h 50 3) A := cr.fz f2 (fun a k q => off a k (by unfold cr_reg at q; omega))
    apply sg162_2
    rw [R3, cr2.1.2.1]
    refine mv_gdI rfl (ct29 cr2 m.1 ⟨_, rfl, ?_⟩)
    refine mx_ltT (2 ^ sp_P A - 1) (2 ^ sp_P A) (by omega) (H h2 f2 se2 (fun s hs => ?_)) (by omega)
    rw [c2 s hs, decide_eq_true hs]; rfl
  · intro j hj ih h2 f2 se2 c2
    have R3 : mv_R h2 50 3 = mv_R h 50 3 := (f2.2.2 50 3 (off _ _ (by omega))).2.2
    have cr2 : cr_ok E h2 (mv_R h 50 3) A := cr.fz f2 (fun a k q => off a k (by unfold cr_reg at q; omega))
    apply sg162_2
    rw [R3, cr2.1.2.1]
    refine mv_gdI rfl (ct29 cr2 m.1 ⟨_, rfl, ?_⟩)
    refine mx_ltF (2 ^ sp_P A - 1) j (by omega) ?_ (by omega)
    refine ct57 j se2 m.1 m.vb hj rfl (fun h3 f3 se3 => ⟨_, rfl, ?_⟩)
    have f23 : mx_fz (fun a k => Nat.beq a w || mx_sV a k) h h3 := f2.tr (f3.z.to (fun a k q => by
      refine mx_s5f ?_
      have q2 : mx_sV a k = false := by
        cases z : Nat.beq a w <;> rw [z] at q
        · exact q
        · cases q
      refine ⟨fun c => ?_, fun c => ?_, fun c => ?_, fun c => ?_⟩ <;> (subst c; cases q2)))
    have e14' : mv_R h3 50 14 = w := by rw [(f23.2.2 50 14 (off _ _ (by omega))).2.2]; exact e14
    have w3 : ∀ s, mv_I h3 w s = mv_I h2 w s := fun s => congrFun (f3.I w (fun k => mx_s5f (by omega))) s
    refine mx_ifB _ (fun z => ?_) (fun z => ?_)
    · rw [nI_1]
      refine ih h3 f23 se3 (fun s hs => ?_)
      rw [w3, c2 s hs]
      by_cases c : s = j
      · rw [c, z, decide_eq_false (by omega), decide_eq_true (by omega)]; rfl
      · by_cases d : s < j
        · rw [decide_eq_true d, decide_eq_true (by omega)]
        · rw [decide_eq_false d, decide_eq_false (by omega)]
    · rw [e14', wy_sh hw, nI_clamp (n := j) (by omega), w3, c2 j hj, nI_1, nI_1]
      have i8 : mv_in (nI j) 256 = true := mx_in j (by omega) (by omega)
      refine mv_gdI (by rw [i8]; rfl) (mv_gdI (by rw [i8]; rfl) ?_)
      have fw : mx_fz (fun a (_ : Nat) => Nat.beq a w) h3 (mv_sI h3 w j (nI (cnt j + cond (decide (j < j)) (sp_float A j).toNat 0 + 1))) := mx_fzat
      refine ih _ (f23.tr (fw.to (fun a k q => by
        have q : (Nat.beq a w || mx_sV a k) = false := q
        show Nat.beq a w = false
        cases z : Nat.beq a w with
        | false => rfl
        | true => rw [z] at q; cases q))) (se3.fz fw (fun a k q => mv_bne (by unfold cr_reg at q; omega))) (fun s hs => ?_)
      rw [mx_upI]
      by_cases c : s = j
      · rw [if_pos ⟨rfl, c⟩, c, z, decide_eq_false (show ¬ j < j by omega), decide_eq_true (show j < j + 1 by omega)]; rfl
      · rw [if_neg (fun d => c d.2), w3, c2 s hs]
        by_cases d : s < j
        · rw [decide_eq_true d, decide_eq_true (by omega)]
        · rw [decide_eq_false d, decide_eq_false (by omega)]
theorem cc161 {E : mv_E} {D k n : Nat} {h : mv_H} {Q : mv_Q} {V : vw} {x y : Int32} (p those w : Nat) (i : InvC E h V) (m : InvM V) (hw : mv_R h 50 14 = w) (hp : p < sp_P (vA V)) (ht : those < 1024) (ex : x = nI p) (ey : y = nI those) (H : ∀ h', InvC E h' V → mx_fz (mx_sW w) h h' → (∀ s, s < 2 ^ sp_P (vA V) → mv_I h' w s = nI (sp_yes (vA V) (66 + p) those s 10)) → Q none h') : mv_VE E (D + 5) k n 161 0 [some (.ref 50), some (.int x), some (.int y), none] [] h Q := by
  subst ex; subst ey
  have p8 := m.p8
  have p2 := m.p2
  have w2 : w = 134 ∨ w = 135 := by have := InvC.w i.1; rw [hw] at this; exact this
  apply sg161_0
  rw [hw]
  refine ct320 256 (wy_sh w2 E h) (by omega) (fun h1 f1 c1 => ⟨rfl, ?_⟩)
  have g1 : mx_fz (mx_sW w) h h1 := mx_sWof f1.z (fun a k q => mv_bne q.1)
  have iv1 : se_iv E h1 := i.2.fz f1.z (fun a k q => mv_bne (by unfold cr_reg at q; omega))
  have i1 := InvC.sW w2 i.1 g1 iv1
  refine cc104 i1.1 m ⟨_, rfl, ?_⟩
  rw [pnN m.ok hp, if_neg (by decide)]
  refine ct67t i1.1 mx_fz.rf iv1 (fun h2 f2 f2x iv2 i2 => ⟨rfl, ?_⟩)
  have s85 : ∀ {ha hb : mv_H}, mx_fz (mx_sX 85) ha hb → mx_fz (mx_sW w) ha hb := fun z => mx_sWof z (fun a k q => mx_sXf (by omega))
  have w1 : ∀ s, s < 256 → mv_I h2 w s = 0 := fun s hs => by rw [f2.I w (fun k => mx_sX85 (by omega))]; exact c1 s hs
  refine mx_loop (P := fun j => ∀ h3 z, mx_fz (mx_sW w) h h3 → se_iv E h3 → i_st h3 85 (sp_was (mx_upA (vA V) (66 + p) z)) → (∀ s, s < 2 ^ sp_P (vA V) → mv_I h3 w s = nI (sp_yes (vA V) (66 + p) those s j)) → mv_VE E (D + 5) k n 161 30 [some (.ref 50), some (.int (nI p)), some (.int (nI those)), some (.int (nI j))] [] h3 Q) 10 ?_ ?_ h2 (vA V (66 + p)) (g1.tr (s85 f2)) iv2 (by rw [mx_upAid]; exact i2) (fun s hs => w1 s (by omega))
  · intro h3 z f3 iv3 _ c3
    apply sg161_30
    exact mx_ltF 10 10 (Nat.le_refl _) (H h3 (InvC.sW w2 i.1 f3 iv3) f3 c3) (by omega)
  · intro j hj ih h3 z f3 iv3 i3 c3
    have es : ∀ s, sp_yes (vA V) (66 + p) those s (j + 1) = sp_yes (vA V) (66 + p) those s j + (those.testBit j && sp_float (mx_upA (vA V) (66 + p) (nI j)) s).toNat := fun s => rfl
    have mj : InvM (vw_A V (mx_upA (vA V) (66 + p) (nI j))) := m.up (Or.inl ⟨p, by omega, rfl⟩) hj
    have sj : sp_now (vA V) (mx_upA (vA V) (66 + p) (nI j)) := sp_now.up (by omega) (by omega)
    apply sg161_30
    rw [nI_1]
    refine mx_ltT j 10 hj ?_ (by omega)
    refine mx_ifb (those.testBit j) (mx_bit0 (by omega) (by omega)) (fun b => ?_) (fun b => ?_)
    · refine ih h3 z f3 iv3 i3 (fun s hs => ?_)
      rw [es, b, c3 s hs]; rfl
    · rw [nI_clamp (n := p) (by omega)]
      refine mv_gdI (mx_inT p (by omega) (by omega)) ?_
      have i4 : i_st (mv_sI h3 86 p (nI j)) 85 (sp_was (mx_upA (vA V) (66 + p) (nI j))) := by
        have := st85_up (y := nI j) (show p < 8 by omega) i3
        rw [mx_upAA] at this; exact this
      have z86 : mx_fz (fun a (_ : Nat) => Nat.beq a 86) h3 (mv_sI h3 86 p (nI j)) := mx_fzat
      have f4 : mx_fz (mx_sW w) h (mv_sI h3 86 p (nI j)) := f3.tr (mx_sWof z86 (fun a k q => mv_bne (by omega)))
      have iv4 : se_iv E (mv_sI h3 86 p (nI j)) := iv3.sX (Or.inr rfl) (Or.inr rfl)
      have c4 : ∀ s, s < 2 ^ sp_P (vA V) → mv_I (mv_sI h3 86 p (nI j)) w s = nI (sp_yes (vA V) (66 + p) those s j) := fun s hs => by rw [mx_InE (by omega)]; exact c3 s hs
      have i4' := (InvC.sW w2 i.1 f4 iv4).1
      have cr4 : cr_ok E (mv_sI h3 86 p (nI j)) (mv_R (mv_sI h3 86 p (nI j)) 50 3) (mx_upA (vA V) (66 + p) (nI j)) := InvC.cr i4' m sj
      have e14 : mv_R (mv_sI h3 86 p (nI j)) 50 14 = w := by rw [(f4.2.2 50 14 (mx_sWf (by omega))).2.2]; exact hw
      generalize mv_sI h3 86 p (nI j) = h4 at i4 f4 iv4 c4 i4' cr4 e14
      have e3 : mv_R h3 50 3 = mv_R h4 50 3 := by rw [(f4.2.2 50 3 (mx_sWf (by omega))).2.2, (f3.2.2 50 3 (mx_sWf (by omega))).2.2]
      rw [e3]
      refine ct51 iv4 (st_adD (Or.inr rfl)) (by omega) cr4 mj.ok (i_st.as i4) (fun h5 f5 se5 => ⟨rfl, ?_⟩)
      have eP : sp_P (mx_upA (vA V) (66 + p) (nI j)) = sp_P (vA V) := sj.P
      refine ct162 (cnt := fun s => sp_yes (vA V) (66 + p) those s j) w w2 ?_ ?_ mj.1.1 se5 (fun s hs => ?_) (fun h6 f6 se6 c6 => ⟨rfl, ?_⟩)
      · rw [(f5.2.2 50 14 (mx_s6f (by omega))).2.2]; exact e14
      · rw [(f5.2.2 50 3 (mx_s6f (by omega))).2.2]; exact cr4.fz f5 (fun a k q => mx_s6f (by unfold cr_reg at q; omega))
      · have hs : s < 2 ^ sp_P (mx_upA (vA V) (66 + p) (nI j)) := hs
        rw [eP] at hs
        rw [f5.I w (fun k => mx_s6f (by omega))]; exact c4 s hs
      · have off : ∀ a k, a ≠ w ∧ (a < 87 ∨ 93 < a) → (fun a k => Nat.beq a w || mx_sV a k) a k = false := fun a k q => by
          dsimp only
          rw [mv_bne q.1, mx_sVf q.2]; rfl
        refine ih h6 (nI j) (f4.tr ((mx_sWof f5 (fun a k q => mx_s6f (by omega))).tr (mx_sWof f6 (fun a k q => off a k (by omega))))) ⟨_, mj.ok, se6⟩ ((i4.fz f5 (fun k => mx_s6f (by omega)) (fun k => mx_s6f (by omega))).fz f6 (fun k => off _ k (by omega)) (fun k => off _ k (by omega))) (fun s hs => ?_)
        rw [c6 s (by show s < 2 ^ sp_P (mx_upA (vA V) (66 + p) (nI j)); rw [eP]; exact hs), es, b, Bool.true_and]; rfl
theorem cc160 {E : mv_E} {D k n : Nat} {h : mv_H} {Q : mv_Q} {V : vw} {x y : Int32} (i : InvC E h V) (m : InvM V) (H : ∀ h', InvC E h' V → fCl h h' → Q (some (.int (v_attempt V x y))) h') : mv_VE E (D + 6) k n 160 0 [some (.ref 50), some (.int x), some (.int y), none, none, none, none, none, none, none] [] h Q := by
  have p8 := m.p8
  have p2 := m.p2
  have p1 : 0 < 2 ^ sp_P (vA V) := Nat.pow_pos (by omega)
  apply sg160_0
  refine cc104 i.1 m ⟨_, rfl, ?_⟩
  refine cc156 (pn (vA V) y) i.1 m rfl ⟨_, rfl, ?_⟩
  unfold v_attempt at H
  cases z : pn (vA V) y with
  | false =>
    rw [z, Bool.and_false] at H
    rw [cond_false, if_neg (by decide)]
    exact H h i fCl.rf
  | true =>
    rw [z, Bool.and_true] at H
    rw [cond_true]
    cases a : bn x 4 with
    | false =>
      rw [a] at H
      rw [v_nts2 a, if_neg (by decide)]
      exact H h i fCl.rf
    | true =>
      rw [a, cond_true] at H
      refine mx_if (fun q => ?_) (fun q => ?_)
      · rw [if_pos q] at H
        obtain ⟨t, ht, rfl, mm, hm, em, so, hq⟩ := v_nts0 m q
        obtain ⟨p, hp, rfl⟩ := pnT m.ok z
        rw [nI_clamp (n := t) (by omega), nI_clamp (n := p) (by omega), em, nI_clamp (n := mm) (by omega)] at H
        rw [nI_clamp (n := t) (by omega)]
        refine mv_gdI (by rw [mx_in t ht (by omega)]; rfl) (cc157 t mm p i m ht hm so em hq hp rfl (fun h1 i1 f1 => ⟨_, rfl, ?_⟩))
        have bl : sp_bb (vA V) (66 + p) (fun j => vNu V (40 * t + j)) mm 10 < 1024 := sp_bb_lt (vA V) (66 + p) (fun j => vNu V (40 * t + j)) mm 10
        generalize sp_bb (vA V) (66 + p) (fun j => vNu V (40 * t + j)) mm 10 = those at H bl
        refine mx_eq those 0 (fun w => ?_) (fun w => ?_) (by omega) (by omega)
        · rw [if_pos w] at H; exact H h1 i1 (fCl85 f1)
        rw [if_neg w] at H
        obtain ⟨wy, hwy⟩ : ∃ w, mv_R h1 50 14 = w := ⟨_, rfl⟩
        have w2 : wy = 134 ∨ wy = 135 := by have := InvC.w i1.1; rw [hwy] at this; exact this
        refine cc161 p those wy i1 m hwy hp bl rfl rfl (fun h2 i2 f2 c2 => ⟨rfl, ?_⟩)
        rw [mx_305k those bl, nI_1]
        have cl := sp_c10_le those
        have e14 : mv_R h2 50 14 = wy := by rw [(f2.2.2 50 14 (mx_sWf (by omega))).2.2]; exact hwy
        have fc : fCl h h2 := (fCl85 f1).tr (fClW w2 f2)
        have key : ∀ j, j ≤ 2 ^ sp_P (vA V) → mv_VE E (D + 6) k n 160 63 [some (.ref 50), none, none, none, none, some (.int (nI (sp_c10 those))), some (.int (nI (sp_att (vA V) (66 + p) those (2 ^ sp_P (vA V) - j)).1)), some (.int (nI (sp_att (vA V) (66 + p) those (2 ^ sp_P (vA V) - j)).2)), some (.int (nI (2 ^ sp_P (vA V) - j))), none] [] h2 Q := by
          intro j
          induction j with
          | zero =>
            intro _
            apply sg160_63
            rw [i2.1.1.1.1.1.2.1]
            refine mv_gdI rfl (ct29 i2.1.1.1.1 m.ok ⟨_, rfl, ?_⟩)
            exact mx_ltT (2 ^ sp_P (vA V) - 1) (2 ^ sp_P (vA V) - 0) (by omega) (H h2 i2 fc) (by omega)
          | succ j ih =>
            intro hj
            have ih := ih (by omega)
            have es := sp_att_s (vA V) (66 + p) those (2 ^ sp_P (vA V) - (j + 1))
            rw [show 2 ^ sp_P (vA V) - (j + 1) + 1 = 2 ^ sp_P (vA V) - j by omega] at es
            rw [es] at ih
            have al := sp_att_l (vA V) (66 + p) those (2 ^ sp_P (vA V) - (j + 1))
            have yn : sp_yes (vA V) (66 + p) those (2 ^ sp_P (vA V) - (j + 1)) 10 + sp_no (vA V) (66 + p) those (2 ^ sp_P (vA V) - (j + 1)) 10 = sp_c10 those := sp_yn _ _ _ _ 10
            have gl := sp_gt_le (vA V) (66 + p) those (2 ^ sp_P (vA V) - (j + 1))
            apply sg160_63
            rw [i2.1.1.1.1.1.2.1]
            refine mv_gdI rfl (ct29 i2.1.1.1.1 m.ok ⟨_, rfl, ?_⟩)
            refine mx_ltF (2 ^ sp_P (vA V) - 1) (2 ^ sp_P (vA V) - (j + 1)) (by omega) ?_ (by omega)
            rw [e14, wy_sh w2, nI_clamp (n := 2 ^ sp_P (vA V) - (j + 1)) (by omega), c2 _ (by omega), pk_sub (show sp_yes (vA V) (66 + p) those (2 ^ sp_P (vA V) - (j + 1)) 10 ≤ sp_c10 those by omega), show sp_c10 those - sp_yes (vA V) (66 + p) those (2 ^ sp_P (vA V) - (j + 1)) 10 = sp_no (vA V) (66 + p) those (2 ^ sp_P (vA V) - (j + 1)) 10 by omega, nI_1]
            have i8 : mv_in (nI (2 ^ sp_P (vA V) - (j + 1))) 256 = true := mx_in (2 ^ sp_P (vA V) - (j + 1)) (by omega) (by omega)
            refine mv_gdI (by rw [i8]; rfl) (mv_gdI (by rw [i8]; rfl) ?_)
            have eg : (if nI (sp_yes (vA V) (66 + p) those (2 ^ sp_P (vA V) - (j + 1)) 10) < nI (sp_no (vA V) (66 + p) those (2 ^ sp_P (vA V) - (j + 1)) 10) then nI (sp_no (vA V) (66 + p) those (2 ^ sp_P (vA V) - (j + 1)) 10) else nI (sp_yes (vA V) (66 + p) those (2 ^ sp_P (vA V) - (j + 1)) 10)) = nI (sp_gt (vA V) (66 + p) those (2 ^ sp_P (vA V) - (j + 1))) := by
              unfold sp_gt
              rcases Nat.lt_or_ge (sp_yes (vA V) (66 + p) those (2 ^ sp_P (vA V) - (j + 1)) 10) (sp_no (vA V) (66 + p) those (2 ^ sp_P (vA V) - (j + 1)) 10) with c | c
              · rw [if_pos ((nI_ltI (by omega) (by omega)).mpr c), if_neg (by omega)]
              · rw [if_neg (fun d => by have := (nI_ltI (by omega) (by omega)).mp d; omega)]
                split
                · rfl
                · congr 1; omega
            rw [eg]
            refine mx_lt (sp_gt (vA V) (66 + p) those (2 ^ sp_P (vA V) - (j + 1))) (sp_att (vA V) (66 + p) those (2 ^ sp_P (vA V) - (j + 1))).2 (fun c => ?_) (fun c => ?_) (by omega) (by omega)
            · rw [if_pos c] at ih
              rw [show 2 ^ sp_P (vA V) - (j + 1) + 1 = 2 ^ sp_P (vA V) - j by omega]; exact ih
            · rw [if_neg (by omega)] at ih
              rw [show 2 ^ sp_P (vA V) - (j + 1) + 1 = 2 ^ sp_P (vA V) - j by omega]; exact ih
        have k0 := key (2 ^ sp_P (vA V)) (Nat.le_refl _)
        rw [Nat.sub_self] at k0
        exact k0
      · rw [if_neg q] at H; exact H h i fCl.rf
-- the model
theorem cw284 {E : mv_E} {D k n : Nat} {h0 h : mv_H} {Q : mv_Q} {V : vw} {x y z : Int32} (s p those : Nat) (f : fM V h0 h) (m : InvM V) (hs : s < 256) (hp : p < sp_P (vA V)) (ht : those < 1024) (ex : x = nI s) (ey : y = nI p) (ez : z = nI those) (H : ∀ h', fM V h0 h' → Q (some (.int (nI (sp_gt (vA V) (66 + p) those s)))) h') : mv_VE E (D + 4) k n 284 0 [some (.ref 148), some (.int x), some (.int y), some (.int z), none, none, none, none] [] h Q := by
  subst ex; subst ey; subst ez
  have p8 := m.p8
  have i66 : (true && mv_in (nI (66 + p)) 3264) = true := mx_inT (66 + p) (by omega) (by omega)
  apply sg284_0
  rw [show (66 : Int32) + nI p = nI (66 + p) from nI_add 66 p, nI_clamp (n := 66 + p) (by omega), f.A]
  refine mv_gdI i66 ?_
  have yl : ∀ i, i ≤ 10 → sp_yes (vA V) (66 + p) those s i + sp_no (vA V) (66 + p) those s i ≤ i := fun i hi => by
    rw [sp_yn]
    have : ∀ i, mx_fold (fun i a => a + (those.testBit i).toNat) 0 i ≤ i := by
      intro i
      induction i with
      | zero => exact Nat.le_refl _
      | succ i ih =>
        show mx_fold _ 0 i + (those.testBit i).toNat ≤ i + 1
        have := mx_tn (those.testBit i)
        omega
    exact this i
  refine mx_loop (P := fun j => ∀ h2 w, fM (vw_A V (mx_upA (vA V) (66 + p) w)) h0 h2 → mv_VE E (D + 4) k n 284 20 [some (.ref 148), some (.int (nI s)), some (.int (nI p)), some (.int (nI those)), some (.int (vA V (66 + p))), some (.int (nI (sp_yes (vA V) (66 + p) those s j))), some (.int (nI (sp_no (vA V) (66 + p) those s j))), some (.int (nI j))] [] h2 Q) 10 ?_ ?_ h (vA V (66 + p)) (by rw [mx_upAid]; exact f)
  · intro h2 w f2
    have y10 := yl 10 (Nat.le_refl _)
    have g : fM (vw_A (vw_A V (mx_upA (vA V) (66 + p) w)) (mx_upA (mx_upA (vA V) (66 + p) w) (66 + p) (vA V (66 + p)))) h0 (mv_sI h2 149 (66 + p) (vA V (66 + p))) := f2.at (k := 66 + p) (x := vA V (66 + p))
    have e : vw_A (vw_A V (mx_upA (vA V) (66 + p) w)) (mx_upA (mx_upA (vA V) (66 + p) w) (66 + p) (vA V (66 + p))) = V := by
      rw [mx_upAA, mx_upAid]; rfl
    rw [e] at g
    have H := H _ g
    unfold sp_gt at H
    apply sg284_20
    rw [show (66 : Int32) + nI p = nI (66 + p) from nI_add 66 p, nI_clamp (n := 66 + p) (by omega)]
    refine mx_ltF 10 10 (Nat.le_refl _) (mv_gdI i66 ?_) (by omega)
    refine mx_lt (sp_no (vA V) (66 + p) those s 10) (sp_yes (vA V) (66 + p) those s 10) (fun c => ?_) (fun c => ?_) (by omega) (by omega)
    · rw [if_pos c] at H; exact H
    · rw [if_neg (by omega)] at H; exact H
  · intro j hj ih h2 w f2
    have ey : sp_yes (vA V) (66 + p) those s (j + 1) = sp_yes (vA V) (66 + p) those s j + (those.testBit j && sp_float (mx_upA (vA V) (66 + p) (nI j)) s).toNat := rfl
    have en : sp_no (vA V) (66 + p) those s (j + 1) = sp_no (vA V) (66 + p) those s j + (those.testBit j && !sp_float (mx_upA (vA V) (66 + p) (nI j)) s).toNat := rfl
    rw [ey, en] at ih
    apply sg284_20
    rw [show (66 : Int32) + nI p = nI (66 + p) from nI_add 66 p, nI_clamp (n := 66 + p) (by omega), nI_1, nI_1, nI_1]
    refine mx_ltT j 10 hj ?_ (by omega)
    refine mx_cdb (those.testBit j) (mx_isIn (by omega) (by omega)) (fun b => ?_) (fun b => ?_)
    · have mj : InvM (vw_A V (mx_upA (vA V) (66 + p) (nI j))) := m.up (Or.inl ⟨p, by omega, rfl⟩) hj
      have g : fM (vw_A (vw_A V (mx_upA (vA V) (66 + p) w)) (mx_upA (mx_upA (vA V) (66 + p) w) (66 + p) (nI j))) h0 (mv_sI h2 149 (66 + p) (nI j)) := f2.at (k := 66 + p) (x := nI j)
      rw [mx_upAA] at g
      have g : fM (vw_A V (mx_upA (vA V) (66 + p) (nI j))) h0 (mv_sI h2 149 (66 + p) (nI j)) := g
      rw [b] at ih
      refine mv_gdI i66 (cw220 (V := vw_A V (mx_upA (vA V) (66 + p) (nI j))) s g mj hs rfl (fun h3 f3 => ⟨_, rfl, ?_⟩))
      have ih := ih h3 (nI j) f3
      refine mx_ifB _ (fun z => ?_) (fun z => ?_)
      · have z : sp_float (mx_upA (vA V) (66 + p) (nI j)) s = false := z
        rw [z] at ih; exact ih
      · have z : sp_float (mx_upA (vA V) (66 + p) (nI j)) s = true := z
        rw [z] at ih; exact ih
    · rw [b] at ih
      exact ih h2 w f2
theorem cm283 {E : mv_E} {D k n : Nat} {h : mv_H} {Q : mv_Q} {V : vw} {x y : Int32} (e : vw_of h = V) (m : InvM V) (H : ∀ h', fM V h h' → Q (some (.int (v_attempt V x y))) h') : mv_VE E (D + 6) k n 283 0 [some (.ref 148), some (.int x), some (.int y), none, none, none, none, none, none] [] h Q := by
  have f0 := fM.of e
  have p8 := m.p8
  have p2 := m.p2
  have p1 : 0 < 2 ^ sp_P (vA V) := Nat.pow_pos (by omega)
  apply sg283_0
  refine cw278 f0 m ⟨_, rfl, ?_⟩
  unfold v_attempt at H
  refine mx_if (fun q => ?_) (fun q => ?_)
  · obtain ⟨q1, q2, q3⟩ := v_nb0 m q
    rw [q2, q3, Bool.and_true, cond_true, if_pos q1] at H
    obtain ⟨t, ht, rfl, mm, hm, em, so, hq⟩ := v_nts0 m q1
    obtain ⟨p, hp, rfl⟩ := pnT m.ok q3
    rw [nI_clamp (n := t) (by omega), nI_clamp (n := p) (by omega), em, nI_clamp (n := mm) (by omega)] at H
    refine cw280 t mm p f0 m ht hm em hq hp rfl rfl (fun h1 f1 => ⟨_, rfl, ?_⟩)
    have bl : sp_bb (vA V) (66 + p) (fun j => vNu V (40 * t + j)) mm 10 < 1024 := sp_bb_lt (vA V) (66 + p) (fun j => vNu V (40 * t + j)) mm 10
    generalize sp_bb (vA V) (66 + p) (fun j => vNu V (40 * t + j)) mm 10 = those at H bl
    have cl := sp_c10_le those
    by_cases w : those = 0
    · rw [if_pos w] at H
      apply sg283_37
      rw [cw219 f1 m]
      exact mx_ltF (2 ^ sp_P (vA V) - 1) 0 (by omega) (mx_T (by rw [w]; rfl) (H h1 f1)) (by omega)
    · rw [if_neg w] at H
      have key : ∀ j, j < 2 ^ sp_P (vA V) → ∀ h2, fM V h h2 → mv_VE E (D + 6) k n 283 37 [some (.ref 148), none, some (.int (nI p)), none, some (.int (nI those)), some (.int (nI (sp_att (vA V) (66 + p) those (2 ^ sp_P (vA V) - j)).1)), some (.int (nI (sp_att (vA V) (66 + p) those (2 ^ sp_P (vA V) - j)).2)), some (.int (nI (2 ^ sp_P (vA V) - j))), none] [] h2 Q := by
        intro j
        induction j with
        | zero =>
          intro _ h2 f2
          apply sg283_37
          rw [cw219 f2 m]
          exact mx_ltT (2 ^ sp_P (vA V) - 1) (2 ^ sp_P (vA V) - 0) (by omega) (H h2 f2) (by omega)
        | succ j ih =>
          intro hj h2 f2
          have ih := ih (by omega)
          have es := sp_att_s (vA V) (66 + p) those (2 ^ sp_P (vA V) - (j + 1))
          rw [show 2 ^ sp_P (vA V) - (j + 1) + 1 = 2 ^ sp_P (vA V) - j by omega] at es
          rw [es] at ih
          have al := sp_att_l (vA V) (66 + p) those (2 ^ sp_P (vA V) - (j + 1))
          have gl := sp_gt_le (vA V) (66 + p) those (2 ^ sp_P (vA V) - (j + 1))
          apply sg283_37
          rw [cw219 f2 m]
          refine mx_ltF (2 ^ sp_P (vA V) - 1) (2 ^ sp_P (vA V) - (j + 1)) (by omega) ?_ (by omega)
          refine mx_F (nI_ne0 (by omega) (by omega)) ?_
          refine cw284 (2 ^ sp_P (vA V) - (j + 1)) p those f2 m (by omega) hp bl rfl rfl rfl (fun h3 f3 => ⟨_, rfl, ?_⟩)
          rw [nI_1, show 2 ^ sp_P (vA V) - (j + 1) + 1 = 2 ^ sp_P (vA V) - j by omega]
          have ih := ih h3 f3
          refine mx_lt (sp_gt (vA V) (66 + p) those (2 ^ sp_P (vA V) - (j + 1))) (sp_att (vA V) (66 + p) those (2 ^ sp_P (vA V) - (j + 1))).2 (fun c => ?_) (fun c => ?_) (by omega) (by omega)
          · rw [if_pos c] at ih; exact ih
          · rw [if_neg (by omega)] at ih; exact ih
      have gl := sp_gt_le (vA V) (66 + p) those 0
      apply sg283_37
      rw [cw219 f1 m]
      refine mx_ltF (2 ^ sp_P (vA V) - 1) 0 (by omega) ?_ (by omega)
      refine mx_F (nI_ne0 (by omega) (by omega)) ?_
      refine cw284 0 p those f1 m (by omega) hp bl rfl rfl rfl (fun h3 f3 => ⟨_, rfl, ?_⟩)
      have k0 := key (2 ^ sp_P (vA V) - 1) (by omega) h3 f3
      rw [show 2 ^ sp_P (vA V) - (2 ^ sp_P (vA V) - 1) = 0 + 1 by omega, sp_att_s, if_pos (show sp_gt (vA V) (66 + p) those 0 < (sp_att (vA V) (66 + p) those 0).2 by show _ < sp_c10 those + 1; omega)] at k0
      exact mx_ltT (sp_gt (vA V) (66 + p) those 0) 268435456 (by omega) k0 (by omega)
  · have H := H _ f0
    unfold v_nb at q ⊢
    cases a : (bn x 4 && pn (vA V) y) with
    | false => rw [a] at H; exact H
    | true =>
      rw [a, cond_true] at q H
      rw [if_neg q] at H
      exact H
