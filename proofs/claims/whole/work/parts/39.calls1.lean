/-! Calls, first: fault, holder, lets, floats, pieces, count. -/
def mx_sM (a _ : Nat) : Bool := Nat.ble 148 a && Nat.ble a 164
theorem mx_sMf {a k : Nat} (h : a < 148 ∨ 165 ≤ a) : mx_sM a k = false := by
  unfold mx_sM
  cases z : Nat.ble 148 a with
  | false => rfl
  | true =>
    cases z2 : Nat.ble a 164 with
    | false => rfl
    | true =>
      have := Nat.le_of_ble_eq_true z
      have := Nat.le_of_ble_eq_true z2
      omega
/-- what a call of the class leaves alone -/
def fCl (h h' : mv_H) : Prop := ∀ a k, (a < 50 ∨ (148 ≤ a ∧ a < 165)) → mv_I h' a k = mv_I h a k ∧ mv_J h' a k = mv_J h a k
theorem fCl.rf {h : mv_H} : fCl h h := fun _ _ _ => ⟨rfl, rfl⟩
theorem fCl.tr {h h' h'' : mv_H} (a : fCl h h') (b : fCl h' h'') : fCl h h'' := fun x y z => ⟨(b x y z).1.trans (a x y z).1, (b x y z).2.trans (a x y z).2⟩
theorem mx_fz.toC {S : Nat → Nat → Bool} {h h' : mv_H} (z : mx_fz S h h') (hS : ∀ a k, (a < 50 ∨ (148 ≤ a ∧ a < 165)) → S a k = false) : fCl h h' := fun a k q => ⟨(z.2.2 a k (hS a k q)).1, (z.2.2 a k (hS a k q)).2.1⟩
theorem fCl.vw {h h' : mv_H} (f : fCl h h') : vw_of h' = vw_of h := by
  have e : ∀ a, 148 ≤ a → a < 165 → mv_I h' a = mv_I h a := fun a h1 h2 => funext fun k => (f a k (Or.inr ⟨h1, h2⟩)).1
  have e2 : mv_J h' 164 = mv_J h 164 := funext fun k => (f 164 k (Or.inr ⟨by omega, by omega⟩)).2
  unfold vw_of
  rw [e 149 (by omega) (by omega), e 150 (by omega) (by omega), e 151 (by omega) (by omega), e 148 (by omega) (by omega), e 162 (by omega) (by omega), e 163 (by omega) (by omega), e2]
def InvS (E : mv_E) (h : mv_H) (V : vw) : Prop := InvC0 E h V ∧ se_at E h (vA V)
theorem InvS.C {E : mv_E} {h : mv_H} {V : vw} (i : InvS E h V) (m : InvM V) : InvC E h V := ⟨i.1, vA V, m.1.1.1, i.2⟩
theorem mx_s5f {a k : Nat} (h : a ≠ 87 ∧ a ≠ 93 ∧ a ≠ 90 ∧ a ≠ 91) : mx_s5 a k = false := by
  unfold mx_s5
  rw [mv_bne h.1, mv_bne h.2.1, mv_bne h.2.2.1, mv_bne h.2.2.2]; rfl
theorem mx_s6f {a k : Nat} (h : a < 87 ∨ 91 < a) : mx_s6 a k = false := by
  unfold mx_s6
  cases z : Nat.ble 87 a with
  | false => rfl
  | true =>
    cases z2 : Nat.ble a 91 with
    | false => rfl
    | true =>
      have := Nat.le_of_ble_eq_true z
      have := Nat.le_of_ble_eq_true z2
      omega
theorem InvS.s5 {E : mv_E} {h h' : mv_H} {V : vw} (i : InvS E h V) (f : mx_fr mx_s5 h h') (s : se_at E h' (vA V)) : InvS E h' V := ⟨i.1.fz f.z (fun a k q => mx_s5f (by omega)), s⟩
theorem mx_fr.fC5 {h h' : mv_H} (f : mx_fr mx_s5 h h') : fCl h h' := f.z.toC (fun a k q => mx_s5f (by omega))
theorem mx_fz.fC6 {h h' : mv_H} (f : mx_fz mx_s6 h h') : fCl h h' := f.toC (fun a k q => mx_s6f (by omega))
theorem i_st.as {h : mv_H} {x : Nat} {A : Nat → Int32} (i : i_st h x (fun j => A (65 + j))) : st_as h x A := ⟨i.2.1, fun p hp => by rw [i.2.2.2 p hp]; show A (65 + (1 + p)) = _; rw [show 65 + (1 + p) = 66 + p by omega]⟩
theorem cc51 {E : mv_E} {D k n : Nat} {h : mv_H} {Q : mv_Q} {V : vw} {r : Nat} (i : InvC E h V) (m : InvM V) (e : r = mv_R h 50 3) (H : ∀ h', mx_fz mx_s6 h h' → InvS E h' V → Q none h') : mv_VE E (D + 2) k n 51 0 [some (.ref 87), some (.ref r), some (.ref 81)] [] h Q := by
  subst e
  exact ct51 i.2 (Or.inl rfl) (by omega) i.1.1.1.1 m.1.1.1 i.1.1.2.1.as (fun h' f s => H h' f ⟨i.1.fz f (fun a k q => mx_s6f (by omega)), s⟩)
/-- is x one of those aboard -/
def pn (A : Nat → Int32) (x : Int32) : Bool := !decide (x < 0) && decide (x < A 1)
theorem pnT {A : Nat → Int32} {x : Int32} (ok : sp_ok A) (h : pn A x = true) : ∃ p, p < sp_P A ∧ x = nI p := by
  unfold pn at h
  simp only [Bool.and_eq_true, Bool.not_eq_true', decide_eq_false_iff_not, decide_eq_true_eq] at h
  obtain ⟨j, hj, rfl⟩ := nI_of h.1
  rw [ok.1, nI_ltI hj (by have := ok.2.1; omega)] at h
  exact ⟨j, h.2, rfl⟩
theorem pnN {A : Nat → Int32} {p : Nat} (ok : sp_ok A) (hp : p < sp_P A) : pn A (nI p) = true := by
  have := ok.2.1
  unfold pn
  rw [ok.1, decide_eq_true ((nI_ltI (by omega) (by omega)).mpr hp), decide_eq_false (nI_pos (by omega))]
  rfl
theorem pn_m {A : Nat → Int32} {x : Int32} (ok : sp_ok A) : pf182 x.toInt64 0 ((A 1 - 1).toInt64) = pn A x := by
  have h8 := ok.2.1
  have w := mx_wi (x := x) (L := 0) (H := (A 1 - 1).toInt64) 0 (A 1 - 1) rfl rfl
  rw [w]
  unfold pn
  congr 1
  rw [ok.1]
  have e : (nI (sp_P A) - 1).toInt = (sp_P A : Int) - 1 := pk_sub_toInt (a := sp_P A) (b := 1) (by omega) (by omega)
  by_cases q : x < nI (sp_P A)
  · rw [decide_eq_true q, decide_eq_false]
    · rfl
    · rw [Int32.lt_iff_toInt_lt, nI_toInt (by omega)] at q
      rw [Int32.lt_iff_toInt_lt, e]
      omega
  · rw [decide_eq_false q, decide_eq_true]
    · rfl
    · rw [Int32.lt_iff_toInt_lt, nI_toInt (by omega)] at q
      rw [Int32.lt_iff_toInt_lt, e]
      omega
theorem pn210 {h : mv_H} {x : Int32} (ok : sp_ok (mv_I h 149)) : pf210 h x.toInt64 = pn (mv_I h 149) x := by
  unfold pf210
  rw [pn_m ok]
  cases pn (mv_I h 149) x <;> rfl
/-- is x a set of those aboard -/
def sn (A : Nat → Int32) (x : Int32) : Bool := !decide (x < 0) && decide (x < nI (2 ^ sp_P A))
theorem snT {A : Nat → Int32} {x : Int32} (ok : sp_ok A) (h : sn A x = true) : ∃ s, s < 2 ^ sp_P A ∧ x = nI s := by
  unfold sn at h
  simp only [Bool.and_eq_true, Bool.not_eq_true', decide_eq_false_iff_not, decide_eq_true_eq] at h
  obtain ⟨j, hj, rfl⟩ := nI_of h.1
  rw [nI_ltI hj (by have := mx_p2 ok.2.1; omega)] at h
  exact ⟨j, h.2, rfl⟩
theorem sn_m {h : mv_H} {x : Int32} (ok : sp_ok (mv_I h 149)) : pf218 h x = sn (mv_I h 149) x := by
  have hp2 := mx_p2 ok.2.1
  have h1 : 0 < 2 ^ sp_P (mv_I h 149) := Nat.pow_pos (by omega)
  unfold pf218
  have w := mx_wi (x := x) (L := 0) (H := (nI (2 ^ sp_P (mv_I h 149) - 1)).toInt64) 0 (nI (2 ^ sp_P (mv_I h 149) - 1)) rfl rfl
  rw [mx_219 ok.1 ok.2.1, w]
  unfold sn
  have : (!decide (nI (2 ^ sp_P (mv_I h 149) - 1) < x)) = decide (x < nI (2 ^ sp_P (mv_I h 149))) := by
    by_cases q : x < nI (2 ^ sp_P (mv_I h 149))
    · rw [decide_eq_true q, decide_eq_false]
      · rfl
      · rw [Int32.lt_iff_toInt_lt, nI_toInt (by omega)] at q ⊢
        omega
    · rw [decide_eq_false q, decide_eq_true]
      · rfl
      · rw [Int32.lt_iff_toInt_lt, nI_toInt (by omega)] at q ⊢
        omega
  rw [this]
  generalize (!decide (x < 0) && decide (x < nI (2 ^ sp_P (mv_I h 149)))) = b
  cases b <;> rfl
theorem sn_c {A : Nat → Int32} {x : Int32} (ok : sp_ok A) : (x &&& (nI (2 ^ sp_P A - 1) ^^^ (-1)) = 0) ↔ sn A x = true := by
  have hp2 := mx_p2 ok.2.1
  have h1 : 0 < 2 ^ sp_P A := Nat.pow_pos (by omega)
  constructor
  · intro h
    obtain ⟨j, hj, rfl⟩ : ∃ n, n < 2 ^ 32 ∧ x = nI n := ⟨x.toBitVec.toNat, x.toBitVec.isLt, Int32.toBitVec_inj.mp (by show _ = BitVec.ofNat 32 _; simp)⟩
    rw [mx_andn] at h
    have hw : mx_wo j (2 ^ sp_P A - 1) = 0 := by
      have l : mx_wo j (2 ^ sp_P A - 1) < 2 ^ 32 := mx_wo_lt hj
      have e := pk_tn l
      rw [h] at e
      exact e.symm
    have hlt : j < 2 ^ sp_P A := by
      apply Nat.lt_pow_two_of_testBit
      intro i hi
      have e : (mx_wo j (2 ^ sp_P A - 1)).testBit i = false := by rw [hw, Nat.zero_testBit]
      rw [mx_wo_bit, Nat.testBit_two_pow_sub_one, decide_eq_false (by omega)] at e
      simpa using e
    unfold sn
    rw [decide_eq_true ((nI_ltI (by omega) (by omega)).mpr hlt), decide_eq_false (nI_pos (by omega))]
    rfl
  · intro h
    obtain ⟨s, hs, rfl⟩ := snT ok h
    rw [mx_andn]
    have : mx_wo s (2 ^ sp_P A - 1) = 0 := by
      apply Nat.eq_of_testBit_eq
      intro i
      rw [mx_wo_bit, Nat.testBit_two_pow_sub_one, Nat.zero_testBit]
      by_cases q : i < sp_P A
      · rw [decide_eq_true q]; simp
      · rw [Nat.testBit_lt_two_pow (Nat.lt_of_lt_of_le hs (Nat.pow_le_pow_right (by omega) (by omega)))]; rfl
    rw [this]; rfl
theorem cc104 {E : mv_E} {D k n : Nat} {h : mv_H} {Q : mv_Q} {V : vw} {x : Int32} (i : InvC0 E h V) (m : InvM V) (H : Q (some (.int (nI (pn (vA V) x).toNat))) h) : mv_VE E D k n 104 0 [some (.ref 50), some (.int x)] [] h Q := by
  have ok := m.1.1.1
  apply sg104_0
  rw [i.1.1.1.1.2.1, i.1.1.1.2.1.1]
  unfold pn at H
  refine mx_if (fun q => ?_) (fun q => mv_gdI rfl (mx_if (fun r => ?_) (fun r => ?_)))
  · rw [decide_eq_true q] at H; exact H
  · rw [decide_eq_false q, decide_eq_true r] at H; exact H
  · rw [decide_eq_false q, decide_eq_false r] at H; exact H
theorem cc107 {E : mv_E} {D k n : Nat} {h : mv_H} {Q : mv_Q} {V : vw} {x : Int32} (i : InvC0 E h V) (m : InvM V) (H : Q (some (.int (nI (sn (vA V) x).toNat))) h) : mv_VE E (D + 1) k n 107 0 [some (.ref 50), some (.int x)] [] h Q := by
  have ok := m.1.1.1
  apply sg107_0
  rw [i.1.1.1.1.2.1]
  refine mv_gdI rfl (ct29 i.1.1.1 ok ⟨_, rfl, ?_⟩)
  refine mx_if (fun q => ?_) (fun q => ?_)
  · rw [(sn_c ok).mp q] at H; exact H
  · cases z : sn (vA V) x with
    | true => exact absurd ((sn_c ok).mpr z) q
    | false => rw [z] at H; exact H
/-- carried, of the state now -/
theorem cc108 {E : mv_E} {D k n : Nat} {h : mv_H} {Q : mv_Q} {V : vw} {x : Int32} (s : Nat) (i : InvC E h V) (m : InvM V) (hs : s < 2 ^ sp_P (vA V)) (e : x = nI s) (H : ∀ h', InvS E h' V → fCl h h' → Q (some (.int (nI (sp_float (vA V) s).toNat))) h') : mv_VE E (D + 4) k n 108 0 [some (.ref 50), some (.ref 81), some (.int x)] [] h Q := by
  subst e
  apply sg108_0
  refine cc51 i m rfl (fun h1 f1 s1 => ⟨rfl, ?_⟩)
  refine ct57 s s1.2 m.1.1.1 m.1.1.vb hs rfl (fun h2 f2 s2 => ⟨_, rfl, ?_⟩)
  have hH := H h2 (s1.s5 f2 s2) (f1.fC6.tr f2.fC5)
  cases z : sp_float (vA V) s with
  | false => rw [if_pos (by rfl)]; rw [z] at hH; exact hH
  | true => rw [if_neg (by decide)]; rw [z] at hH; exact hH
theorem mx_224 (b : Bool) : pf224 (nI b.toNat) = nI b.toNat := by cases b <;> rfl
/-- of the model: nothing but its own scratch -/
def fM (V : vw) (h h' : mv_H) : Prop := mx_fz mx_sM h h' ∧ vw_of h' = V
theorem fM0 {h : mv_H} {x : Int32} : fM (vw_of h) h (mv_sI h 148 0 x) := by
  refine ⟨(mx_fr.sI rfl).z, ?_⟩
  rfl
theorem fM.s2 {V : vw} {h h' h'' : mv_H} (a : fM V h h') (b : mx_fr mx_s2 h' h'') : fM V h h'' := by
  refine ⟨a.1.tr (b.z.to (fun x k q => ?_)), ?_⟩
  · unfold mx_s2
    rw [mv_bne (fun c => by rw [c] at q; cases q), mv_bne (fun c => by rw [c] at q; cases q)]
    rfl
  · rw [← a.2]
    unfold vw_of
    rw [b.I 149 (fun _ => rfl), b.I 150 (fun _ => rfl), b.I 151 (fun _ => rfl), b.I 148 (fun _ => rfl), b.I 162 (fun _ => rfl), b.I 163 (fun _ => rfl), b.2.2.2.1]
-- fault
theorem cc102 {E : mv_E} {D k n : Nat} {h : mv_H} {Q : mv_Q} {V : vw} {x : Int32} (i : InvC E h V) (H : ∀ h', InvC E h' V → fCl h h' → Q (some (.int (if x = 0 then vFk V else if x = 1 then vFp V else -1))) h') : mv_VE E D k n 102 0 [some (.ref 50), some (.int x)] [] h Q := by
  apply cp102
  unfold pf102
  rw [i.1.2.2.2.2.1.1, i.1.2.2.2.2.1.2]
  exact H h i fCl.rf
theorem cm208 {E : mv_E} {D k n : Nat} {h : mv_H} {Q : mv_Q} {V : vw} {x : Int32} (e : vw_of h = V) (H : ∀ h', fM V h h' → Q (some (.int (if x = 0 then vFk V else if x = 1 then vFp V else -1))) h') : mv_VE E D k n 208 0 [some (.ref 148), some (.int x)] [] h Q := by
  subst e
  apply sg208_0
  have hH := H _ (fM0 (x := 0))
  refine mx_if (fun q => ?_) (fun q => mx_if (fun r => ?_) (fun r => ?_))
  · rw [if_pos q] at hH; exact hH
  · rw [if_neg q, if_pos r] at hH; exact hH
  · rw [if_neg q, if_neg r] at hH; exact hH
-- lets
def v_lets (V : vw) (x : Int32) : Int32 := cond (pn (vA V) x) (nI (sp_lets (vA V) (sp_hold (vA V)) x.toNatClampNeg).toNat) (-2)
theorem cc105 {E : mv_E} {D k n : Nat} {h : mv_H} {Q : mv_Q} {V : vw} {x : Int32} (i : InvC E h V) (m : InvM V) (H : ∀ h', InvC E h' V → fCl h h' → Q (some (.int (v_lets V x))) h') : mv_VE E (D + 3) k n 105 0 [some (.ref 50), some (.int x)] [] h Q := by
  apply sg105_0
  unfold v_lets at H
  refine cc104 i.1 m ⟨_, rfl, ?_⟩
  cases z : pn (vA V) x with
  | false => rw [if_pos (by rfl)]; rw [z] at H; exact H h i fCl.rf
  | true =>
    rw [if_neg (by decide)]
    rw [z] at H
    obtain ⟨p, hp, rfl⟩ := pnT m.1.1.1 z
    rw [nI_clamp (by have := m.1.1.1.2.1; omega)] at H
    refine cc51 i m rfl (fun h1 f1 s1 => ⟨rfl, ?_⟩)
    refine ct53 p (sp_hold (vA V)) s1.2 m.1.1.1 m.1.1.vb m.1.1.hold.2 hp rfl (s1.1.1.2.1.1.trans m.1.1.hold.1) (fun h2 f2 => ⟨_, rfl, ?_⟩)
    have hH := H h2 ((s1.s5 (mx_s45 f2) (s1.2.fr f2)).C m) (f1.fC6.tr (mx_s45 f2).fC5)
    cases z : sp_lets (vA V) (sp_hold (vA V)) p with
    | false => rw [if_pos (by rfl)]; rw [z] at hH; exact hH
    | true => rw [if_neg (by decide)]; rw [z] at hH; exact hH
theorem cm211 {E : mv_E} {D k n : Nat} {h : mv_H} {Q : mv_Q} {V : vw} {x : Int32} (e : vw_of h = V) (m : InvM V) (H : ∀ h', fM V h h' → Q (some (.int (v_lets V x))) h') : mv_VE E (D + 3) k n 211 0 [some (.ref 148), some (.int x)] [] h Q := by
  subst e
  have ok : sp_ok (mv_I h 149) := m.1.1.1
  have p2 := mx_p2 ok.2.1
  have hh : mv_I h 149 65 = nI (sp_hold (mv_I h 149)) ∧ sp_hold (mv_I h 149) < 2 ^ sp_P (mv_I h 149) := m.1.1.hold
  apply sg211_0
  unfold v_lets at H
  have e1 : pf210 (mv_sI h 148 0 0) x.toInt64 = pn (mv_I h 149) x := pn210 (h := mv_sI h 148 0 0) ok
  refine mx_cdb _ e1 (fun z => ?_) (fun z => ?_)
  · have z' : pn (vA (vw_of h)) x = true := z
    rw [z'] at H
    obtain ⟨p, hp, rfl⟩ := pnT ok z
    rw [nI_clamp (by have := ok.2.1; omega)] at H
    refine ct212 (sp_hold (mv_I h 149)) p ok (by omega) hp hh.1 rfl (fun h2 f2 => ⟨_, rfl, ?_⟩)
    have hH := H h2 (fM0.s2 f2)
    have e2 : sp_lets (mv_I (mv_sI h 148 0 0) 149) (sp_hold (mv_I h 149)) p = sp_lets (vA (vw_of h)) (sp_hold (vA (vw_of h))) p := rfl
    rw [e2]
    cases z : sp_lets (vA (vw_of h)) (sp_hold (vA (vw_of h))) p with
    | false => rw [if_pos (by rfl)]; rw [z] at hH; exact hH
    | true => rw [if_neg (by decide)]; rw [z] at hH; exact hH
  · have z' : pn (vA (vw_of h)) x = false := z
    rw [z'] at H
    exact H _ fM0
-- floats
def v_floats (V : vw) (x : Int32) : Int32 := cond (sn (vA V) x) (nI (sp_float (vA V) x.toNatClampNeg).toNat) (-3)
theorem cc106 {E : mv_E} {D k n : Nat} {h : mv_H} {Q : mv_Q} {V : vw} {x : Int32} (i : InvC E h V) (m : InvM V) (H : ∀ h', InvC E h' V → fCl h h' → Q (some (.int (v_floats V x))) h') : mv_VE E (D + 5) k n 106 0 [some (.ref 50), some (.int x)] [] h Q := by
  apply sg106_0
  unfold v_floats at H
  refine cc107 i.1 m ⟨_, rfl, ?_⟩
  cases z : sn (vA V) x with
  | false => rw [if_pos (by rfl)]; rw [z] at H; exact H h i fCl.rf
  | true =>
    rw [if_neg (by decide)]
    rw [z] at H
    obtain ⟨s, hs, rfl⟩ := snT m.1.1.1 z
    rw [nI_clamp (by have := mx_p2 m.1.1.1.2.1; omega)] at H
    exact cc108 s i m hs rfl (fun h2 s2 f2 => ⟨_, rfl, H h2 (s2.C m) f2⟩)
theorem cm217 {E : mv_E} {D k n : Nat} {h : mv_H} {Q : mv_Q} {V : vw} {x : Int32} (e : vw_of h = V) (m : InvM V) (H : ∀ h', fM V h h' → Q (some (.int (v_floats V x))) h') : mv_VE E (D + 4) k n 217 0 [some (.ref 148), some (.int x)] [] h Q := by
  subst e
  have ok : sp_ok (mv_I h 149) := m.1.1.1
  have p2 := mx_p2 ok.2.1
  apply sg217_0
  unfold v_floats at H
  have e1 : pf218 (mv_sI h 148 0 0) x = sn (mv_I h 149) x := sn_m (h := mv_sI h 148 0 0) ok
  refine mx_cdb _ e1 (fun z => ?_) (fun z => ?_)
  · have z' : sn (vA (vw_of h)) x = true := z
    rw [z'] at H
    obtain ⟨s, hs, rfl⟩ := snT ok z
    rw [nI_clamp (by omega)] at H
    refine ct220 s ok (by omega) rfl (fun h2 f2 => ⟨_, rfl, ?_⟩)
    rw [mx_224]
    exact H h2 (fM0.s2 f2)
  · have z' : sn (vA (vw_of h)) x = false := z
    rw [z'] at H
    exact H _ fM0
-- pieces
def v_pieces (V : vw) (x : Int32) : Int32 := cond (sn (vA V) x) (nI (sp_pieces (sp_B (vA V)) (sp_P (vA V)) x.toNatClampNeg)) (-3)
theorem cc109 {E : mv_E} {D k n : Nat} {h : mv_H} {Q : mv_Q} {V : vw} {x : Int32} (i : InvC E h V) (m : InvM V) (H : ∀ h', InvC E h' V → fCl h h' → Q (some (.int (v_pieces V x))) h') : mv_VE E (D + 2) k n 109 0 [some (.ref 50), some (.int x)] [] h Q := by
  apply sg109_0
  unfold v_pieces at H
  have hH := H h i fCl.rf
  refine cc107 i.1 m ⟨_, rfl, ?_⟩
  cases z : sn (vA V) x with
  | false => rw [if_pos (by rfl)]; rw [z] at hH; exact hH
  | true =>
    rw [if_neg (by decide)]
    rw [z] at hH
    obtain ⟨s, hs, rfl⟩ := snT m.1.1.1 z
    rw [nI_clamp (by have := mx_p2 m.1.1.1.2.1; omega)] at hH
    rw [i.1.1.1.1.1.2.1]
    exact mv_gdI rfl (ct31 s i.1.1.1.1 m.1.1.1 hs rfl ⟨_, rfl, hH⟩)
theorem cm225 {E : mv_E} {D k n : Nat} {h : mv_H} {Q : mv_Q} {V : vw} {x : Int32} (e : vw_of h = V) (m : InvM V) (H : ∀ h', fM V h h' → Q (some (.int (v_pieces V x))) h') : mv_VE E (D + 3) k n 225 0 [some (.ref 148), some (.int x)] [] h Q := by
  subst e
  have ok : sp_ok (mv_I h 149) := m.1.1.1
  have p2 := mx_p2 ok.2.1
  apply sg225_0
  unfold v_pieces at H
  have hH := H _ (fM0 (x := 0))
  have e1 : pf218 (mv_sI h 148 0 0) x = sn (mv_I h 149) x := sn_m (h := mv_sI h 148 0 0) ok
  refine mx_cdb _ e1 (fun z => ?_) (fun z => ?_)
  · have z' : sn (vA (vw_of h)) x = true := z
    rw [z'] at hH
    obtain ⟨s, hs, rfl⟩ := snT ok z
    rw [nI_clamp (by omega)] at hH
    exact ct222 s _ _ ok.1 ok.2.1 (fun q hq => (ok.2.2.1 q hq).1) (by omega) rfl ⟨_, rfl, hH⟩
  · have z' : sn (vA (vw_of h)) x = false := z
    rw [z'] at hH
    exact hH
