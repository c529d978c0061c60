/-! Calls: write, holder. -/
def sp_fit (w : Int64) (so : Int32) : Int64 := if so = 0 then w.toInt32.toInt8.toInt32.toInt64 else if so = 1 then w.toInt32.toInt16.toInt32.toInt64 else if so = 2 then w.toInt32.toInt64 else w
theorem ct300 {E : mv_E} {D k n : Nat} {h : mv_H} {Q : mv_Q} {w : Int64} {so : Int32} (H : Q (some (.long (sp_fit w so))) h) : mv_VE E D k n 300 0 [some (.long w), none, some (.int so)] [] h Q := by
  apply sg300_0
  unfold sp_fit at H
  refine mx_if (fun q => ?_) (fun q => mx_if (fun r => ?_) (fun r => mx_if (fun s => ?_) (fun s => ?_)))
  · rw [if_pos q] at H; exact H
  · rw [if_neg q, if_pos r] at H; exact H
  · rw [if_neg q, if_neg r, if_pos s] at H; exact H
  · rw [if_neg q, if_neg r, if_neg s] at H; exact H
theorem ct89 {E : mv_E} {D k n : Nat} {h : mv_H} {Q : mv_Q} {x : Int32} {w : Int64} (t j : Nat) (ht : t < 4) (hj : j < 40) (e : x = nI j) (H : Q none (mv_sJ h (137 + 2 * t) j (sp_fit w (mv_I h (136 + 2 * t) 1)))) : mv_VE E D k n 89 0 [some (.ref (136 + 2 * t)), some (.int x), some (.long w), none] [] h Q := by
  subst e
  obtain ⟨s1, s2, s3⟩ := ty_sh ht E h
  apply sg89_0
  rw [s1, s2, s3, nI_clamp (n := j) (by omega)]
  have i40 : (true && mv_in (nI j) 40) = true := mx_inT j hj (by omega)
  refine mx_ltF j 0 (by omega) (mv_gdI rfl (mv_gdI rfl (mx_ltT j 40 hj (mv_gdI rfl ?_) (by omega)))) (by omega)
  unfold sp_fit at H
  refine mx_if (fun q => ?_) (fun q => mx_if (fun r => ?_) (fun r => mx_if (fun s => ?_) (fun s => ?_)))
  · rw [if_pos q] at H; exact mv_gdI rfl (mv_gdI i40 H)
  · rw [if_neg q, if_pos r] at H; exact mv_gdI rfl (mv_gdI i40 H)
  · rw [if_neg q, if_neg r, if_pos s] at H; exact mv_gdI rfl (mv_gdI i40 H)
  · rw [if_neg q, if_neg r, if_neg s] at H; exact mv_gdI rfl (mv_gdI i40 H)
theorem ct87 {E : mv_E} {D k n : Nat} {h : mv_H} {Q : mv_Q} {x : Int32} (t j : Nat) (ht : t < 4) (hj : j < 40) (e : x = nI j) (H : Q (some (.long (mv_J h (137 + 2 * t) j))) h) : mv_VE E D k n 87 0 [some (.ref (136 + 2 * t)), some (.int x)] [] h Q := by
  subst e
  obtain ⟨s1, s2, s3⟩ := ty_sh ht E h
  apply sg87_0
  rw [s1, s2, s3, nI_clamp (n := j) (by omega)]
  exact mx_ltF j 0 (by omega) (mv_gdI rfl (mv_gdI rfl (mx_ltT j 40 hj (mv_gdI rfl (mv_gdI (mx_inT j hj (by omega)) H)) (by omega)))) (by omega)
/-- is the tray missing -/
theorem ct86 {E : mv_E} {D k n : Nat} {h : mv_H} {Q : mv_Q} (t : Nat) (ht : t < 4) (H : Q (some (.int (nI (decide (mv_I h (136 + 2 * t) 2 = -1)).toNat))) h) : mv_VE E D k n 86 0 [some (.ref (136 + 2 * t))] [] h Q := by
  apply sg86_0
  rw [(ty_sh ht E h).1]
  refine mv_gdI rfl (mx_if (fun q => ?_) (fun q => ?_))
  · rw [decide_eq_true q] at H; exact H
  · rw [decide_eq_false q] at H; exact H
/-- a tray is missing, or has a sort and a size -/
theorem tr_cases {h : mv_H} {V : vw} {t : Nat} (i : i_tray h (vRs V) (vRm V) (vNu V) t) : (vRs V t = -1 ∧ mv_I h (136 + 2 * t) 2 = -1) ∨ ∃ so m, so < 4 ∧ m ≤ 40 ∧ vRs V t = nI so ∧ mv_I h (136 + 2 * t) 1 = nI so ∧ vRm V t = nI m ∧ mv_I h (136 + 2 * t) 2 = nI m ∧ ∀ k, k < m → mv_J h (137 + 2 * t) k = vNu V (40 * t + k) := i
theorem bn_m1 {y : Int32} {m : Nat} (hm : m ≤ 1000) : pf182 y.toInt64 0 ((nI m - 1).toInt64) = bn y m := by
  have w := mx_wi (x := y) (L := 0) (H := (nI m - 1).toInt64) 0 (nI m - 1) rfl rfl
  rw [w]
  unfold bn
  congr 1
  have e : (nI m - 1).toInt = (m : Int) - 1 := pk_sub_toInt (a := m) (b := 1) (by omega) (by omega)
  by_cases q : y < nI m
  · rw [decide_eq_true q, decide_eq_false]
    · rfl
    · rw [Int32.lt_iff_toInt_lt, nI_toInt (by omega)] at q
      rw [Int32.lt_iff_toInt_lt, e]
      omega
  · rw [decide_eq_false q, decide_eq_true]
    · rfl
    · rw [Int32.lt_iff_toInt_lt, nI_toInt (by omega)] at q
      rw [Int32.lt_iff_toInt_lt, e]
      omega
def wr_ok (V : vw) (x y : Int32) : Bool := bn x 4 && (!decide (vRs V x.toNatClampNeg = -1) && bn y (vRm V x.toNatClampNeg).toNatClampNeg)
def V_write (V : vw) (x y : Int32) (w : Int64) : vw := cond (wr_ok V x y) (vw_T V (vRs V) (vRm V) (fun k => if k = 40 * x.toNatClampNeg + y.toNatClampNeg then sp_fit w (vRs V x.toNatClampNeg) else vNu V k)) V
def v_write (V : vw) (x y : Int32) (w : Int64) : Int64 := cond (bn x 4) (if vRs V x.toNatClampNeg = -1 then -6 else cond (bn y (vRm V x.toNatClampNeg).toNatClampNeg) (sp_fit w (vRs V x.toNatClampNeg)) (-7)) (-2)
theorem im_write {V : vw} {x y : Int32} {w : Int64} (m : InvM V) : InvM (V_write V x y w) := by
  unfold V_write
  cases wr_ok V x y with
  | false => exact m
  | true => exact m.tray m.2.2.1
theorem cc173 {E : mv_E} {D k n : Nat} {h : mv_H} {Q : mv_Q} {V : vw} {x y : Int32} {w : Int64} (i : InvC E h V) (H : ∀ h', InvC E h' (V_write V x y w) → fCl h h' → Q (some (.long (v_write V x y w))) h') : mv_VE E (D + 1) k n 173 0 [some (.ref 50), some (.int x), some (.int y), some (.long w), none, none] [] h Q := by
  apply sg173_0
  unfold V_write v_write wr_ok at H
  refine mx_cdb _ (bn_119 x) (fun a => ?_) (fun a => ?_)
  · rw [a, Bool.true_and] at H
    obtain ⟨t, ht, rfl⟩ := bnT (by omega) a
    rw [nI_clamp (n := t) (by omega), cond_true] at H
    rw [nI_clamp (n := t) (by omega), (ty_sh ht E h).1]
    refine mv_gdI (mx_inT t ht (by omega)) (mv_gdI rfl (ct86 t ht ⟨_, rfl, ?_⟩))
    rcases tr_cases (i.1.2.2.1 t ht) with ⟨b1, b2⟩ | ⟨so, m, b1, b2, b3, b4, b5, b6, b7⟩
    · rw [b2]
      rw [if_neg (by decide)]
      rw [b1] at H
      exact H h i fCl.rf
    · have nso : ¬ nI so = -1 := mx_m1n (by omega)
      have nm : ¬ nI m = -1 := mx_m1n (by omega)
      rw [b6, decide_eq_false nm]
      rw [if_pos (by rfl)]
      rw [b3, b5, nI_clamp (n := m) (by omega), decide_eq_false nso, Bool.not_false, Bool.true_and, if_neg nso] at H
      refine mx_if (fun q => ?_) (fun q => ?_)
      · have c : bn y m = false := by unfold bn; rw [decide_eq_true q]; rfl
        rw [c] at H; exact H h i fCl.rf
      · rw [(ty_sh ht E h).1]
        refine mv_gdI rfl (mx_if (fun r => ?_) (fun r => ?_))
        · have c : bn y m = true := by unfold bn; rw [decide_eq_false q, decide_eq_true r]; rfl
          rw [c] at H
          obtain ⟨j, hj, rfl⟩ := bnT (by omega) c
          rw [nI_clamp (n := j) (by omega), cond_true, cond_true] at H
          refine mv_gdI rfl (ct89 t j ht (by omega) rfl ⟨rfl, ?_⟩)
          rw [(ty_sh ht E _).1, b4]
          refine mv_gdI rfl (ct87 t j ht (by omega) rfl ⟨_, rfl, ?_⟩)
          rw [mx_upJ, if_pos ⟨rfl, rfl⟩]
          have fz : mx_fz (fun a _ => Nat.beq a (137 + 2 * t)) h (mv_sJ h (137 + 2 * t) j (sp_fit w (nI so))) := mx_fz.sJ (S := fun a _ => Nat.beq a (137 + 2 * t)) (mv_beq _)
          refine H _ ⟨InvC0.tray fz (fun a k q => mv_bne (by omega)) i.1 (fun u hu => ?_), i.2.fz fz (fun a k q => mv_bne (by unfold cr_reg at q; omega))⟩ (fz.toC (fun a k q => mv_bne (by omega)))
          have old := tr_cases (i.1.2.2.1 u hu)
          rcases old with old | ⟨a1, a2, c1, c2, c3, c4, c5, c6, c7⟩
          · exact Or.inl old
          · refine Or.inr ⟨a1, a2, c1, c2, c3, c4, c5, c6, fun l hl => ?_⟩
            rw [mx_upJ]
            show _ = if 40 * u + l = 40 * t + j then sp_fit w (nI so) else vNu V (40 * u + l)
            by_cases d : 40 * u + l = 40 * t + j
            · rw [if_pos (by omega), if_pos d]
            · rw [if_neg (by omega), if_neg d]; exact c7 l hl
        · have c : bn y m = false := by unfold bn; rw [decide_eq_false q, decide_eq_false r]; rfl
          rw [c] at H; exact H h i fCl.rf
  · rw [a] at H; exact H h i fCl.rf
/-- no such tray, or missing -/
def v_nt (V : vw) (x : Int32) : Int32 := cond (bn x 4) (if vRs V x.toNatClampNeg = -1 then -6 else 0) (-2)
theorem cw239 {E : mv_E} {D k n : Nat} {h0 h : mv_H} {Q : mv_Q} {V : vw} {x : Int32} (f : fM V h0 h) (H : Q (some (.int (v_nt V x))) h) : mv_VE E (D + 1) k n 239 0 [some (.ref 148), some (.int x)] [] h Q := by
  have e : mv_I h 162 = vRs V := by rw [← f.2]; rfl
  apply sg239_0
  unfold v_nt at H
  refine mx_cdb _ (bn_w 3 (by omega) rfl) (fun a => ?_) (fun a => ?_)
  · have a : bn x 4 = true := a
    rw [a, cond_true] at H
    obtain ⟨t, ht, rfl⟩ := bnT (by omega) a
    rw [nI_clamp (by omega)] at H ⊢
    rw [e]
    refine mv_gdI (mx_inT t ht (by omega)) (mx_if (fun q => ?_) (fun q => ?_))
    · rw [if_pos q] at H; exact H
    · rw [if_neg q] at H; exact H
  · have a : bn x 4 = false := a
    rw [a] at H; exact H
theorem cm299 {E : mv_E} {D k n : Nat} {h : mv_H} {Q : mv_Q} {V : vw} {x y : Int32} {w : Int64} (e : vw_of h = V) (m : InvM V) (H : ∀ h', fM (V_write V x y w) h h' → Q (some (.long (v_write V x y w))) h') : mv_VE E (D + 2) k n 299 0 [some (.ref 148), some (.int x), some (.int y), some (.long w), none, none] [] h Q := by
  have f0 := fM.of e
  have e2 : mv_I (mv_sI h 148 0 0) 162 = vRs V := by rw [← f0.2]; rfl
  have e3 : mv_I (mv_sI h 148 0 0) 163 = vRm V := by rw [← f0.2]; rfl
  apply sg299_0
  unfold V_write v_write wr_ok at H
  refine cw239 f0 ⟨_, rfl, ?_⟩
  unfold v_nt
  cases a : bn x 4 with
  | false =>
    rw [a] at H
    rw [cond_false, if_neg (by decide)]
    exact H _ f0
  | true =>
    rw [a, Bool.true_and, cond_true] at H
    rw [cond_true]
    obtain ⟨t, ht, rfl⟩ := bnT (by omega) a
    rw [nI_clamp (n := t) (by omega)] at H ⊢
    rcases m.2.2.1 t ht with b1 | ⟨so, mm, b1, b2, b3, b5⟩
    · rw [b1] at H ⊢
      rw [if_pos rfl, if_neg (by decide)]
      exact H _ f0
    · have nso : ¬ nI so = -1 := mx_m1n (by omega)
      rw [b3, b5, nI_clamp (n := mm) (by omega), decide_eq_false nso, Bool.not_false, Bool.true_and, if_neg nso] at H
      rw [b3, if_neg nso, if_pos rfl, e2, e3, b5, b3]
      refine mv_gdI (mx_inT t ht (by omega)) ?_
      refine mx_cdb _ (bn_m1 (by omega)) (fun c => ?_) (fun c => ?_)
      · rw [c] at H
        obtain ⟨j, hj, rfl⟩ := bnT (by omega) c
        rw [nI_clamp (n := j) (by omega), cond_true, cond_true] at H
        rw [show (40 : Int32) * nI t = nI (40 * t) from pk_mul 40 t, nI_add, nI_clamp (n := 40 * t + j) (by omega)]
        refine mv_gdI (mx_inT t ht (by omega)) (ct300 ⟨_, rfl, ?_⟩)
        have i160 : (true && mv_in (nI (40 * t + j)) 160) = true := mx_inT (40 * t + j) (by omega) (by omega)
        refine mv_gdI i160 (mv_gdI i160 ?_)
        rw [mx_upJ, if_pos ⟨rfl, rfl⟩]
        exact H _ (f0.atJ (k := 40 * t + j) (x := sp_fit w (nI so)))
      · rw [c] at H; exact H _ f0
