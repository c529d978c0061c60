/-! Calls: lists, holder. -/
def sp_ls (V : vw) (t j : Nat) : Nat → Int64 := fun k => if 40 * t ≤ k ∧ k < 40 * t + j then sp_fit (nI (sp_it (vA V) (sp_hold (vA V)) (k - 40 * t + 1))).toInt64 (vRs V t) else vNu V k
theorem sp_ls_s (V : vw) (t j k : Nat) : (if k = 40 * t + j then sp_fit (nI (sp_it (vA V) (sp_hold (vA V)) (j + 1))).toInt64 (vRs V t) else sp_ls V t j k) = sp_ls V t (j + 1) k := by
  unfold sp_ls
  by_cases c : k = 40 * t + j
  · rw [if_pos c, if_pos (by omega), c, show 40 * t + j - 40 * t + 1 = j + 1 by omega]
  · rw [if_neg c]
    by_cases c2 : 40 * t ≤ k ∧ k < 40 * t + j
    · rw [if_pos c2, if_pos (by omega)]
    · rw [if_neg c2, if_neg (by omega)]
def V_lists (V : vw) (x : Int32) : vw := if v_nt V x = 0 then vw_T V (vRs V) (vRm V) (sp_ls V x.toNatClampNeg (vRm V x.toNatClampNeg).toNatClampNeg) else V
def v_lists (V : vw) (x : Int32) : Int32 := if v_nt V x = 0 then vRm V x.toNatClampNeg else v_nt V x
theorem im_lists {V : vw} {x : Int32} (m : InvM V) : InvM (V_lists V x) := by
  unfold V_lists
  by_cases q : v_nt V x = 0
  · rw [if_pos q]; exact m.tray m.2.2.1
  · rw [if_neg q]; exact m
theorem vw_T0 (V : vw) (t : Nat) (V' : vw) (h : V' = vw_T V (vRs V) (vRm V) (sp_ls V t 0)) : V' = V := by
  have e : sp_ls V t 0 = vNu V := funext fun k => by unfold sp_ls; rw [if_neg (by omega)]
  rw [h, e]; rfl
theorem cc174 {E : mv_E} {D k n : Nat} {h : mv_H} {Q : mv_Q} {V : vw} {x : Int32} (i : InvC E h V) (m : InvM V) (H : ∀ h', InvC E h' (V_lists V x) → fCl h h' → Q (some (.int (v_lists V x))) h') : mv_VE E (D + 4) k n 174 0 [some (.ref 50), some (.int x), none, none, none] [] h Q := by
  have p8 := m.p8
  have p2 := m.p2
  have hh := m.1.1.hold
  apply sg174_0
  unfold V_lists v_lists v_nt at H
  refine mx_cdb _ (bn_119 x) (fun a => ?_) (fun a => ?_)
  · rw [a, cond_true] at H
    obtain ⟨t, ht, rfl⟩ := bnT (by omega) a
    rw [nI_clamp (n := t) (by omega)] at H
    rw [nI_clamp (n := t) (by omega), (ty_sh ht E h).1]
    refine mv_gdI (mx_inT t ht (by omega)) (mv_gdI rfl (ct86 t ht ⟨_, rfl, ?_⟩))
    rcases tr_cases (i.1.2.2.1 t ht) with ⟨b1, b2⟩ | ⟨so, mm, b1, b2, b3, b4, b5, b6, b7⟩
    · rw [b2, if_neg (by decide)]
      rw [if_pos b1, if_neg (by decide), if_neg (by decide)] at H
      exact H h i fCl.rf
    · have nso : ¬ nI so = -1 := mx_m1n (by omega)
      have nm : ¬ nI mm = -1 := mx_m1n (by omega)
      rw [b6, decide_eq_false nm, if_pos (by rfl)]
      have hv : (if vRs V t = -1 then (-6 : Int32) else 0) = 0 := by rw [b3, if_neg nso]
      rw [if_pos hv, if_pos hv, b5, nI_clamp (n := mm) (by omega)] at H
      refine cc51 i m rfl (fun h1 f1 s1 => ⟨rfl, ?_⟩)
      rw [s1.hold m]
      have mj : ∀ j, InvM (vw_T V (vRs V) (vRm V) (sp_ls V t j)) := fun j => m.tray m.2.2.1
      refine mx_loop (P := fun j => ∀ h', InvS E h' (vw_T V (vRs V) (vRm V) (sp_ls V t j)) → fCl h h' → mv_VE E (D + 4) k n 174 53 [some (.ref 50), none, some (.ref (136 + 2 * t)), some (.int (nI (sp_it (vA V) (sp_hold (vA V)) j))), some (.int (nI j))] [] h' Q) mm ?_ ?_ h1 ?_ f1.fC6
      · intro h' i' f'
        have tr := tr_cases (V := vw_T V (vRs V) (vRm V) (sp_ls V t mm)) (i'.1.2.2.1 t ht)
        have e2 : mv_I h' (136 + 2 * t) 2 = nI mm := by
          rcases tr with ⟨c1, -⟩ | ⟨a1, a2, c1, c2, c3, c4, c5, c6, c7⟩
          · exact absurd (b3.symm.trans c1) nso
          · exact c6.trans (c5.symm.trans b5)
        apply sg174_53
        rw [(ty_sh ht E h').1, e2]
        exact mv_gdI rfl (mx_ltF mm mm (Nat.le_refl _) (mv_gdI rfl (H h' (i'.C (mj mm)) f')) (by omega))
      · intro j hj ih h' i' f'
        have tr := tr_cases (V := vw_T V (vRs V) (vRm V) (sp_ls V t j)) (i'.1.2.2.1 t ht)
        have e2 : mv_I h' (136 + 2 * t) 2 = nI mm := by
          rcases tr with ⟨c1, -⟩ | ⟨a1, a2, c1, c2, c3, c4, c5, c6, c7⟩
          · exact absurd (b3.symm.trans c1) nso
          · exact c6.trans (c5.symm.trans b5)
        apply sg174_53
        rw [(ty_sh ht E h').1, e2, nI_1]
        refine mv_gdI rfl (mx_ltT j mm hj ?_ (by omega))
        refine cs59 (V := vw_T V (vRs V) (vRm V) (sp_ls V t j)) (sp_it (vA V) (sp_hold (vA V)) j) i' f' (mj j) (sp_it_lt hh.2 j) rfl (fun h2 i2 f2 => ⟨_, rfl, ?_⟩)
        have tr2 := tr_cases (V := vw_T V (vRs V) (vRm V) (sp_ls V t j)) (i2.1.2.2.1 t ht)
        have e1 : mv_I h2 (136 + 2 * t) 1 = vRs V t := by
          rcases tr2 with ⟨c1, -⟩ | ⟨a1, a2, c1, c2, c3, c4, c5, c6, c7⟩
          · exact absurd (b3.symm.trans c1) nso
          · exact c4.trans c3.symm
        have ew : sp_week (vA (vw_T V (vRs V) (vRm V) (sp_ls V t j))) (sp_it (vA V) (sp_hold (vA V)) j) = sp_it (vA V) (sp_hold (vA V)) (j + 1) := rfl
        rw [(ty_sh ht E h2).1, ew]
        refine mv_gdI rfl (ct89 t j ht (by omega) rfl ⟨rfl, ?_⟩)
        rw [e1]
        have fz : mx_fz (fun a _ => Nat.beq a (137 + 2 * t)) h2 (mv_sJ h2 (137 + 2 * t) j (sp_fit (nI (sp_it (vA V) (sp_hold (vA V)) (j + 1))).toInt64 (vRs V t))) := mx_fz.sJ (S := fun a _ => Nat.beq a (137 + 2 * t)) (mv_beq _)
        refine ih _ ⟨InvC0.tray (V := vw_T V (vRs V) (vRm V) (sp_ls V t j)) fz (fun a k q => mv_bne (by omega)) i2.1 (fun u hu => ?_), i2.2.fz fz (fun a k q => mv_bne (by unfold cr_reg at q; omega))⟩ (f2.tr (fz.toC (fun a k q => mv_bne (by omega))))
        rcases tr_cases (V := vw_T V (vRs V) (vRm V) (sp_ls V t j)) (i2.1.2.2.1 u hu) with old | ⟨a1, a2, c1, c2, c3, c4, c5, c6, c7⟩
        · exact Or.inl old
        · refine Or.inr ⟨a1, a2, c1, c2, c3, c4, c5, c6, fun l hl => ?_⟩
          rw [mx_upJ, ← sp_ls_s]
          by_cases d : 40 * u + l = 40 * t + j
          · rw [if_pos (by omega), if_pos d]
          · rw [if_neg (by omega), if_neg d]; exact c7 l hl
      · rw [vw_T0 V t _ rfl]; exact s1
  · rw [a, cond_false, if_neg (by decide), if_neg (by decide)] at H
    exact H h i fCl.rf
theorem cm301 {E : mv_E} {D k n : Nat} {h : mv_H} {Q : mv_Q} {V : vw} {x : Int32} (e : vw_of h = V) (m : InvM V) (H : ∀ h', fM (V_lists V x) h h' → Q (some (.int (v_lists V x))) h') : mv_VE E (D + 4) k n 301 0 [some (.ref 148), some (.int x), none, none, none] [] h Q := by
  have f0 := fM.of e
  have p8 := m.p8
  have p2 := m.p2
  have hh := m.1.1.hold
  apply sg301_0
  refine cw239 f0 ⟨_, rfl, ?_⟩
  unfold V_lists v_lists at H
  refine mx_if (fun q => ?_) (fun q => ?_)
  · rw [if_pos q, if_pos q] at H
    unfold v_nt at q
    cases a : bn x 4 with
    | false => rw [a, cond_false] at q; exact absurd q (by decide)
    | true =>
      rw [a, cond_true] at q
      obtain ⟨t, ht, rfl⟩ := bnT (by omega) a
      rw [nI_clamp (n := t) (by omega)] at q H
      rcases m.2.2.1 t ht with b1 | ⟨so, mm, b1, b2, b3, b5⟩
      · rw [if_pos b1] at q; exact absurd q (by decide)
      · rw [b5, nI_clamp (n := mm) (by omega)] at H
        have mj : ∀ j, InvM (vw_T V (vRs V) (vRm V) (sp_ls V t j)) := fun j => m.tray m.2.2.1
        rw [f0.A, hh.1]
        refine mx_loop (P := fun j => ∀ h', fM (vw_T V (vRs V) (vRm V) (sp_ls V t j)) h h' → mv_VE E (D + 4) k n 301 28 [some (.ref 148), some (.int (nI t)), none, some (.int (nI (sp_it (vA V) (sp_hold (vA V)) j))), some (.int (nI j))] [] h' Q) mm ?_ ?_ _ ?_
        · intro h' f'
          have e3 : mv_I h' 163 t = nI mm := by
            rw [← b5, show mv_I h' 163 = vRm (vw_T V (vRs V) (vRm V) (sp_ls V t mm)) by rw [← f'.2]; rfl]; rfl
          apply sg301_28
          rw [nI_clamp (n := t) (by omega), e3]
          refine mv_gdI (mx_inT t ht (by omega)) (mx_ltF mm mm (Nat.le_refl _) (mv_gdI (mx_inT t ht (by omega)) (H h' f')) (by omega))
        · intro j hj ih h' f'
          have hl := sp_it_lt (A := vA V) hh.2 j
          have e3 : mv_I h' 163 t = nI mm := by
            rw [← b5, show mv_I h' 163 = vRm (vw_T V (vRs V) (vRm V) (sp_ls V t j)) by rw [← f'.2]; rfl]; rfl
          apply sg301_28
          rw [nI_clamp (n := t) (by omega), e3, nI_1]
          refine mv_gdI (mx_inT t ht (by omega)) (mx_ltT j mm hj ?_ (by omega))
          refine cw229 (V := vw_T V (vRs V) (vRm V) (sp_ls V t j)) (sp_it (vA V) (sp_hold (vA V)) j) f' (mj j) (by omega) rfl (fun h2 f2 => ⟨_, rfl, ?_⟩)
          have e2 : mv_I h2 162 t = vRs V t := by
            rw [show mv_I h2 162 = vRs (vw_T V (vRs V) (vRm V) (sp_ls V t j)) by rw [← f2.2]; rfl]; rfl
          have ew : sp_week (vA (vw_T V (vRs V) (vRm V) (sp_ls V t j))) (sp_it (vA V) (sp_hold (vA V)) j) = sp_it (vA V) (sp_hold (vA V)) (j + 1) := rfl
          rw [ew, e2, show (40 : Int32) * nI t = nI (40 * t) from pk_mul 40 t, nI_add, nI_clamp (n := 40 * t + j) (by omega)]
          refine mv_gdI (mx_inT t ht (by omega)) (ct300 ⟨_, rfl, mv_gdI (mx_inT (40 * t + j) (by omega) (by omega)) ?_⟩)
          exact ih _ ((f2.atJ (k := 40 * t + j) (x := sp_fit (nI (sp_it (vA V) (sp_hold (vA V)) (j + 1))).toInt64 (vRs V t))).eqT (fun k => sp_ls_s V t j k))
        · rw [vw_T0 V t _ rfl]; exact f0
  · rw [if_neg q, if_neg q] at H
    exact H _ f0
