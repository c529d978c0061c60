/-! Call: feed. -/
def fb (v : Int32) (j : Nat) : Int32 := (v >>> (nI (24 - 8 * j) &&& 31)) &&& 255
theorem fb_n (v : Int32) (j : Nat) : ∃ b, b < 256 ∧ fb v j = nI b := pk_andE _ (m := 255) 8 (by decide)
theorem fb_shr (v : Int32) (s i : Nat) (hs : s ≤ 24) (hi : i < 8) : (v >>> (nI s &&& 31)).toBitVec.getLsbD i = v.toBitVec.getLsbD (s + i) := by
  rw [Int32.toBitVec_shiftRight]
  show (v.toBitVec.sshiftRight ((nI s &&& 31).toBitVec.smod 32).toNat).getLsbD i = _
  rw [s_l s (by omega), BitVec.getLsbD_sshiftRight]
  simp [show ¬ 32 ≤ i by omega, show s + i < 32 by omega]
theorem fb_ush (v : Int32) (s i : Nat) (hs : s ≤ 24) (hi : i < 8) : (v.toUInt32 >>> ((nI s).toUInt32 &&& Int32.toUInt32 31)).toInt32.toBitVec.getLsbD i = v.toBitVec.getLsbD (s + i) := by
  show (v.toUInt32 >>> ((nI s).toUInt32 &&& Int32.toUInt32 31)).toBitVec.getLsbD i = _
  rw [UInt32.toBitVec_shiftRight]
  show (v.toBitVec >>> (((nI s).toUInt32 &&& Int32.toUInt32 31).toBitVec % 32).toNat).getLsbD i = _
  rw [s_u s (by omega), BitVec.getLsbD_ushiftRight]
theorem fb_c (v : Int32) (j : Nat) (hj : j < 4) : ((v.toUInt32 >>> ((nI (24 - 8 * j)).toUInt32 &&& Int32.toUInt32 31)).toInt32.toInt8.toInt32).toInt8.toInt32 = (fb v j).toInt8.toInt32 := by
  have e : ∀ x : Int32, x.toInt8.toInt32.toInt8 = x.toInt8 := fun x => by simp
  rw [e]
  congr 1
  apply Int8.toBitVec_inj.mp
  rw [Int32.toBitVec_toInt8, Int32.toBitVec_toInt8]
  apply BitVec.eq_of_getLsbD_eq
  intro i hi
  rw [BitVec.getLsbD_signExtend, BitVec.getLsbD_signExtend]
  simp only [hi, decide_true, Bool.true_and, show i < 32 by omega, if_true]
  rw [fb_ush v _ i (by omega) hi]
  unfold fb
  rw [Int32.toBitVec_and, BitVec.getLsbD_and, fb_shr v _ i (by omega) hi]
  have : (255 : Int32).toBitVec.getLsbD i = true := (by decide : ∀ i, i < 8 → (255 : Int32).toBitVec.getLsbD i = true) i hi
  rw [this, Bool.and_true]
def vw_tp (V : vw) (tp : Nat → Int32) (td : Int32) : vw := (V.1, V.2.1, tp, td, V.2.2.2.2)
def mx_s51 (a k : Nat) : Bool := Nat.beq a 51 || (Nat.beq a 50 && Nat.beq k 1)
theorem mx_s51f {a k : Nat} (h : a ≠ 51 ∧ (a ≠ 50 ∨ k ≠ 1)) : mx_s51 a k = false := by
  unfold mx_s51
  rw [mv_bne h.1]
  rcases h.2 with c | c
  · rw [mv_bne c]; rfl
  · rw [mv_bne c, Bool.and_false]; rfl
theorem InvC.tape {E : mv_E} {h h' : mv_H} {V : vw} {tp : Nat → Int32} {td : Int32} (i : InvC E h V) (z : mx_fz mx_s51 h h') (t : i_tape h' tp td) : InvC E h' (vw_tp V tp td) := by
  have hr : ∀ a k, cr_reg a → mx_s51 a k = false := fun a k q => mx_s51f (by unfold cr_reg at q; omega)
  obtain ⟨⟨⟨i1, i2, i3⟩, ⟨i4, i5⟩, i6, i7, i8, i9⟩, iv⟩ := i
  have R50 : mv_R h' 50 3 = mv_R h 50 3 := (z.2.2 50 3 (mx_s51f (by omega))).2.2
  have R132 : mv_R h' 132 = mv_R h 132 := z.Rr 132 (fun k => mx_s51f (by omega))
  have im : ∀ j, j < 2 → i_img E h (vA V) (vHi V) j → i_img E h' (vA V) (vHi V) j := by
    intro j hj q
    unfold i_img
    rw [R132]
    rcases q with q | ⟨q1, q2, q3⟩
    · exact Or.inl q
    · exact Or.inr ⟨q1, q2.fz z hr, q3.fz z (fun k => mx_s51f (by omega)) (fun k => mx_s51f (by omega))⟩
  refine ⟨⟨⟨?_, i2.fz z (fun k => mx_s51f (by omega)) (fun k => mx_s51f (by omega)), i3.fz z (fun a k q => mx_s51f (by omega))⟩, ⟨im 0 (by omega) i4, im 1 (by omega) i5⟩, fun u hu => (i6 u hu).fz z (fun k => mx_s51f (by omega)) (fun k => mx_s51f (by omega)), t, ?_, i9.fz z (mx_s51f (by omega)) (mx_s51f (by omega))⟩, iv.fz z (fun a k q => mx_s51f (by unfold cr_reg at q; omega))⟩
  · rw [R50]; exact i1.fz z hr
  · rw [z.I 52 (fun k => mx_s51f (by omega))]; exact i8
theorem i_tape.cg {h : mv_H} {tp tp' : Nat → Int32} {td : Int32} (e : ∀ j, j < td.toNatClampNeg → tp' j = tp j) (i : i_tape h tp td) : i_tape h tp' td := ⟨i.1, fun j hj => by rw [e j hj]; exact i.2 j hj⟩
def sp_put (tp : Nat → Int32) (t : Nat) (v : Int32) (m : Nat) : Nat → Int32 := fun j => if t ≤ j ∧ j < t + m then fb v (j - t) else tp j
theorem ct100 {E : mv_E} {D k n : Nat} {h : mv_H} {Q : mv_Q} {tp : Nat → Int32} {v : Int32} (t : Nat) (ht : t + 4 ≤ 900) (it : i_tape h tp (nI t)) (H : ∀ h', mx_fz mx_s51 h h' → i_tape h' (sp_put tp t v 4) (nI (t + 4)) → Q none h') : mv_VE E D k n 100 0 [some (.ref 50), some (.int v), none] [] h Q := by
  have step : ∀ j, j < 4 → ∀ h1, mx_fz mx_s51 h h1 → i_tape h1 (sp_put tp t v j) (nI (t + j)) → (∀ h2, mx_fz mx_s51 h h2 → i_tape h2 (sp_put tp t v (j + 1)) (nI (t + j + 1)) → mv_VE E D k n 100 3 [some (.ref 50), some (.int v), some (.int (nI (24 - 8 * j) + (-8)))] [] h2 Q) → mv_VE E D k n 100 3 [some (.ref 50), some (.int v), some (.int (nI (24 - 8 * j)))] [] h1 Q := by
    intro j hj h1 f1 i1 K
    apply sg100_3
    refine mx_ltF (24 - 8 * j) 0 (by omega) ?_ (by omega)
    rw [i1.1, nI_clamp (by omega), nI_1]
    refine mx_ltT (t + j) 900 (by omega) (mv_gdI (mx_inT (t + j) (by omega) (by omega)) ?_) (by omega)
    rw [fb_c v j hj]
    refine K _ (f1.tr ((mx_fr.sI (S := mx_s51) rfl).z.tr (mx_fr.sI (S := mx_s51) rfl).z)) ⟨mx_Iss, fun l hl => ?_⟩
    rw [nI_clamp (by omega)] at hl
    rw [mx_InE (by omega), mx_upI]
    unfold sp_put
    by_cases c : l = t + j
    · rw [if_pos ⟨rfl, c⟩, if_pos (by omega), c, show t + j - t = j by omega]
    · rw [if_neg (fun d => c d.2), i1.2 l (by rw [nI_clamp (by omega)]; omega)]
      unfold sp_put
      by_cases c2 : t ≤ l ∧ l < t + j
      · rw [if_pos c2, if_pos (by omega)]
      · rw [if_neg c2, if_neg (by omega)]
  apply sg100_0
  refine step 0 (by omega) h mx_fz.rf (it.cg (fun j hj => ?_)) (fun h1 f1 i1 => step 1 (by omega) h1 f1 i1 (fun h2 f2 i2 => step 2 (by omega) h2 f2 i2 (fun h3 f3 i3 => step 3 (by omega) h3 f3 i3 (fun h4 f4 i4 => ?_))))
  · unfold sp_put; rw [if_neg (by omega)]
  · apply sg100_3
    rw [if_pos (by decide)]
    exact H h4 f4 i4
def fd_sel (a b c d e : Int32) (m : Nat) : Int32 := if m < 4 then a else if m < 8 then b else if m < 12 then c else if m < 16 then d else e
def sp_fd (tp : Nat → Int32) (t : Nat) (a b c d e : Int32) (m : Nat) : Nat → Int32 := fun j => if t ≤ j ∧ j < t + m then fb (fd_sel a b c d e (j - t)) ((j - t) % 4) else tp j
def V_feed (V : vw) (a b c d e : Int32) : vw := if 900 < (vTd V).toNatClampNeg + 20 then V else vw_tp V (sp_fd (vTp V) (vTd V).toNatClampNeg a b c d e 20) (nI ((vTd V).toNatClampNeg + 20))
def v_feed (V : vw) : Int32 := if 900 < (vTd V).toNatClampNeg + 20 then -5 else nI ((vTd V).toNatClampNeg + 20)
theorem im_feed {V : vw} {a b c d e : Int32} (m : InvM V) : InvM (V_feed V a b c d e) := by
  unfold V_feed
  obtain ⟨t, ht, et, ej⟩ := m.2.2.2
  rw [et, nI_clamp (by omega)]
  by_cases q : 900 < t + 20
  · rw [if_pos q]; exact m
  · rw [if_neg q]
    refine ⟨m.1, m.2.1, m.2.2.1, t + 20, by omega, rfl, fun j hj => ?_⟩
    show ∃ b', b' < 256 ∧ sp_fd (vTp V) t a b c d e 20 j = nI b'
    unfold sp_fd
    by_cases w : t ≤ j ∧ j < t + 20
    · rw [if_pos w]; exact fb_n _ _
    · rw [if_neg w]; exact ej j (by omega)
theorem cc99 {E : mv_E} {D k n : Nat} {h : mv_H} {Q : mv_Q} {V : vw} {a b c d e : Int32} (i : InvC E h V) (m : InvM V) (H : ∀ h', InvC E h' (V_feed V a b c d e) → fCl h h' → Q (some (.int (v_feed V))) h') : mv_VE E (D + 1) k n 99 0 [some (.ref 50), some (.int a), some (.int b), some (.int c), some (.int d), some (.int e)] [] h Q := by
  obtain ⟨t, ht, et, -⟩ := m.2.2.2
  have it := i.1.2.2.2.1
  apply sg99_0
  unfold V_feed v_feed at H
  rw [et, nI_clamp (by omega)] at H
  rw [et] at it
  rw [it.1, show nI t + (20 : Int32) = nI (t + 20) from nI_add t 20]
  refine mx_lt 900 (t + 20) (fun q => ?_) (fun q => ?_) (by omega) (by omega)
  · rw [if_pos q, if_pos q] at H; exact H h i fCl.rf
  · rw [if_neg (by omega), if_neg (by omega)] at H
    refine ct100 t (by omega) it (fun h1 f1 i1 => ⟨rfl, ?_⟩)
    refine ct100 (t + 4) (by omega) i1 (fun h2 f2 i2 => ⟨rfl, ?_⟩)
    refine ct100 (t + 4 + 4) (by omega) i2 (fun h3 f3 i3 => ⟨rfl, ?_⟩)
    refine ct100 (t + 4 + 4 + 4) (by omega) i3 (fun h4 f4 i4 => ⟨rfl, ?_⟩)
    refine ct100 (t + 4 + 4 + 4 + 4) (by omega) i4 (fun h5 f5 i5 => ⟨rfl, ?_⟩)
    have z := f1.tr (f2.tr (f3.tr (f4.tr f5)))
    rw [i5.1]
    refine H h5 (i.tape z (i5.cg (fun j hj => ?_))) (z.toC (fun a k q => mx_s51f (by omega)))
    rw [nI_clamp (by omega)] at hj
    unfold sp_fd sp_put fd_sel
    by_cases w5 : t + 4 + 4 + 4 + 4 ≤ j
    · rw [if_pos (by omega), if_neg (by omega), if_neg (by omega), if_neg (by omega), if_neg (by omega), if_pos (by omega), show (j - t) % 4 = j - (t + 4 + 4 + 4 + 4) by omega]
    · rw [if_neg (show ¬ (t + 4 + 4 + 4 + 4 ≤ j ∧ j < t + 4 + 4 + 4 + 4 + 4) by omega)]
      by_cases w4 : t + 4 + 4 + 4 ≤ j
      · rw [if_pos (by omega), if_neg (by omega), if_neg (by omega), if_neg (by omega), if_pos (by omega), if_pos (by omega), show (j - t) % 4 = j - (t + 4 + 4 + 4) by omega]
      · rw [if_neg (show ¬ (t + 4 + 4 + 4 ≤ j ∧ j < t + 4 + 4 + 4 + 4) by omega)]
        by_cases w3 : t + 4 + 4 ≤ j
        · rw [if_pos (by omega), if_neg (by omega), if_neg (by omega), if_pos (by omega), if_pos (by omega), show (j - t) % 4 = j - (t + 4 + 4) by omega]
        · rw [if_neg (show ¬ (t + 4 + 4 ≤ j ∧ j < t + 4 + 4 + 4) by omega)]
          by_cases w2 : t + 4 ≤ j
          · rw [if_pos (by omega), if_neg (by omega), if_pos (by omega), if_pos (by omega), show (j - t) % 4 = j - (t + 4) by omega]
          · rw [if_neg (show ¬ (t + 4 ≤ j ∧ j < t + 4 + 4) by omega)]
            by_cases w1 : t ≤ j
            · rw [if_pos (by omega), if_pos (by omega), if_pos (by omega), show (j - t) % 4 = j - t by omega]
            · rw [if_neg (by omega), if_neg (by omega)]
theorem fM.tp {V : vw} {h0 h : mv_H} {k : Nat} {x y : Int32} (f : fM V h0 h) : fM (vw_tp V (mx_upA (vTp V) k x) y) h0 (mv_sI (mv_sI h 151 k x) 148 5 y) := by
  refine ⟨f.1.tr ((mx_fr.sI (S := mx_sM) rfl).z.tr (mx_fr.sI (S := mx_sM) rfl).z), ?_⟩
  have e1 : mv_I (mv_sI (mv_sI h 151 k x) 148 5 y) 151 = mx_upA (vTp V) k x := by
    funext j
    rw [mx_InE (by omega), mx_upI, ← f.2]
    unfold mx_upA
    by_cases q : j = k
    · rw [if_pos ⟨rfl, q⟩, if_pos q]
    · rw [if_neg (fun c => q c.2), if_neg q]; rfl
  have e2 : vw_of (mv_sI (mv_sI h 151 k x) 148 5 y) = vw_tp (vw_of h) (mv_I (mv_sI (mv_sI h 151 k x) 148 5 y) 151) y := rfl
  rw [e2, e1, f.2]
theorem fM.eqtp {V : vw} {h0 h : mv_H} {tp tp' : Nat → Int32} {td : Int32} (f : fM (vw_tp V tp td) h0 h) (e : ∀ k, tp k = tp' k) : fM (vw_tp V tp' td) h0 h := by
  rw [← show tp = tp' from funext e]; exact f
theorem cm180 {E : mv_E} {D k n : Nat} {h : mv_H} {Q : mv_Q} {V : vw} {a b c d e : Int32} (ev : vw_of h = V) (m : InvM V) (H : ∀ h', fM (V_feed V a b c d e) h h' → Q (some (.int (v_feed V))) h') : mv_VE E D k n 180 0 [some (.ref 148), some (.int a), some (.int b), some (.int c), some (.int d), some (.int e), none, none] [] h Q := by
  have f0 := fM.of ev
  obtain ⟨t, ht, et, -⟩ := m.2.2.2
  have e5 : mv_I h 148 5 = vTd V := by rw [← ev]; rfl
  apply sg180_0
  unfold V_feed v_feed at H
  rw [et, nI_clamp (by omega)] at H
  rw [e5, et, show nI t + (20 : Int32) = nI (t + 20) from nI_add t 20]
  refine mx_lt 900 (t + 20) (fun q => ?_) (fun q => ?_) (by omega) (by omega)
  · rw [if_pos q, if_pos q] at H; exact H _ f0
  · rw [if_neg (by omega), if_neg (by omega)] at H
    refine mx_loop (P := fun j => ∀ h', fM (vw_tp V (sp_fd (vTp V) t a b c d e j) (nI (t + j))) h h' → mv_VE E D k n 180 24 [some (.ref 148), some (.int a), some (.int b), some (.int c), some (.int d), some (.int e), some (.int (nI j)), none] [] h' Q) 20 ?_ ?_ _ ?_
    · intro h' f'
      have e6 : mv_I h' 148 5 = nI (t + 20) := by
        have : mv_I h' 148 5 = vTd (vw_of h') := rfl
        rw [this, f'.2]; rfl
      apply sg180_24
      rw [e6]
      exact mx_ltF 20 20 (Nat.le_refl _) (H h' f') (by omega)
    · intro j hj ih h' f'
      have e6 : mv_I h' 148 5 = nI (t + j) := by
        have : mv_I h' 148 5 = vTd (vw_of h') := rfl
        rw [this, f'.2]; rfl
      have es : (24 : Int32) - 8 * (nI j - nI j / 4 * 4) = nI (24 - 8 * (j % 4)) := by
        rw [show nI j - nI j / 4 * 4 = nI (j % 4) from pk_rem (d := 4) (by omega) (by omega) (by omega), show (8 : Int32) * nI (j % 4) = nI (8 * (j % 4)) from pk_mul 8 _]
        exact pk_sub (a := 24) (by omega)
      have i9 : (true && mv_in (nI (t + j)) 900) = true := mx_inT (t + j) (by omega) (by omega)
      have fin : ∀ x, fd_sel a b c d e j = x → mv_gd (true && mv_in (nI (t + j)) 900) (mv_VE E D k n 180 24 [some (.ref 148), some (.int a), some (.int b), some (.int c), some (.int d), some (.int e), some (.int (nI (j + 1))), none] [] (mv_sI (mv_sI h' 151 (t + j) ((x >>> (nI (24 - 8 * (j % 4)) &&& 31)) &&& 255)) 148 5 (nI (t + j + 1))) Q) := by
        intro x hx
        refine mv_gdI i9 (ih _ ((f'.tp (k := t + j) (x := (x >>> (nI (24 - 8 * (j % 4)) &&& 31)) &&& 255) (y := nI (t + j + 1))).eqtp (fun l => ?_)))
        show mx_upA (sp_fd (vTp V) t a b c d e j) (t + j) _ l = sp_fd (vTp V) t a b c d e (j + 1) l
        unfold mx_upA sp_fd
        by_cases w : l = t + j
        · rw [if_pos w, if_pos (by omega), w, show t + j - t = j by omega, hx]; rfl
        · rw [if_neg w]
          by_cases w2 : t ≤ l ∧ l < t + j
          · rw [if_pos w2, if_pos (by omega)]
          · rw [if_neg w2, if_neg (by omega)]
      apply sg180_24
      rw [e6, es, nI_clamp (n := t + j) (by omega), nI_1, nI_1]
      refine mx_ltT j 20 hj ?_ (by omega)
      refine mx_lt j 4 (fun w => fin a (by unfold fd_sel; rw [if_pos w])) (fun w => ?_) (by omega) (by omega)
      refine mx_lt j 8 (fun w2 => fin b (by unfold fd_sel; rw [if_neg (by omega), if_pos w2])) (fun w2 => ?_) (by omega) (by omega)
      refine mx_lt j 12 (fun w3 => fin c (by unfold fd_sel; rw [if_neg (by omega), if_neg (by omega), if_pos w3])) (fun w3 => ?_) (by omega) (by omega)
      exact mx_lt j 16 (fun w4 => fin d (by unfold fd_sel; rw [if_neg (by omega), if_neg (by omega), if_neg (by omega), if_pos w4])) (fun w4 => fin e (by unfold fd_sel; rw [if_neg (by omega), if_neg (by omega), if_neg (by omega), if_neg (by omega)])) (by omega) (by omega)
    · have : vw_tp V (sp_fd (vTp V) t a b c d e 0) (nI (t + 0)) = V := by
        rw [show sp_fd (vTp V) t a b c d e 0 = vTp V from funext fun l => by unfold sp_fd; rw [if_neg (by omega)], Nat.add_zero, ← et]
        rfl
      rw [this]; exact f0
