/-! Calls: image by the class, restore. -/
theorem i_past.fz {S : Nat → Nat → Bool} {h h' : mv_H} {A : Nat → Int32} (z : mx_fz S h h') (hS : ∀ a k, 109 ≤ a ∧ a ≤ 130 → S a k = false) (i : i_past h A) : i_past h' A := by
  unfold i_past
  rw [z.Rr 110 (fun k => hS 110 k (by omega)), z.I 109 (fun k => hS _ k (by omega))]
  refine ⟨i.1, i.2.1, i.2.2.1, fun j c hi => ?_⟩
  obtain ⟨l, hl, e⟩ := i.2.1 j c
  exact (i.2.2.2 j c hi).fz z (fun k => hS _ k (by omega)) (fun k => hS _ k (by omega))
theorem i_tray.fz {S : Nat → Nat → Bool} {h h' : mv_H} {rs rm : Nat → Int32} {nu : Nat → Int64} {t : Nat} (z : mx_fz S h h') (h1 : ∀ k, S (136 + 2 * t) k = false) (h2 : ∀ k, S (137 + 2 * t) k = false) (i : i_tray h rs rm nu t) : i_tray h' rs rm nu t := by
  have e1 := z.I (136 + 2 * t) h1
  have e2 : ∀ k, mv_J h' (137 + 2 * t) k = mv_J h (137 + 2 * t) k := fun k => (z.2.2 _ k (h2 k)).2.1
  unfold i_tray at i ⊢
  rw [e1]
  rcases i with q | ⟨so, m, q1, q2, q3, q4, q5, q6, q7⟩
  · exact Or.inl q
  · exact Or.inr ⟨so, m, q1, q2, q3, q4, q5, q6, fun k hk => by rw [e2]; exact q7 k hk⟩
theorem i_tape.fz {S : Nat → Nat → Bool} {h h' : mv_H} {tp : Nat → Int32} {td : Int32} (z : mx_fz S h h') (h1 : S 50 1 = false) (h2 : ∀ k, S 51 k = false) (i : i_tape h tp td) : i_tape h' tp td := by
  unfold i_tape
  rw [(z.2.2 50 1 h1).1, z.I 51 h2]
  exact i
theorem i_ways.fz {S : Nat → Nat → Bool} {h h' : mv_H} (z : mx_fz S h h') (h1 : S 50 14 = false) (h2 : S 50 15 = false) (i : i_ways h) : i_ways h' := by
  unfold i_ways
  rw [(z.2.2 50 14 h1).2.2, (z.2.2 50 15 h2).2.2]
  exact i
theorem i_raft.cg {E : mv_E} {h : mv_H} {r : Nat} {A A' : Nat → Int32} (s : sp_st65 A A') (ok : sp_ok A) (i : i_raft E h r A) : i_raft E h r A' := by
  refine ⟨i.1.cg s ok, ?_⟩
  have e : sp_plc A' = sp_plc A := sp_gp_cg s ok.2.1 _ _ _ _ _ (Nat.zero_le _)
  have q := i.2
  unfold i_pc at q ⊢
  rw [e, s.P]
  exact q
theorem m_ok.cg {A A' : Nat → Int32} (s : sp_st65 A A') (m : m_ok A) (h1 : m_st (sp_P A) (fun j => A' (65 + j))) : m_ok A' := by
  obtain ⟨m1, m2, m3, m4⟩ := m
  have h8 := m1.2.1
  refine ⟨m1.cg s, ?_, fun p hp => ?_, fun k hk => by rw [s _ (by omega)]; exact m4 k hk⟩
  · rw [s.P]; exact h1
  · rw [s.P] at hp ⊢
    have e : sp_Qr A' p = sp_Qr A p := by unfold sp_Qr; rw [s (33 + p) (by omega)]
    rw [e, s (9 + p) (by omega), s (17 + p) (by omega), s (33 + p) (by omega)]
    exact m3 p hp
theorem bn_2 (x : Int32) {A B : Prop} (f : bn x 2 = true → A) (g : bn x 2 = false → B) : if x < 0 then B else if x < 2 then A else B := by
  refine mx_if (fun q => g ?_) (fun q => mx_if (fun r => f ?_) (fun r => g ?_))
  · unfold bn; rw [decide_eq_true q]; rfl
  · unfold bn; rw [decide_eq_false q, decide_eq_true (show x < nI 2 from r)]; rfl
  · unfold bn; rw [decide_eq_false q, decide_eq_false (show ¬ x < nI 2 from r)]; rfl
theorem st_ad_i {t : Nat} (ht : t < 2) : st_ad (144 + 2 * t) := by unfold st_ad; omega
def mx_sI2 (t a _ : Nat) : Bool := Nat.beq a 132 || (Nat.beq a (144 + 2 * t) || Nat.beq a (145 + 2 * t))
theorem mx_sI2f {t a k : Nat} (h : a ≠ 132 ∧ a ≠ 144 + 2 * t ∧ a ≠ 145 + 2 * t) : mx_sI2 t a k = false := by
  unfold mx_sI2
  rw [mv_bne h.1, mv_bne h.2.1, mv_bne h.2.2]; rfl
theorem cc175 {E : mv_E} {D k n : Nat} {h : mv_H} {Q : mv_Q} {V : vw} {x : Int32} (i : InvC E h V) (m : InvM V) (H : ∀ h', InvC E h' (V_image V x) → fCl h h' → Q (some (.int (v_image x))) h') : mv_VE E (D + 2) k n 175 0 [some (.ref 50), some (.int x)] [] h Q := by
  have ok := m.ok
  apply sg175_0
  unfold V_image v_image at H
  refine bn_2 x (fun a => ?_) (fun a => ?_)
  · rw [a] at H
    obtain ⟨t, ht, rfl⟩ := bnT (by omega) a
    rw [nI_clamp (by omega)] at H ⊢
    obtain ⟨g1, g2, g3⟩ := st_sh (st_ad_i ht) E h
    rw [i.1.1.1.1.1.2.1, g1]
    refine mv_gdI (by rw [mx_in t ht (by omega)]; rfl) (mv_gdI (by rw [mx_in t ht (by omega)]; rfl) (mv_gdI rfl ?_))
    refine ct67 (st_ad_i ht) (Or.inl rfl) (fun h1 f1 c1 c2 => ⟨rfl, ?_⟩)
    have z : mx_fz (mx_sI2 t) h h1 := by
      refine mx_fz.tr (mx_fz.sR (S := mx_sI2 t) (a := 132) (k := t) (x := mv_R h 50 3) rfl) (f1.z.to (fun a k q => ?_))
      unfold mx_sx
      rw [mv_bne (fun c => by rw [c] at q; unfold mx_sI2 at q; rw [mv_beq, Bool.true_or, Bool.or_true] at q; cases q), mv_bne (fun c => by rw [c] at q; unfold mx_sI2 at q; rw [show 144 + 2 * t + 1 = 145 + 2 * t by omega, mv_beq, Bool.or_true, Bool.or_true] at q; cases q)]
      rfl
    have R132 : ∀ u, mv_R h1 132 u = if u = t then mv_R h 50 3 else mv_R h 132 u := fun u => by
      rw [f1.2.2.2.2, mx_upR]
      by_cases c : u = t
      · rw [if_pos ⟨rfl, c⟩, if_pos c]
      · rw [if_neg (fun d => c d.2), if_neg c]
    have hr : ∀ a k, cr_reg a → mx_sI2 t a k = false := fun a k q => mx_sI2f (by unfold cr_reg at q; omega)
    obtain ⟨⟨i1, i2, i3⟩, ⟨i4, i5⟩, i6, i7, i8, i9⟩ := i.1
    have im : ∀ u, u < 2 → i_img E h (vA V) (vHi V) u → i_img E h1 (sp_imA (vA V) t 1088) (mx_upT (vHi V) t 1) u := by
      intro u hu q
      unfold i_img mx_upT
      rw [R132]
      by_cases c : u = t
      · subst c
        rw [if_pos rfl, if_pos rfl]
        refine Or.inr ⟨rfl, (i1.fz z hr).ce (sp_imA_self _ _) ok, ?_⟩
        have e : i_st h1 (144 + 2 * u) (fun j => vA V (65 + j)) := ⟨(c1 0 (by omega)).trans i2.1, (c1 1 (by omega)).trans i2.2.1, (c1 2 (by omega)).trans i2.2.2.1, fun p hp => (c2 p hp).trans (i2.2.2.2 p hp)⟩
        exact e.cg (fun j hj => sp_imA_self (vA V) u (65 + j) (by omega))
      · rw [if_neg c, if_neg c]
        rcases q with q | ⟨q1, q2, q3⟩
        · exact Or.inl q
        · have mo : m_ok (sp_im (vA V) u) := by
            rcases (by omega : u = 0 ∨ u = 1) with d | d
            · subst d
              rcases m.2.1.1 with w | w
              · rw [w] at q1; exact absurd q1 (by decide)
              · exact w.2
            · subst d
              rcases m.2.1.2 with w | w
              · rw [w] at q1; exact absurd q1 (by decide)
              · exact w.2
          refine Or.inr ⟨q1, (q2.fz z hr).ce (sp_imA_o _ _ _ c) mo.1, ?_⟩
          exact (q3.fz z (fun k => mx_sI2f (by omega)) (fun k => mx_sI2f (by omega))).cg (fun j hj => sp_imA_o (vA V) t u c (65 + j) (by omega))
    have R50 : mv_R h1 50 = mv_R h 50 := z.Rr 50 (fun k => mx_sI2f (by omega))
    refine H h1 ⟨⟨⟨?_, ?_, ?_⟩, ⟨im 0 (by omega) i4, im 1 (by omega) i5⟩, fun u hu => (i6 u hu).fz z (fun k => mx_sI2f (by omega)) (fun k => mx_sI2f (by omega)), i7.fz z (mx_sI2f (by omega)) (fun k => mx_sI2f (by omega)), ?_, i9.fz z (mx_sI2f (by omega)) (mx_sI2f (by omega))⟩, i.2.fz z (fun a k q => mx_sI2f (by unfold cr_reg at q; omega))⟩ (z.toC (fun a k q => mx_sI2f (by omega)))
    · rw [R50]; exact (i1.fz z hr).ce (sp_imA_eq _ _ _) ok
    · exact (i2.fz z (fun k => mx_sI2f (by omega)) (fun k => mx_sI2f (by omega))).cg (fun j hj => sp_imA_eq (vA V) t 1088 (65 + j) (by omega))
    · exact (i3.fz z (fun a k q => mx_sI2f (by omega))).ce (sp_imA_eq _ _ _)
    · rw [z.I 52 (fun k => mx_sI2f (by omega))]; exact i8
  · rw [a] at H; exact H h i fCl.rf
-- restore
def sp_rsA (A : Nat → Int32) (t j : Nat) : Nat → Int32 := fun k => if k < j then A (1088 * (t + 1) + k) else A k
def V_restore (V : vw) (x : Int32) : vw := cond (bn x 2) (if vHi V x.toNatClampNeg = 0 then V else vw_A V (mx_upA (sp_rsA (vA V) x.toNatClampNeg 1088) 76 0)) V
def v_restore (V : vw) (x : Int32) : Int32 := cond (bn x 2) (if vHi V x.toNatClampNeg = 0 then -5 else 0) (-2)
theorem InvM.img {V : vw} (m : InvM V) {u : Nat} (hu : u < 2) : m_img (vA V) (vHi V) u := by
  rcases (by omega : u = 0 ∨ u = 1) with d | d
  · subst d; exact m.2.1.1
  · subst d; exact m.2.1.2
theorem sp_rs_eq (A : Nat → Int32) (t : Nat) : sp_eq (mx_upA (sp_im A t) 76 0) (mx_upA (sp_rsA A t 1088) 76 0) := fun k hk => by
  unfold mx_upA sp_rsA sp_im
  by_cases c : k = 76
  · rw [if_pos c, if_pos c]
  · rw [if_neg c, if_neg c, if_pos hk]
theorem sp_rs_im (A : Nat → Int32) (t u : Nat) : sp_im (mx_upA (sp_rsA A t 1088) 76 0) u = sp_im A u := funext fun k => by
  unfold sp_im mx_upA sp_rsA
  rw [if_neg (by omega), if_neg (by omega)]
theorem sp_rs_d (A : Nat → Int32) (t : Nat) : sp_d (mx_upA (sp_rsA A t 1088) 76 0) = 0 := rfl
theorem sp_rs_st (A : Nat → Int32) : sp_st65 A (mx_upA A 76 0) := fun k hk => by unfold mx_upA; rw [if_neg (by omega)]
theorem im_restore {V : vw} {x : Int32} (m : InvM V) : InvM (V_restore V x) := by
  unfold V_restore
  cases a : bn x 2 with
  | false => exact m
  | true =>
    obtain ⟨t, ht, rfl⟩ := bnT (by omega) a
    rw [nI_clamp (by omega), cond_true]
    by_cases q : vHi V t = 0
    · rw [if_pos q]; exact m
    · rw [if_neg q]
      rcases m.img ht with w | ⟨w1, w2⟩
      · exact absurd w q
      · have w3 : m_ok (mx_upA (sp_im (vA V) t) 76 0) := w2.cg (sp_rs_st _) (w2.2.1.cg w2.1.2.1 (fun j hj => by
          show mx_upA _ 76 0 (65 + j) = _
          unfold mx_upA
          rw [if_neg (by omega)]))
        refine ⟨⟨w3.ce (sp_rs_eq _ _), rfl, by rw [show sp_d (vA (vw_A V (mx_upA (sp_rsA (vA V) t 1088) 76 0))) = 0 from rfl]; omega, fun j hj => ?_⟩, ⟨?_, ?_⟩, m.2.2⟩
        · rw [show sp_d (vA (vw_A V (mx_upA (sp_rsA (vA V) t 1088) 76 0))) = 0 from rfl] at hj; omega
        · show m_img (mx_upA (sp_rsA (vA V) t 1088) 76 0) (vHi V) 0
          unfold m_img
          rw [sp_rs_im]; exact m.2.1.1
        · show m_img (mx_upA (sp_rsA (vA V) t 1088) 76 0) (vHi V) 1
          unfold m_img
          rw [sp_rs_im]; exact m.2.1.2
def mx_sRs (a k : Nat) : Bool := Nat.beq a 81 || (Nat.beq a 82 || (Nat.beq a 109 || (Nat.beq a 50 && Nat.beq k 3)))
theorem mx_sRsf {a k : Nat} (h : a ≠ 81 ∧ a ≠ 82 ∧ a ≠ 109 ∧ (a ≠ 50 ∨ k ≠ 3)) : mx_sRs a k = false := by
  unfold mx_sRs
  rw [mv_bne h.1, mv_bne h.2.1, mv_bne h.2.2.1]
  rcases h.2.2.2 with c | c
  · rw [mv_bne c]; rfl
  · rw [mv_bne c, Bool.and_false]; rfl
theorem cc176 {E : mv_E} {D k n : Nat} {h : mv_H} {Q : mv_Q} {V : vw} {x : Int32} (i : InvC E h V) (m : InvM V) (H : ∀ h', InvC E h' (V_restore V x) → fCl h h' → Q (some (.int (v_restore V x))) h') : mv_VE E (D + 2) k n 176 0 [some (.ref 50), some (.int x), none] [] h Q := by
  apply sg176_0
  unfold V_restore v_restore at H
  refine bn_2 x (fun a => ?_) (fun a => ?_)
  · rw [a] at H
    obtain ⟨t, ht, rfl⟩ := bnT (by omega) a
    rw [nI_clamp (by omega), cond_true, cond_true] at H
    rw [nI_clamp (by omega)]
    have it : i_img E h (vA V) (vHi V) t := by
      rcases (by omega : t = 0 ∨ t = 1) with d | d
      · subst d; exact i.1.2.1.1
      · subst d; exact i.1.2.1.2
    have i2' : (true && true && mv_in (nI t) 2) = true := by rw [mx_in t ht (by omega)]; rfl
    refine mv_gdI i2' ?_
    rcases it with ⟨q1, q2⟩ | ⟨q1, q2, q3⟩
    · rw [if_pos q1, if_pos q1] at H
      rw [q2]
      exact mv_gdI rfl (by rw [if_pos rfl]; exact H h i fCl.rf)
    · have q0 : ¬ vHi V t = 0 := by rw [q1]; decide
      rw [if_neg q0, if_neg q0] at H
      have r50 : 50 ≤ mv_R h 132 t := by have := q2.1.1.1; unfold cr_ad at this; omega
      refine mv_gdI (by rw [Nat.ble_eq_true_of_le r50, Bool.or_true]) ?_
      rw [if_neg (by omega)]
      refine mv_gdI i2' (ct67 (Or.inl rfl) (st_ad_i ht) (fun h1 f1 c1 c2 => ⟨rfl, ?_⟩))
      apply sg19_0
      refine ⟨rfl, ?_⟩
      have z : mx_fz mx_sRs h (mv_sI h1 109 1 0) := by
        refine mx_fz.tr (mx_fz.tr (mx_fz.sR (S := mx_sRs) (a := 50) (k := 3) (x := mv_R h 132 t) rfl) (f1.z.to (fun a k q => ?_))) (mx_fr.sI (S := mx_sRs) rfl).z
        unfold mx_sx
        rw [mv_bne (fun c => by rw [c] at q; cases q), mv_bne (fun c => by rw [c] at q; cases q)]
        rfl
      have e109 : mv_I (mv_sI h1 109 1 0) 109 1 = 0 := mx_Iss
      have e81 : mv_I (mv_sI h1 109 1 0) 81 = mv_I h1 81 := funext fun j => mx_InE (by omega)
      have e82 : mv_I (mv_sI h1 109 1 0) 82 = mv_I h1 82 := funext fun j => mx_InE (by omega)
      have R3 : mv_R (mv_sI h1 109 1 0) 50 3 = mv_R h 132 t := by rw [mx_RsI, f1.2.2.2.2, mx_upR, if_pos ⟨rfl, rfl⟩]
      generalize mv_sI h1 109 1 0 = h2 at z e109 e81 e82 R3
      have hr : ∀ a k, cr_reg a → mx_sRs a k = false := fun a k q => mx_sRsf (by unfold cr_reg at q; omega)
      obtain ⟨w1, w2⟩ : vHi V t = 1 ∧ m_ok (sp_im (vA V) t) := by
        rcases m.img ht with w | w
        · exact absurd w q0
        · exact w
      obtain ⟨⟨i1, i2, i3⟩, ⟨i4, i5⟩, i6, i7, i8, i9⟩ := i.1
      have R132 : mv_R h2 132 = mv_R h 132 := z.Rr 132 (fun k => mx_sRsf (by omega))
      have im : ∀ u, u < 2 → i_img E h (vA V) (vHi V) u → i_img E h2 (mx_upA (sp_rsA (vA V) t 1088) 76 0) (vHi V) u := by
        intro u hu q
        unfold i_img
        rw [R132, sp_rs_im]
        rcases q with q | ⟨q1, q2, q3⟩
        · exact Or.inl q
        · exact Or.inr ⟨q1, q2.fz z hr, q3.fz z (fun k => mx_sRsf (by omega)) (fun k => mx_sRsf (by omega))⟩
      refine H h2 ⟨⟨⟨?_, ?_, ?_⟩, ⟨im 0 (by omega) i4, im 1 (by omega) i5⟩, fun u hu => (i6 u hu).fz z (fun k => mx_sRsf (by omega)) (fun k => mx_sRsf (by omega)), i7.fz z (mx_sRsf (by omega)) (fun k => mx_sRsf (by omega)), ?_, i9.fz z (mx_sRsf (by omega)) (mx_sRsf (by omega))⟩, i.2.fz z (fun a k q => mx_sRsf (by unfold cr_reg at q; omega))⟩ (z.toC (fun a k q => mx_sRsf (by omega)))
      · rw [R3]
        exact ((q2.fz z hr).cg (sp_rs_st _) w2.1).ce (sp_rs_eq _ _) (w2.1.cg (sp_rs_st _))
      · have e : i_st h2 81 (fun j => sp_im (vA V) t (65 + j)) := by
          refine ⟨?_, ?_, ?_, fun p hp => ?_⟩
          · rw [e81]; exact (c1 0 (by omega)).trans q3.1
          · rw [e81]; exact (c1 1 (by omega)).trans q3.2.1
          · rw [e81]; exact (c1 2 (by omega)).trans q3.2.2.1
          · rw [e82]; exact (c2 p hp).trans (q3.2.2.2 p hp)
        refine e.cg (fun j hj => ?_)
        show mx_upA (sp_rsA (vA V) t 1088) 76 0 (65 + j) = sp_im (vA V) t (65 + j)
        unfold mx_upA sp_rsA sp_im
        rw [if_neg (by omega), if_pos (by omega)]
      · refine ⟨e109, ?_, ?_, fun j hj hd => ?_⟩
        · rw [z.Rr 110 (fun k => mx_sRsf (by omega))]; exact i3.2.1
        · rw [z.Rr 110 (fun k => mx_sRsf (by omega))]; exact i3.2.2.1
        · rw [show sp_d (vA (vw_A V (mx_upA (sp_rsA (vA V) t 1088) 76 0))) = 0 from rfl] at hd; omega
      · rw [z.I 52 (fun k => mx_sRsf (by omega))]; exact i8
  · rw [a] at H; exact H h i fCl.rf
theorem cm303 {E : mv_E} {D k n : Nat} {h : mv_H} {Q : mv_Q} {V : vw} {x : Int32} (e : vw_of h = V) (H : ∀ h', fM (V_restore V x) h h' → Q (some (.int (v_restore V x))) h') : mv_VE E (D + 1) k n 303 0 [some (.ref 148), some (.int x), none] [] h Q := by
  have f0 := fM.of e
  apply sg303_0
  unfold V_restore v_restore at H
  have eh : mv_I h 150 = vHi V := by rw [← e]; rfl
  refine mx_cdb _ (bn_w 1 (by omega) rfl) (fun a => ?_) (fun a => ?_)
  · have a : bn x 2 = true := a
    rw [a] at H
    obtain ⟨t, ht, rfl⟩ := bnT (by omega) a
    rw [nI_clamp (by omega), cond_true, cond_true] at H
    rw [nI_clamp (by omega), eh]
    refine mv_gdI (mx_inT t ht (by omega)) (mx_if (fun q => ?_) (fun q => ?_))
    · rw [if_pos q, if_pos q] at H; exact H _ f0
    · rw [if_neg q, if_neg q] at H
      refine mx_loop (P := fun j => ∀ h', fM (vw_A V (sp_rsA (vA V) t j)) h h' → mv_VE E (D + 1) k n 303 32 [some (.ref 148), some (.int (nI t)), some (.int (nI j))] [] h' Q) 1088 ?_ ?_ _ ((show fM (vw_A V (vA V)) h (mv_sI h 148 0 0) from f0).eqA (fun k => by unfold sp_rsA; rw [if_neg (by omega)]))
      · intro h' f'
        apply sg303_32
        exact mx_ltF 1088 1088 (Nat.le_refl _) (H _ (f'.at (k := 76) (x := 0))) (by omega)
      · intro j hj ih h' f'
        have ev : mv_I h' 149 (1088 * (t + 1) + j) = vA V (1088 * (t + 1) + j) := by
          rw [f'.A]
          show sp_rsA (vA V) t j (1088 * (t + 1) + j) = _
          unfold sp_rsA
          rw [if_neg (by omega)]
        apply sg303_32
        rw [nI_1, nI_1, show (1088 : Int32) * nI (t + 1) = nI (1088 * (t + 1)) from pk_mul 1088 _, nI_add, nI_clamp (n := 1088 * (t + 1) + j) (by omega), nI_clamp (n := j) (by omega), ev]
        refine mx_ltT j 1088 hj (mv_gdI (mx_inT (1088 * (t + 1) + j) (by omega) (by omega)) (mv_gdI (mx_inT j (by omega) (by omega)) ?_)) (by omega)
        refine ih _ ((f'.at).eqA (fun k => ?_))
        show mx_upA (sp_rsA (vA V) t j) _ _ k = sp_rsA (vA V) t (j + 1) k
        unfold mx_upA sp_rsA
        by_cases c : k = j
        · rw [if_pos c, if_pos (by omega), c]
        · rw [if_neg c]
          by_cases c2 : k < j
          · rw [if_pos c2, if_pos (by omega)]
          · rw [if_neg c2, if_neg (by omega)]
  · have a : bn x 2 = false := a
    rw [a] at H; exact H _ f0
