/-! Calls: go, take, undo. -/
theorem mx_xor_lt {s p P : Nat} (hs : s < 2 ^ P) (hp : p < P) : s ^^^ 2 ^ p < 2 ^ P := Nat.xor_lt_two_pow hs (Nat.pow_lt_pow_right (by omega) hp)
theorem m_st_h {P s : Nat} {A : Nat → Int32} (h8 : P ≤ 8) (m : m_st P (sp_was A)) (hs : s < 2 ^ P) : m_st P (fun j => mx_upA A 65 (nI s) (65 + j)) := by
  have p2 := mx_p2 h8
  refine ⟨?_, ?_, fun p hp => ?_, ?_⟩
  · show mx_upA A 65 (nI s) 65 = nI (mx_upA A 65 (nI s) 65).toNatClampNeg
    unfold mx_upA
    rw [if_pos rfl, nI_clamp (by omega)]
  · show (mx_upA A 65 (nI s) 65).toNatClampNeg < _
    unfold mx_upA
    rw [if_pos rfl, nI_clamp (by omega)]; exact hs
  · show sp_dg (mx_upA A 65 (nI s) (65 + (1 + p)))
    unfold mx_upA
    rw [if_neg (by omega)]; exact m.2.2.1 p hp
  · show sp_dg (mx_upA A 65 (nI s) 74)
    unfold mx_upA
    rw [if_neg (by omega)]; exact m.2.2.2
/-- why one can't let go (t false) or take hold (t true) -/
def sp_why (A : Nat → Int32) (x : Int32) (t : Bool) : Nat := cond (pn A x) (cond ((sp_hold A).testBit x.toNatClampNeg == t) 2 0) 1
def sp_turn (A : Nat → Int32) (x : Int32) : Nat := sp_hold A ^^^ 2 ^ x.toNatClampNeg
def V_turn (V : vw) (x : Int32) (t : Bool) : vw := if sp_why (vA V) x t = 0 then vw_A V (sp_note (mx_upA (vA V) 65 (nI (sp_turn (vA V) x))) (sp_was (vA V))) else V
def v_turn (V : vw) (x : Int32) (t : Bool) : Int32 := if sp_why (vA V) x t = 0 then nI (sp_float (vA (V_turn V x t)) (sp_turn (vA V) x)).toNat else (-10) - nI (sp_why (vA V) x t)
theorem sp_why0 {A : Nat → Int32} {x : Int32} {t : Bool} (ok : sp_ok A) (h : sp_why A x t = 0) : ∃ p, p < sp_P A ∧ x = nI p ∧ (sp_hold A).testBit p = !t := by
  have h8 := ok.2.1
  unfold sp_why at h
  cases z : pn A x with
  | false => rw [z] at h; cases h
  | true =>
    rw [z, cond_true] at h
    obtain ⟨p, hp, rfl⟩ := pnT ok z
    rw [nI_clamp (by omega)] at h
    refine ⟨p, hp, rfl, ?_⟩
    cases b : (sp_hold A).testBit p <;> cases t <;> rw [b] at h <;> first | rfl | cases h
theorem im_turn {V : vw} {x : Int32} {t : Bool} (m : InvM V) : InvM (V_turn V x t) := by
  have p8 := m.p8
  unfold V_turn
  by_cases q : sp_why (vA V) x t = 0
  · rw [if_pos q]
    obtain ⟨p, hp, rfl, -⟩ := sp_why0 m.ok q
    refine m.fin (sp_now.up (by omega) (by omega)) (m_st_h p8 m.1.1.2.1 ?_)
    unfold sp_turn
    rw [nI_clamp (by omega)]
    exact mx_xor_lt m.1.1.hold.2 hp
  · rw [if_neg q]; exact m
theorem sp_note_hold {A w : Nat → Int32} {s : Nat} (hd : sp_d A ≤ 10) : sp_note (mx_upA A 65 (nI s)) w 65 = nI s := by
  have s1 : sp_now A (mx_upA A 65 (nI s)) := sp_now.up (by omega) (by omega)
  rw [sp_note_65 (by rw [s1.d]; exact hd) 65 (by omega)]
  unfold mx_upA
  rw [if_pos rfl]
/-- changing who holds, of the state now -/
theorem cc113 {E : mv_E} {D k n : Nat} {h : mv_H} {Q : mv_Q} {V : vw} {x y : Int32} (t : Bool) (i : InvC0 E h V) (m : InvM V) (ey : y = nI (!t).toNat) (H0 : sp_why (vA V) x t = 0 → Q (some (.int 0)) (mv_sI h 81 0 (nI (sp_turn (vA V) x)))) (H1 : sp_why (vA V) x t ≠ 0 → Q (some (.int (nI (sp_why (vA V) x t)))) h) : mv_VE E (D + 1) k n 113 0 [some (.ref 50), some (.ref 81), some (.int x), some (.int y)] [] h Q := by
  subst ey
  have p8 := m.p8
  have p2 := m.p2
  have hh := m.1.1.hold
  have eh : mv_I h 81 0 = nI (sp_hold (vA V)) := i.1.2.1.1.trans hh.1
  apply sg113_0
  refine cc104 i m ⟨_, rfl, mx_ifB _ (fun z => ?_) (fun z => ?_)⟩
  · have e : sp_why (vA V) x t = 1 := by unfold sp_why; rw [z]; rfl
    rw [e] at H1; exact H1 (by omega)
  · obtain ⟨p, hp, rfl⟩ := pnT m.ok z
    have e : sp_why (vA V) (nI p) t = cond ((sp_hold (vA V)).testBit p == t) 2 0 := by unfold sp_why; rw [z, cond_true, nI_clamp (by omega)]
    have et : sp_turn (vA V) (nI p) = sp_hold (vA V) ^^^ 2 ^ p := by unfold sp_turn; rw [nI_clamp (by omega)]
    rw [e] at H0 H1
    rw [et] at H0
    have K : mv_KE E h 81 = (6, 4) := rfl
    rw [K, eh, mx_bit (by omega) (by omega), mx_1shl (by omega), mx_xor]
    refine mv_gdI rfl (mx_if (fun c => ?_) (fun c => ?_))
    · refine mv_gdI rfl (mv_gdI rfl (H0 ?_))
      rw [nI_eq (by have := mx_tn ((sp_hold (vA V)).testBit p); omega) (by have := mx_tn (!t); omega)] at c
      rw [mx_tninj c]; cases t <;> rfl
    · have c2 : ((sp_hold (vA V)).testBit p == t) = true := by
        cases b : (sp_hold (vA V)).testBit p <;> cases t <;> first | rfl | (rw [b] at c; exact absurd rfl c)
      rw [c2] at H1; exact H1 (by decide)
theorem cc112 {E : mv_E} {D k n : Nat} {h : mv_H} {Q : mv_Q} {V : vw} {x y : Int32} (t : Bool) (i : InvC E h V) (m : InvM V) (ey : y = nI (!t).toNat) (H : ∀ h', InvC E h' (V_turn V x t) → fCl h h' → Q (some (.int (v_turn V x t))) h') : mv_VE E (D + 5) k n 112 0 [some (.ref 50), some (.int x), some (.int y), none] [] h Q := by
  have md := m.1.2.2.1
  have p8 := m.p8
  apply sg112_0
  refine ct67 (Or.inr (Or.inl rfl)) (Or.inl rfl) (fun h1 f1 c1 c2 => ⟨rfl, ?_⟩)
  have fz1 : mx_fz mx_sD h h1 := f1.z.to (fun a k q => by
    unfold mx_sx
    rw [mv_bne (fun c => by rw [c] at q; cases q), mv_bne (fun c => by rw [c] at q; cases q)]; rfl)
  have s83 : ∀ a, (a < 83 ∨ 84 < a) → ∀ k, mx_sx 83 a k = false := fun a ha k => by
    unfold mx_sx
    rw [mv_bne (by omega), mv_bne (by omega)]; rfl
  have i1 : InvC0 E h1 V := i.1.fz f1.z (fun a k q => s83 a (by omega) k)
  have iv1 : se_iv E h1 := i.2.fz f1.z (fun a k q => s83 a (by unfold cr_reg at q; omega) k)
  have b83 : i_st h1 83 (sp_was (vA V)) := by
    have nw := InvC.now i.1
    exact ⟨(c1 0 (by omega)).trans nw.1, (c1 1 (by omega)).trans nw.2.1, (c1 2 (by omega)).trans nw.2.2.1, fun p hp => (c2 p hp).trans (nw.2.2.2 p hp)⟩
  refine cc113 t i1 m ey (fun q => ⟨_, rfl, ?_⟩) (fun q => ⟨_, rfl, ?_⟩)
  · rw [if_pos (by rfl)]
    have H' := fun h' => H h'
    unfold v_turn at H'
    rw [if_pos q] at H'
    obtain ⟨p, hp, ex, hb⟩ := sp_why0 m.ok q
    have tl : sp_turn (vA V) x < 2 ^ sp_P (vA V) := by
      unfold sp_turn
      rw [ex, nI_clamp (by omega)]
      exact mx_xor_lt m.1.1.hold.2 hp
    have ip : i_past (mv_sI h1 81 0 (nI (sp_turn (vA V) x))) (vA V) := i1.1.2.2.sI (by omega)
    have b83' : i_st (mv_sI h1 81 0 (nI (sp_turn (vA V) x))) 83 (sp_was (vA V)) := b83.fz mx_fzat (fun k => rfl) (fun k => rfl)
    refine ct20 ip m.1.2.1 md (Or.inr rfl) b83' (fun h2 f2 g2 => ⟨rfl, ?_⟩)
    have fz2 : mx_fz mx_sD h h2 := fz1.tr ((mx_sD81 (by omega)).tr (mx_sPD f2))
    have e81 : mv_I h2 81 = mv_I (mv_sI h1 81 0 (nI (sp_turn (vA V) x))) 81 := f2.I 81 (fun k => mx_sPf (by omega))
    have e82 : mv_I h2 82 = mv_I h1 82 := f2.I 82 (fun k => mx_sPf (by omega))
    have nw1 := InvC.now i1
    have sn : sp_now (vA V) (mx_upA (vA V) 65 (nI (sp_turn (vA V) x))) := sp_now.up (by omega) (by omega)
    have nw2 : i_st h2 81 (fun j => mx_upA (vA V) 65 (nI (sp_turn (vA V) x)) (65 + j)) := by
      refine ⟨?_, ?_, ?_, fun p hp => ?_⟩
      · rw [e81, mx_Iss]; rfl
      · rw [e81, mx_Isk (by omega)]; exact nw1.2.1
      · rw [e81, mx_Isk (by omega)]; exact nw1.2.2.1
      · rw [e82]
        show _ = mx_upA (vA V) 65 _ (65 + (1 + p))
        unfold mx_upA
        rw [if_neg (by omega)]; exact nw1.2.2.2 p hp
    have i2 : InvC0 E h2 (vw_A V (sp_note (mx_upA (vA V) 65 (nI (sp_turn (vA V) x))) (sp_was (vA V)))) := InvC.fin i.1 m sn fz2 nw2 g2
    have iv2 : se_iv E h2 := (iv1.s81 (Or.inl rfl)).fz f2 (fun a k q => mx_sPsea q)
    have eV : V_turn V x t = vw_A V (sp_note (mx_upA (vA V) 65 (nI (sp_turn (vA V) x))) (sp_was (vA V))) := by unfold V_turn; rw [if_pos q]
    have m2 : InvM (V_turn V x t) := im_turn m
    rw [← eV] at i2
    have eP : sp_P (vA (V_turn V x t)) = sp_P (vA V) := by
      rw [eV]
      show sp_P (sp_note _ _) = _
      unfold sp_P
      rw [sp_note_65 (by rw [sn.d]; exact md) 1 (by omega), sn 1 (by omega)]
    refine cc108 (sp_turn (vA V) x) ⟨i2, iv2⟩ m2 (by rw [eP]; exact tl) ?_ (fun h3 i3 f3 => ⟨_, rfl, H' h3 (i3.C m2) ((mx_sDfC fz2).tr f3)⟩)
    rw [e81, mx_Iss]
  · have q3 : sp_why (vA V) x t < 3 := by
      unfold sp_why
      cases pn (vA V) x <;> cases ((sp_hold (vA V)).testBit x.toNatClampNeg == t) <;> decide
    rw [if_neg (nI_ne0 (by omega) (by omega))]
    have hH := H h1
    unfold v_turn V_turn at hH
    rw [if_neg q, if_neg q] at hH
    exact hH ⟨i1, iv1⟩ (mx_sDfC fz1)
theorem mx_233 {h : mv_H} {x y : Int32} (t : Bool) (ok : sp_ok (mv_I h 149)) (hh : mv_I h 149 65 = nI (sp_hold (mv_I h 149)) ∧ sp_hold (mv_I h 149) < 2 ^ sp_P (mv_I h 149)) (ey : y = nI t.toNat) : pf233 h x.toInt64 y = nI (sp_why (mv_I h 149) x t) := by
  subst ey
  have p2 := mx_p2 ok.2.1
  have p8 := ok.2.1
  unfold pf233 sp_why
  rw [pn210 ok]
  cases z : pn (mv_I h 149) x with
  | false => rfl
  | true =>
    obtain ⟨p, hp, rfl⟩ := pnT ok z
    have e : (nI p).toInt64.toInt32 = nI p := by rw [nI_l (by omega), lN_i]
    rw [e, hh.1, mx_isIn (by omega) (by omega), nI_clamp (n := p) (by omega), cond_true, cond_true]
    cases (sp_hold (mv_I h 149)).testBit p <;> cases t <;> rfl
theorem cm232 {E : mv_E} {D k n : Nat} {h0 h : mv_H} {Q : mv_Q} {V : vw} {x y : Int32} (t : Bool) (f : fM V h0 h) (m : InvM V) (ey : y = nI t.toNat) (H : ∀ h', fM (V_turn V x t) h0 h' → Q (some (.int (v_turn V x t))) h') : mv_VE E (D + 4) k n 232 0 [some (.ref 148), some (.int x), some (.int y), none] [] h Q := by
  have md := m.1.2.2.1
  have p8 := m.p8
  have p2 := m.p2
  have hh := m.1.1.hold
  have e1 : pf233 h x.toInt64 y = nI (sp_why (vA V) x t) := by
    rw [mx_233 t (by rw [f.A]; exact m.ok) (by rw [f.A]; exact hh) ey, f.A]
  have q3 : sp_why (vA V) x t < 3 := by
    unfold sp_why
    cases pn (vA V) x <;> cases ((sp_hold (vA V)).testBit x.toNatClampNeg == t) <;> decide
  apply sg232_0
  rw [e1]
  refine mx_eq (sp_why (vA V) x t) 0 (fun q => ?_) (fun q => ?_) (by omega) (by omega)
  · obtain ⟨p, hp, ex, hb⟩ := sp_why0 m.ok q
    have et : sp_turn (vA V) x = sp_hold (vA V) ^^^ 2 ^ p := by unfold sp_turn; rw [ex, nI_clamp (by omega)]
    have tl : sp_turn (vA V) x < 2 ^ sp_P (vA V) := by rw [et]; exact mx_xor_lt hh.2 hp
    refine cw227 f (fun h1 f1 g1 => ⟨rfl, ?_⟩)
    have s : sp_now (vA V) (mx_upA (vA V) 65 (nI (sp_turn (vA V) x))) := sp_now.up (by omega) (by omega)
    have ev : mv_I h1 149 65 ^^^ (1 <<< (x &&& 31)) = nI (sp_turn (vA V) x) := by
      rw [f1.A, hh.1, ex, mx_1shl (by omega), mx_xor, ← ex, et]
    rw [ev]
    refine cw230 (sp_was (vA V)) (f1.at (k := 65) (x := nI (sp_turn (vA V) x))) ?_ ?_ g1 (fun h2 f2 g2 => ⟨rfl, ?_⟩)
    · show mx_upA (vA V) 65 (nI (sp_turn (vA V) x)) 76 = nI (sp_d (mx_upA (vA V) 65 (nI (sp_turn (vA V) x))))
      rw [s.d, s 76 (by omega)]; exact m.1.2.1
    · show sp_d (mx_upA (vA V) 65 (nI (sp_turn (vA V) x))) ≤ 10
      rw [s.d]; exact md
    · have eV : V_turn V x t = vw_A V (sp_note (mx_upA (vA V) 65 (nI (sp_turn (vA V) x))) (sp_was (vA V))) := by unfold V_turn; rw [if_pos q]
      have f2' : fM (V_turn V x t) h0 h2 := by rw [eV]; exact f2
      have e65 : mv_I h2 149 65 = nI (sp_turn (vA V) x) := by rw [f2.A]; exact sp_note_hold md
      unfold v_turn at H
      rw [if_pos q] at H
      refine cw220 (sp_turn (vA V) x) f2' (im_turn m) (by omega) e65 (fun h3 f3 => ⟨_, rfl, ?_⟩)
      rw [mx_224]
      exact H h3 f3
  · unfold v_turn V_turn at H
    rw [if_neg q, if_neg q] at H
    exact H h f
theorem cc111 {E : mv_E} {D k n : Nat} {h : mv_H} {Q : mv_Q} {V : vw} {x : Int32} (i : InvC E h V) (m : InvM V) (H : ∀ h', InvC E h' (V_turn V x false) → fCl h h' → Q (some (.int (v_turn V x false))) h') : mv_VE E (D + 6) k n 111 0 [some (.ref 50), some (.int x)] [] h Q := by
  apply sg111_0
  exact cc112 false i m rfl (fun h' a b => ⟨_, rfl, H h' a b⟩)
theorem cc114 {E : mv_E} {D k n : Nat} {h : mv_H} {Q : mv_Q} {V : vw} {x : Int32} (i : InvC E h V) (m : InvM V) (H : ∀ h', InvC E h' (V_turn V x true) → fCl h h' → Q (some (.int (v_turn V x true))) h') : mv_VE E (D + 6) k n 114 0 [some (.ref 50), some (.int x)] [] h Q := by
  apply sg114_0
  exact cc112 true i m rfl (fun h' a b => ⟨_, rfl, H h' a b⟩)
theorem cm231 {E : mv_E} {D k n : Nat} {h : mv_H} {Q : mv_Q} {V : vw} {x : Int32} (e : vw_of h = V) (m : InvM V) (H : ∀ h', fM (V_turn V x false) h h' → Q (some (.int (v_turn V x false))) h') : mv_VE E (D + 5) k n 231 0 [some (.ref 148), some (.int x)] [] h Q := by
  apply sg231_0
  exact cm232 false (fM.of e) m rfl (fun h' a => ⟨_, rfl, H h' a⟩)
theorem cm234 {E : mv_E} {D k n : Nat} {h : mv_H} {Q : mv_Q} {V : vw} {x : Int32} (e : vw_of h = V) (m : InvM V) (H : ∀ h', fM (V_turn V x true) h h' → Q (some (.int (v_turn V x true))) h') : mv_VE E (D + 5) k n 234 0 [some (.ref 148), some (.int x)] [] h Q := by
  apply sg234_0
  exact cm232 true (fM.of e) m rfl (fun h' a => ⟨_, rfl, H h' a⟩)
