/-! What holds between calls: the model's view, well made; the class tells the same. -/
abbrev vw : Type := (Nat → Int32) × (Nat → Int32) × (Nat → Int32) × Int32 × Int32 × Int32 × (Nat → Int32) × (Nat → Int32) × (Nat → Int64)
def vw_of (h : mv_H) : vw := (mv_I h 149, mv_I h 150, mv_I h 151, mv_I h 148 5, mv_I h 148 13, mv_I h 148 14, mv_I h 162, mv_I h 163, mv_J h 164)
abbrev vA (V : vw) : Nat → Int32 := V.1
abbrev vHi (V : vw) : Nat → Int32 := V.2.1
abbrev vTp (V : vw) : Nat → Int32 := V.2.2.1
abbrev vTd (V : vw) : Int32 := V.2.2.2.1
abbrev vFk (V : vw) : Int32 := V.2.2.2.2.1
abbrev vFp (V : vw) : Int32 := V.2.2.2.2.2.1
abbrev vRs (V : vw) : Nat → Int32 := V.2.2.2.2.2.2.1
abbrev vRm (V : vw) : Nat → Int32 := V.2.2.2.2.2.2.2.1
abbrev vNu (V : vw) : Nat → Int64 := V.2.2.2.2.2.2.2.2
/-- the same view with another A -/
def vw_A (V : vw) (A : Nat → Int32) : vw := (A, V.2)
def sp_im (A : Nat → Int32) (i : Nat) : Nat → Int32 := fun k => A (1088 * (i + 1) + k)
def sp_Qr (A : Nat → Int32) (q : Nat) : Nat := (A (33 + q)).toNatClampNeg
def sp_d (A : Nat → Int32) : Nat := (A 76).toNatClampNeg
def sp_hold (A : Nat → Int32) : Nat := (A 65).toNatClampNeg
def mx_upN (f : Nat → Nat) (k x : Nat) : Nat → Nat := fun j => if j = k then x else f j
/-- quarrels that one more brings -/
def sp_more (A : Nat → Int32) (pl : Nat → Nat) (p place : Nat) : Nat := mx_fold (fun q a => a + ((sp_Qr A p).testBit q && (sp_B A place).testBit (pl q)).toNat) 0 p
def sp_gp (A : Nat → Int32) : Nat → Nat → Nat → Nat → Nat × (Nat → Nat) × (Nat → Nat) → Nat × (Nat → Nat) × (Nat → Nat)
  | 0, _, _, _, st => st
  | f + 1, p, taken, n, st => if st.1 ≤ n then st else if p = sp_P A then (n, st.2.2, st.2.2) else
    mx_fold (fun pl st => cond (taken.testBit pl) st (sp_gp A f (p + 1) (taken ||| 2 ^ pl) (n + sp_more A (mx_upN st.2.2 p pl) p pl) (st.1, st.2.1, mx_upN st.2.2 p pl))) st (sp_P A)
def sp_plc (A : Nat → Int32) : Nat × (Nat → Nat) × (Nat → Nat) := sp_gp A 9 0 0 0 (99, fun _ => 0, fun _ => 0)
/-- a state's row of eleven, well made for P people -/
def m_st (P : Nat) (f : Nat → Int32) : Prop := f 0 = nI (f 0).toNatClampNeg ∧ (f 0).toNatClampNeg < 2 ^ P ∧ (∀ p, p < P → sp_dg (f (1 + p))) ∧ sp_dg (f 9)
def m_ok (A : Nat → Int32) : Prop := sp_ok A ∧ m_st (sp_P A) (fun j => A (65 + j)) ∧ (∀ p, p < sp_P A → sp_dg (A (9 + p)) ∧ sp_dg (A (17 + p)) ∧ A (33 + p) = nI (sp_Qr A p) ∧ sp_Qr A p < 2 ^ sp_P A) ∧ ∀ k, k < 24 → sp_dg (A (41 + k))
def m_past (A : Nat → Int32) : Prop := A 76 = nI (sp_d A) ∧ sp_d A ≤ 10 ∧ ∀ i, i < sp_d A → m_st (sp_P A) (fun j => A (77 + 11 * i + j))
def m_img (A : Nat → Int32) (hi : Nat → Int32) (i : Nat) : Prop := hi i = 0 ∨ (hi i = 1 ∧ m_ok (sp_im A i))
def m_tray (rs rm : Nat → Int32) (t : Nat) : Prop := rs t = -1 ∨ ∃ so m, so < 4 ∧ m ≤ 40 ∧ rs t = nI so ∧ rm t = nI m
def m_tape (tp : Nat → Int32) (td : Int32) : Prop := ∃ t, t ≤ 900 ∧ td = nI t ∧ ∀ j, j < t → ∃ b, b < 256 ∧ tp j = nI b
def InvM (V : vw) : Prop := (m_ok (vA V) ∧ m_past (vA V)) ∧ (m_img (vA V) (vHi V) 0 ∧ m_img (vA V) (vHi V) 1) ∧ (∀ t, t < 4 → m_tray (vRs V) (vRm V) t) ∧ m_tape (vTp V) (vTd V)
theorem m_ok.vb {A : Nat → Int32} (m : m_ok A) : sp_vb A := by
  refine ⟨fun p hp => ⟨?_, (m.2.2.1 p hp).1⟩, m.2.1.2.2.2⟩
  have := m.2.1.2.2.1 p hp
  rw [show 66 + p = 65 + (1 + p) by omega]
  exact this
theorem m_ok.hold {A : Nat → Int32} (m : m_ok A) : A 65 = nI (sp_hold A) ∧ sp_hold A < 2 ^ sp_P A := ⟨m.2.1.1, m.2.1.2.1⟩
def i_st (h : mv_H) (x : Nat) (f : Nat → Int32) : Prop := mv_I h x 0 = f 0 ∧ mv_I h x 1 = f 9 ∧ mv_I h x 2 = f 10 ∧ ∀ p, p < 8 → mv_I h (x + 1) p = f (1 + p)
def i_pc (h : mv_H) (r : Nat) (A : Nat → Int32) : Prop := mv_I h r 13 = 0 ∨ (mv_I h r 13 = 1 ∧ mv_I h r 14 = nI (sp_plc A).1 ∧ ∀ p, p < sp_P A → mv_I h (r + 9) p = nI ((sp_plc A).2.1 p))
def i_raft (E : mv_E) (h : mv_H) (r : Nat) (A : Nat → Int32) : Prop := cr_ok E h r A ∧ i_pc h r A
def i_past (h : mv_H) (A : Nat → Int32) : Prop := mv_I h 109 1 = A 76 ∧ (∀ i, i < 10 → ∃ j, j < 10 ∧ mv_R h 110 i = 111 + 2 * j) ∧ (∀ i j, i < 10 → j < 10 → mv_R h 110 i = mv_R h 110 j → i = j) ∧ ∀ i, i < 10 → i < sp_d A → i_st h (mv_R h 110 i) (fun j => A (77 + 11 * i + j))
def i_img (E : mv_E) (h : mv_H) (A hi : Nat → Int32) (i : Nat) : Prop := (hi i = 0 ∧ mv_R h 132 i = 0) ∨ (hi i = 1 ∧ i_raft E h (mv_R h 132 i) (sp_im A i) ∧ i_st h (144 + 2 * i) (fun j => sp_im A i (65 + j)))
def i_tray (h : mv_H) (rs rm : Nat → Int32) (nu : Nat → Int64) (t : Nat) : Prop := (rs t = -1 ∧ mv_I h (136 + 2 * t) 2 = -1) ∨ ∃ so m, so < 4 ∧ m ≤ 40 ∧ rs t = nI so ∧ mv_I h (136 + 2 * t) 1 = nI so ∧ rm t = nI m ∧ mv_I h (136 + 2 * t) 2 = nI m ∧ ∀ k, k < m → mv_J h (137 + 2 * t) k = nu (40 * t + k)
def i_tape (h : mv_H) (tp : Nat → Int32) (td : Int32) : Prop := mv_I h 50 1 = td ∧ ∀ j, j < td.toNatClampNeg → mv_I h 51 j = (tp j).toInt8.toInt32
def i_ways (h : mv_H) : Prop := (mv_R h 50 14 = 134 ∧ mv_R h 50 15 = 135) ∨ (mv_R h 50 14 = 135 ∧ mv_R h 50 15 = 134)
def InvC0 (E : mv_E) (h : mv_H) (V : vw) : Prop := (i_raft E h (mv_R h 50 3) (vA V) ∧ i_st h 81 (fun j => vA V (65 + j)) ∧ i_past h (vA V)) ∧ (i_img E h (vA V) (vHi V) 0 ∧ i_img E h (vA V) (vHi V) 1) ∧ (∀ t, t < 4 → i_tray h (vRs V) (vRm V) (vNu V) t) ∧ i_tape h (vTp V) (vTd V) ∧ (mv_I h 52 4 = vFk V ∧ mv_I h 52 5 = vFp V) ∧ i_ways h
def InvC (E : mv_E) (h : mv_H) (V : vw) : Prop := InvC0 E h V ∧ se_iv E h
/-- the cells of the class that no call leaves anything in: before, trial, Sea, Turns, tried, ways, drawn -/
def mx_sC (a k : Nat) : Bool := (Nat.ble 83 a && Nat.ble a 96) || (Nat.beq a 108 || (Nat.beq a 134 || (Nat.beq a 135 || (Nat.beq a 50 && Nat.beq k 16))))
theorem mx_sCf {a k : Nat} (h : (a < 83 ∨ 96 < a) ∧ a ≠ 108 ∧ a ≠ 134 ∧ a ≠ 135 ∧ (a ≠ 50 ∨ k ≠ 16)) : mx_sC a k = false := by
  obtain ⟨h1, h2, h3, h4, h5⟩ := h
  unfold mx_sC
  rw [mv_bne h2, mv_bne h3, mv_bne h4]
  have e1 : (Nat.ble 83 a && Nat.ble a 96) = false := by
    cases z : Nat.ble 83 a with
    | false => rfl
    | true =>
      cases z2 : Nat.ble a 96 with
      | false => rfl
      | true =>
        have := Nat.le_of_ble_eq_true z
        have := Nat.le_of_ble_eq_true z2
        omega
  have e2 : (Nat.beq a 50 && Nat.beq k 16) = false := by
    rcases h5 with h5 | h5
    · rw [mv_bne h5]; rfl
    · rw [mv_bne h5, Bool.and_false]
  rw [e1, e2]; rfl
theorem i_st.fz {S : Nat → Nat → Bool} {h h' : mv_H} {x : Nat} {f : Nat → Int32} (z : mx_fz S h h') (h1 : ∀ k, S x k = false) (h2 : ∀ k, S (x + 1) k = false) (i : i_st h x f) : i_st h' x f := by
  unfold i_st
  rw [z.I x h1, z.I (x + 1) h2]
  exact i
theorem i_pc.fz {S : Nat → Nat → Bool} {h h' : mv_H} {r : Nat} {A : Nat → Int32} (z : mx_fz S h h') (h1 : ∀ k, S r k = false) (h2 : ∀ k, S (r + 9) k = false) (i : i_pc h r A) : i_pc h' r A := by
  unfold i_pc
  rw [z.I r h1, z.I (r + 9) h2]
  exact i
theorem i_raft.fz {S : Nat → Nat → Bool} {E : mv_E} {h h' : mv_H} {r : Nat} {A : Nat → Int32} (z : mx_fz S h h') (hS : ∀ a k, cr_reg a → S a k = false) (i : i_raft E h r A) : i_raft E h' r A :=
  ⟨i.1.fz z hS, i.2.fz z (fun k => hS r k (by have := i.1.1.1; unfold cr_ad at this; unfold cr_reg; omega)) (fun k => hS _ k (by have := i.1.1.1; unfold cr_ad at this; unfold cr_reg; omega))⟩
/-- what keeps off the class's lasting cells keeps what it tells -/
theorem InvC0.fz {S : Nat → Nat → Bool} {E : mv_E} {h h' : mv_H} {V : vw} (z : mx_fz S h h') (hS : ∀ a k, ((a < 83 ∨ 96 < a) ∧ a ≠ 108 ∧ a ≠ 134 ∧ a ≠ 135 ∧ (a < 148 ∨ 165 ≤ a) ∧ (a ≠ 50 ∨ k ≠ 16)) → S a k = false) (i : InvC0 E h V) : InvC0 E h' V := by
  have hr : ∀ a k, cr_reg a → S a k = false := fun a k q => hS a k (by unfold cr_reg at q; omega)
  obtain ⟨⟨i1, i2, i3⟩, ⟨i4, i5⟩, i6, i7, i8, i9⟩ := i
  have R50 : ∀ k, k ≠ 16 → mv_R h' 50 k = mv_R h 50 k := fun k hk => (z.2.2 50 k (hS 50 k (by omega))).2.2
  have R110 : mv_R h' 110 = mv_R h 110 := z.Rr 110 (fun k => hS 110 k (by omega))
  have R132 : mv_R h' 132 = mv_R h 132 := z.Rr 132 (fun k => hS 132 k (by omega))
  have im : ∀ j, j < 2 → i_img E h (vA V) (vHi V) j → i_img E h' (vA V) (vHi V) j := by
    intro j hj q
    unfold i_img
    rw [R132]
    rcases q with q | ⟨q1, q2, q3⟩
    · exact Or.inl q
    · exact Or.inr ⟨q1, q2.fz z hr, q3.fz z (fun k => hS _ k (by omega)) (fun k => hS _ k (by omega))⟩
  refine ⟨⟨?_, ?_, ?_⟩, ⟨im 0 (by omega) i4, im 1 (by omega) i5⟩, ?_, ?_, ?_, ?_⟩
  · rw [R50 3 (by omega)]; exact i1.fz z hr
  · exact i2.fz z (fun k => hS _ k (by omega)) (fun k => hS _ k (by omega))
  · unfold i_past
    rw [R110, z.I 109 (fun k => hS _ k (by omega))]
    refine ⟨i3.1, i3.2.1, i3.2.2.1, fun i c hi => ?_⟩
    obtain ⟨j, hj, e⟩ := i3.2.1 i c
    exact (i3.2.2.2 i c hi).fz z (fun k => hS _ k (by omega)) (fun k => hS _ k (by omega))
  · intro t ht
    have e1 := z.I (136 + 2 * t) (fun k => hS _ k (by omega))
    have e2 : ∀ k, mv_J h' (137 + 2 * t) k = mv_J h (137 + 2 * t) k := fun k => (z.2.2 _ k (hS _ k (by omega))).2.1
    have q := i6 t ht
    unfold i_tray at q ⊢
    rw [e1]
    rcases q with q | ⟨so, m, q1, q2, q3, q4, q5, q6, q7⟩
    · exact Or.inl q
    · exact Or.inr ⟨so, m, q1, q2, q3, q4, q5, q6, fun k hk => by rw [e2]; exact q7 k hk⟩
  · unfold i_tape
    rw [(z.2.2 50 1 (hS 50 1 (by omega))).1, z.I 51 (fun k => hS _ k (by omega))]
    exact i7
  · rw [z.I 52 (fun k => hS _ k (by omega))]; exact i8
  · unfold i_ways
    rw [R50 14 (by omega), R50 15 (by omega)]; exact i9
