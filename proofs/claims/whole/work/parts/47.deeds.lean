/-! What a deed changes: the state now, the past. -/
theorem mx_fold_cg {α : Type} {f g : Nat → α → α} {a : α} : ∀ N, (∀ i, i < N → ∀ x, f i x = g i x) → mx_fold f a N = mx_fold g a N
  | 0, _ => rfl
  | N + 1, h => by
    show f N (mx_fold f a N) = g N (mx_fold g a N)
    rw [mx_fold_cg N (fun i hi => h i (by omega)), h N (by omega)]
/-- A' is A but for the state now and the past -/
def sp_st65 (A A' : Nat → Int32) : Prop := ∀ k, k < 65 ∨ 187 ≤ k → A' k = A k
theorem sp_st65.P {A A' : Nat → Int32} (s : sp_st65 A A') : sp_P A' = sp_P A := by unfold sp_P; rw [s 1 (by omega)]
theorem sp_gp_cg {A A' : Nat → Int32} (s : sp_st65 A A') (h8 : sp_P A ≤ 8) : ∀ f p t n st, p ≤ sp_P A → sp_gp A' f p t n st = sp_gp A f p t n st := by
  intro f
  induction f with
  | zero => intro p t n st _; rfl
  | succ f ih =>
    intro p t n st hp
    unfold sp_gp
    rw [s.P]
    by_cases q : st.1 ≤ n
    · rw [if_pos q, if_pos q]
    · rw [if_neg q, if_neg q]
      by_cases r : p = sp_P A
      · rw [if_pos r, if_pos r]
      · rw [if_neg r, if_neg r]
        refine mx_fold_cg _ (fun i hi x => ?_)
        rw [ih _ _ _ _ (by omega)]
        have : sp_more A' (mx_upN x.2.2 p i) p i = sp_more A (mx_upN x.2.2 p i) p i := by
          unfold sp_more sp_Qr sp_B
          rw [s (33 + p) (by omega), s (25 + i) (by omega)]
        rw [this]
theorem cr_ok.cg {E : mv_E} {h : mv_H} {r : Nat} {A A' : Nat → Int32} (s : sp_st65 A A') (ok : sp_ok A) (c : cr_ok E h r A) : cr_ok E h r A' := by
  obtain ⟨c1, ⟨v0, v1, v2, v3, v4, v5, v6, v7⟩, l0, l1⟩ := c
  have hl : ∀ l, l < 2 → sp_lw A l → cr_law E h r A l → cr_law E h r A' l := by
    intro l hl o ⟨L, a1, a2, a3, a4⟩
    refine ⟨L, a1, a2, a3, ?_⟩
    have eF : sp_F A' l = sp_F A l := by unfold sp_F; rw [s (5 + l) (by omega)]
    have eN : sp_N A' l = sp_N A l := by unfold sp_N; rw [s (7 + l) (by omega)]
    have eC : ∀ i, sp_C A' l i = sp_C A l i := fun i => by unfold sp_C; rw [eF, s _ (by omega)]
    rw [s (3 + l) (by omega), eN]
    rcases a4 with a4 | ⟨a4, a5, a6⟩
    · exact Or.inl a4
    · exact Or.inr ⟨a4, a5, fun i hi => by rw [eC]; exact a6 i hi⟩
  refine ⟨c1, ⟨?_, ?_, ?_, ?_, ?_, ?_, ?_, ?_⟩, hl 0 (by omega) ok.2.2.2.1 l0, hl 1 (by omega) ok.2.2.2.2 l1⟩
  · rw [s 1 (by omega)]; exact v0
  · rw [s 2 (by omega)]; exact v1
  · rw [s 0 (by omega)]; exact v2
  · intro p hp; rw [s _ (by omega)]; exact v3 p hp
  · intro p hp; rw [s _ (by omega)]; exact v4 p hp
  · intro p hp; rw [s _ (by omega)]; exact v5 p hp
  · intro p hp; rw [s _ (by omega)]; exact v6 p hp
  · intro p hp; rw [s _ (by omega)]; exact v7 p hp
theorem sp_ok.cg {A A' : Nat → Int32} (s : sp_st65 A A') (ok : sp_ok A) : sp_ok A' := by
  obtain ⟨o1, o2, o3, o4, o5⟩ := ok
  have hl : ∀ l, l < 2 → sp_lw A l → sp_lw A' l := by
    intro l hl o
    have eF : sp_F A' l = sp_F A l := by unfold sp_F; rw [s (5 + l) (by omega)]
    have eN : sp_N A' l = sp_N A l := by unfold sp_N; rw [s (7 + l) (by omega)]
    have eC : sp_C A' l = sp_C A l := funext fun i => by unfold sp_C; rw [eF, s _ (by omega)]
    unfold sp_lw
    rw [s (3 + l) (by omega), s (5 + l) (by omega), s (7 + l) (by omega), eF, eN, eC]
    rcases o with o | ⟨p1, p2, p3, p4, p5, p6⟩
    · exact Or.inl o
    · exact Or.inr ⟨p1, p2, p3, p4, fun i hi => by rw [s _ (by omega)]; exact p5 i hi, p6⟩
  refine ⟨?_, ?_, ?_, hl 0 (by omega) o4, hl 1 (by omega) o5⟩
  · rw [s.P, s 1 (by omega)]; exact o1
  · rw [s.P]; exact o2
  · intro q hq
    rw [s.P] at hq ⊢
    have : sp_B A' q = sp_B A q := by unfold sp_B; rw [s (25 + q) (by omega)]
    rw [this, s (25 + q) (by omega)]
    exact o3 q hq
theorem sp_im_cg {A A' : Nat → Int32} (s : sp_st65 A A') (i : Nat) : sp_im A' i = sp_im A i := funext fun k => s _ (by omega)
theorem InvM.deed {V : vw} {A' : Nat → Int32} (m : InvM V) (s : sp_st65 (vA V) A') (h1 : m_st (sp_P (vA V)) (fun j => A' (65 + j))) (h2 : m_past A') : InvM (vw_A V A') := by
  obtain ⟨⟨⟨m1, m2, m3, m4⟩, -⟩, ⟨m5, m6⟩, m7, m8⟩ := m
  have h8 := m1.2.1
  refine ⟨⟨⟨m1.cg s, ?_, ?_, ?_⟩, h2⟩, ⟨?_, ?_⟩, m7, m8⟩
  · show m_st (sp_P A') _
    rw [s.P]; exact h1
  · intro p hp
    have hp : p < sp_P A' := hp
    rw [s.P] at hp
    have e : sp_Qr A' p = sp_Qr (vA V) p := by unfold sp_Qr; rw [s (33 + p) (by omega)]
    show sp_dg (A' (9 + p)) ∧ sp_dg (A' (17 + p)) ∧ A' (33 + p) = nI (sp_Qr A' p) ∧ sp_Qr A' p < 2 ^ sp_P A'
    rw [s.P, e, s (9 + p) (by omega), s (17 + p) (by omega), s (33 + p) (by omega)]
    exact m3 p hp
  · intro k hk
    show sp_dg (A' (41 + k))
    rw [s (41 + k) (by omega)]; exact m4 k hk
  · show m_img A' (vHi V) 0
    unfold m_img
    rw [sp_im_cg s]; exact m5
  · show m_img A' (vHi V) 1
    unfold m_img
    rw [sp_im_cg s]; exact m6
/-- cells that deeds may write -/
def mx_sD (a k : Nat) : Bool := (Nat.ble 81 a && Nat.ble a 96) || (Nat.beq a 108 || ((Nat.ble 109 a && Nat.ble a 130) || (Nat.beq a 134 || (Nat.beq a 135 || (Nat.beq a 50 && Nat.beq k 16)))))
theorem mx_sDf {a k : Nat} (h : (a < 81 ∨ 96 < a) ∧ (a < 108 ∨ 130 < a) ∧ a ≠ 134 ∧ a ≠ 135 ∧ (a ≠ 50 ∨ k ≠ 16)) : mx_sD a k = false := by
  obtain ⟨h1, h2, h3, h4, h5⟩ := h
  have bl : ∀ x y, (a < x ∨ y < a) → (Nat.ble x a && Nat.ble a y) = false := by
    intro x y q
    cases z : Nat.ble x a with
    | false => rfl
    | true =>
      cases z2 : Nat.ble a y with
      | false => rfl
      | true =>
        have := Nat.le_of_ble_eq_true z
        have := Nat.le_of_ble_eq_true z2
        omega
  unfold mx_sD
  rw [bl 81 96 h1, bl 109 130 (by omega), mv_bne (show a ≠ 108 by omega), mv_bne h3, mv_bne h4]
  have e2 : (Nat.beq a 50 && Nat.beq k 16) = false := by
    rcases h5 with h5 | h5
    · rw [mv_bne h5]; rfl
    · rw [mv_bne h5, Bool.and_false]
  rw [e2]; rfl
theorem InvC0.deed {S : Nat → Nat → Bool} {E : mv_E} {h h' : mv_H} {V : vw} {A' : Nat → Int32} (i : InvC0 E h V) (m : InvM V) (z : mx_fz S h h') (hS : ∀ a k, ((a < 81 ∨ 96 < a) ∧ (a < 108 ∨ 130 < a) ∧ a ≠ 134 ∧ a ≠ 135 ∧ (a < 148 ∨ 165 ≤ a) ∧ (a ≠ 50 ∨ k ≠ 16)) → S a k = false) (s : sp_st65 (vA V) A') (h1 : i_st h' 81 (fun j => A' (65 + j))) (h2 : i_past h' A') : InvC0 E h' (vw_A V A') := by
  have hr : ∀ a k, cr_reg a → S a k = false := fun a k q => hS a k (by unfold cr_reg at q; omega)
  have ok := m.1.1.1
  obtain ⟨⟨i1, i2, i3⟩, ⟨i4, i5⟩, i6, i7, i8, i9⟩ := i
  have R50 : ∀ k, k ≠ 16 → mv_R h' 50 k = mv_R h 50 k := fun k hk => (z.2.2 50 k (hS 50 k (by omega))).2.2
  have R132 : mv_R h' 132 = mv_R h 132 := z.Rr 132 (fun k => hS 132 k (by omega))
  have im : ∀ j, j < 2 → i_img E h (vA V) (vHi V) j → i_img E h' A' (vHi V) j := by
    intro j hj q
    unfold i_img
    rw [R132, sp_im_cg s]
    rcases q with q | ⟨q1, q2, q3⟩
    · exact Or.inl q
    · exact Or.inr ⟨q1, q2.fz z hr, q3.fz z (fun k => hS _ k (by omega)) (fun k => hS _ k (by omega))⟩
  refine ⟨⟨?_, h1, h2⟩, ⟨im 0 (by omega) i4, im 1 (by omega) i5⟩, ?_, ?_, ?_, ?_⟩
  · rw [R50 3 (by omega)]
    have i1' := i1.fz z hr
    refine ⟨i1'.1.cg s ok, ?_⟩
    have e : sp_plc A' = sp_plc (vA V) := sp_gp_cg s ok.2.1 _ _ _ _ _ (Nat.zero_le _)
    have q := i1'.2
    unfold i_pc at q ⊢
    show _ ∨ _
    rw [show vA (vw_A V A') = A' from rfl, e, s.P]
    exact q
  · intro t ht
    have e1 := z.I (136 + 2 * t) (fun k => hS _ k (by omega))
    have e2 : ∀ k, mv_J h' (137 + 2 * t) k = mv_J h (137 + 2 * t) k := fun k => (z.2.2 _ k (hS _ k (by omega))).2.1
    have q := i6 t ht
    unfold i_tray at q ⊢
    rw [e1]
    rcases q with q | ⟨so, m, q1, q2, q3, q4, q5, q6, q7⟩
    · exact Or.inl q
    · exact Or.inr ⟨so, m, q1, q2, q3, q4, q5, q6, fun k hk => by rw [e2]; exact q7 k hk⟩
  · unfold i_tape
    rw [(z.2.2 50 1 (hS 50 1 (by omega))).1, z.I 51 (fun k => hS _ k (by omega))]
    exact i7
  · rw [z.I 52 (fun k => hS _ k (by omega))]; exact i8
  · unfold i_ways
    rw [R50 14 (by omega), R50 15 (by omega)]; exact i9
