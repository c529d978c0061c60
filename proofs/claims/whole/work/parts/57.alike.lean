/-! Two rows alike in their first 1088 cells tell the same. -/
def sp_eq (A A' : Nat → Int32) : Prop := ∀ k, k < 1088 → A' k = A k
theorem sp_eq.P {A A' : Nat → Int32} (s : sp_eq A A') : sp_P A' = sp_P A := by unfold sp_P; rw [s 1 (by omega)]
theorem sp_cks_cg {l : Nat} {C C' : Nat → Nat} : ∀ i, (∀ q, q < i → C' q = C q) → sp_cks l C' i = sp_cks l C i
  | 0, _ => rfl
  | i + 1, h => by
    show (sp_cks l C' i).bind (sp_ck l (C' i)) = (sp_cks l C i).bind (sp_ck l (C i))
    rw [sp_cks_cg i (fun q hq => h q (by omega)), h i (by omega)]
theorem sp_lw.ce {A A' : Nat → Int32} {l : Nat} (hl : l < 2) (s : sp_eq A A') (o : sp_lw A l) : sp_lw A' l := by
  have eF : sp_F A' l = sp_F A l := by unfold sp_F; rw [s (5 + l) (by omega)]
  have eN : sp_N A' l = sp_N A l := by unfold sp_N; rw [s (7 + l) (by omega)]
  unfold sp_lw
  rw [s (3 + l) (by omega), s (5 + l) (by omega), s (7 + l) (by omega), eF, eN]
  rcases o with o | ⟨p1, p2, p3, p4, p5, p6⟩
  · exact Or.inl o
  · have eC : ∀ i, i < sp_N A l → sp_C A' l i = sp_C A l i := fun i hi => by unfold sp_C; rw [eF, s _ (by omega)]
    exact Or.inr ⟨p1, p2, p3, p4, fun i hi => by rw [eC i hi, s _ (by omega)]; exact p5 i hi, by rw [sp_cks_cg _ eC]; exact p6⟩
theorem sp_ok.ce {A A' : Nat → Int32} (s : sp_eq A A') (ok : sp_ok A) : sp_ok A' := by
  obtain ⟨o1, o2, o3, o4, o5⟩ := ok
  refine ⟨?_, ?_, ?_, o4.ce (by omega) s, o5.ce (by omega) s⟩
  · rw [s.P, s 1 (by omega)]; exact o1
  · rw [s.P]; exact o2
  · intro q hq
    rw [s.P] at hq ⊢
    have : sp_B A' q = sp_B A q := by unfold sp_B; rw [s (25 + q) (by omega)]
    rw [this, s (25 + q) (by omega)]
    exact o3 q hq
theorem cr_ok.ce {E : mv_E} {h : mv_H} {r : Nat} {A A' : Nat → Int32} (s : sp_eq A A') (ok : sp_ok A) (c : cr_ok E h r A) : cr_ok E h r A' := by
  obtain ⟨c1, ⟨v0, v1, v2, v3, v4, v5, v6, v7⟩, l0, l1⟩ := c
  have hl : ∀ l, l < 2 → sp_lw A l → cr_law E h r A l → cr_law E h r A' l := by
    intro l hl o ⟨L, a1, a2, a3, a4⟩
    refine ⟨L, a1, a2, a3, ?_⟩
    have eF : sp_F A' l = sp_F A l := by unfold sp_F; rw [s (5 + l) (by omega)]
    have eN : sp_N A' l = sp_N A l := by unfold sp_N; rw [s (7 + l) (by omega)]
    rw [s (3 + l) (by omega), eN]
    rcases a4 with a4 | ⟨a4, a5, a6⟩
    · exact Or.inl a4
    · rcases o with o | ⟨p1, p2, p3, p4, p5, p6⟩
      · rw [o] at a4; exact absurd a4 (by decide)
      · refine Or.inr ⟨a4, a5, fun i hi => ?_⟩
        have eC : sp_C A' l i = sp_C A l i := by unfold sp_C; rw [eF, s _ (by omega)]
        rw [eC]; exact a6 i hi
  refine ⟨c1, ⟨?_, ?_, ?_, ?_, ?_, ?_, ?_, ?_⟩, hl 0 (by omega) ok.2.2.2.1 l0, hl 1 (by omega) ok.2.2.2.2 l1⟩
  · rw [s 1 (by omega)]; exact v0
  · rw [s 2 (by omega)]; exact v1
  · rw [s 0 (by omega)]; exact v2
  · intro p hp; rw [s _ (by omega)]; exact v3 p hp
  · intro p hp; rw [s _ (by omega)]; exact v4 p hp
  · intro p hp; rw [s _ (by omega)]; exact v5 p hp
  · intro p hp; rw [s _ (by omega)]; exact v6 p hp
  · intro p hp; rw [s _ (by omega)]; exact v7 p hp
theorem m_ok.ce {A A' : Nat → Int32} (s : sp_eq A A') (m : m_ok A) : m_ok A' := by
  obtain ⟨m1, m2, m3, m4⟩ := m
  have h8 := m1.2.1
  refine ⟨m1.ce s, ?_, fun p hp => ?_, fun k hk => by rw [s _ (by omega)]; exact m4 k hk⟩
  · rw [s.P]; exact m2.cg h8 (fun j hj => s _ (by omega))
  · rw [s.P] at hp ⊢
    have e : sp_Qr A' p = sp_Qr A p := by unfold sp_Qr; rw [s (33 + p) (by omega)]
    rw [e, s (9 + p) (by omega), s (17 + p) (by omega), s (33 + p) (by omega)]
    exact m3 p hp
theorem m_past.ce {A A' : Nat → Int32} (s : sp_eq A A') (h8 : sp_P A ≤ 8) (m : m_past A) : m_past A' := m.cg s.P h8 (fun k h1 h2 => s k (by omega))
theorem sp_gp_ce {A A' : Nat → Int32} (s : sp_eq A A') (h8 : sp_P A ≤ 8) : ∀ f p t n st, p ≤ sp_P A → sp_gp A' f p t n st = sp_gp A f p t n st := by
  intro f
  induction f with
  | zero => intro p t n st _; rfl
  | succ f ih =>
    intro p t n st hp
    unfold sp_gp
    rw [s.P]
    by_cases q : st.1 ≤ n
    · rw [if_pos q, if_pos q]
    · rw [if_neg q, if_neg q]
      by_cases r : p = sp_P A
      · rw [if_pos r, if_pos r]
      · rw [if_neg r, if_neg r]
        refine mx_fold_cg _ (fun i hi x => ?_)
        rw [ih _ _ _ _ (by omega)]
        have : sp_more A' (mx_upN x.2.2 p i) p i = sp_more A (mx_upN x.2.2 p i) p i := by
          unfold sp_more sp_Qr sp_B
          rw [s (33 + p) (by omega), s (25 + i) (by omega)]
        rw [this]
theorem i_raft.ce {E : mv_E} {h : mv_H} {r : Nat} {A A' : Nat → Int32} (s : sp_eq A A') (ok : sp_ok A) (i : i_raft E h r A) : i_raft E h r A' := by
  refine ⟨i.1.ce s ok, ?_⟩
  have e : sp_plc A' = sp_plc A := sp_gp_ce s ok.2.1 _ _ _ _ _ (Nat.zero_le _)
  have q := i.2
  unfold i_pc at q ⊢
  rw [e, s.P]
  exact q
theorem i_past.ce {h : mv_H} {A A' : Nat → Int32} (s : sp_eq A A') (i : i_past h A) : i_past h A' := i.cg (fun k h1 h2 => s k (by omega))
