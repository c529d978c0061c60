/-! Call: placing by the class. -/
def mx_sPl (r a k : Nat) : Bool := Nat.beq a 108 || (Nat.beq a 97 || ((Nat.beq a r && (Nat.beq k 13 || Nat.beq k 14)) || Nat.beq a (r + 9)))
theorem mx_sPlf {r a k : Nat} (h : a ≠ 108 ∧ a ≠ 97 ∧ (a ≠ r ∨ (k ≠ 13 ∧ k ≠ 14)) ∧ a ≠ r + 9) : mx_sPl r a k = false := by
  obtain ⟨h1, h2, h3, h4⟩ := h
  unfold mx_sPl
  rw [mv_bne h1, mv_bne h2, mv_bne h4]
  rcases h3 with c | c
  · rw [mv_bne c]; rfl
  · rw [mv_bne c.1, mv_bne c.2]; cases Nat.beq a r <;> rfl
theorem mx_sPlt {r a k : Nat} (h : a = 108 ∨ a = 97 ∨ (a = r ∧ (k = 13 ∨ k = 14)) ∨ a = r + 9) : mx_sPl r a k = true := by
  unfold mx_sPl
  rcases h with h | h | ⟨h, c⟩ | h
  · rw [h]; rfl
  · rw [h]; rfl
  · rw [h, mv_beq]
    rcases c with c | c <;> rw [c]
    · cases Nat.beq r 108 <;> cases Nat.beq r 97 <;> rfl
    · cases Nat.beq r 108 <;> cases Nat.beq r 97 <;> rfl
  · rw [h, mv_beq (r + 9), Bool.or_true, Bool.or_true, Bool.or_true]
theorem cr_sh.k20 {E : mv_E} {h : mv_H} {r : Nat} (s : cr_sh E h r) (i : Nat) (h1 : 1 ≤ i) (h9 : i ≤ 9) : (mv_KE E h (r + i)).1 = 20 := by
  obtain ⟨-, -, s1, s2, s3, s4, s5, s6, s9, s7, -⟩ := s
  rcases (by omega : i = 1 ∨ i = 2 ∨ i = 3 ∨ i = 4 ∨ i = 5 ∨ i = 6 ∨ i = 7 ∨ i = 8 ∨ i = 9) with rfl | rfl | rfl | rfl | rfl | rfl | rfl | rfl | rfl
  · rw [s1.2]
  · rw [s2.2]
  · rw [s3.2]
  · rw [s4.2]
  · rw [s5.2]
  · rw [s6.2]
  · exact s7.1
  · exact s7.2
  · rw [s9.2]
theorem cr_off {E : mv_E} {h : mv_H} {r r' : Nat} (s : cr_sh E h r) (s' : cr_sh E h r') : (∀ i, 1 ≤ i → i ≤ 9 → r' + i ≠ r) ∧ (∀ i, i ≤ 8 → r' + i ≠ r + 9) := by
  refine ⟨fun i h1 h2 c => ?_, fun i h2 c => ?_⟩
  · have := s'.k20 i h1 h2
    rw [c, s.2.1] at this; cases this
  · rcases (by omega : i = 0 ∨ 1 ≤ i) with d | d
    · have := s.k20 9 (by omega) (by omega)
      rw [← c, d, Nat.add_zero, s'.2.1] at this; cases this
    · have e : r' = r + (9 - i) := by omega
      have := s.k20 (9 - i) (by omega) (by omega)
      rw [← e, s'.2.1] at this; cases this
theorem cr_ok.pl {E : mv_E} {h h' : mv_H} {r r' : Nat} {A : Nat → Int32} (f : mx_fz (mx_sPl r) h h') (sr : cr_sh E h r) (c : cr_ok E h r' A) : cr_ok E h' r' A := by
  obtain ⟨o1, o2⟩ := cr_off sr c.1
  obtain ⟨⟨s0, s1, s2, s3, s4, s5, s6, s7, s8, s9, s10⟩, ⟨v0, v1, v2, v3, v4, v5, v6, v7⟩, l0, l1⟩ := c
  have ad : r' ≠ 108 ∧ r' ≠ 97 ∧ ∀ i, 1 ≤ i → i ≤ 8 → r' + i ≠ 108 ∧ r' + i ≠ 97 := by unfold cr_ad at s0; exact ⟨by omega, by omega, fun i h1 h2 => by omega⟩
  have n9 := o2 0 (by omega)
  have eI : ∀ i, 1 ≤ i → i ≤ 8 → mv_I h' (r' + i) = mv_I h (r' + i) := fun i h1 h2 => f.I _ (fun k => mx_sPlf ⟨(ad.2.2 i h1 h2).1, (ad.2.2 i h1 h2).2, Or.inl (o1 i h1 (by omega)), o2 i h2⟩)
  have eI0 : ∀ k, k ≠ 13 → k ≠ 14 → mv_I h' r' k = mv_I h r' k := fun k h1 h2 => (f.2.2 r' k (mx_sPlf ⟨ad.1, ad.2.1, Or.inr ⟨h1, h2⟩, n9⟩)).1
  have eR : ∀ k, k ≠ 13 → k ≠ 14 → mv_RE E h' r' k = mv_RE E h r' k := fun k h1 h2 => f.R E r' k (mx_sPlf ⟨ad.1, ad.2.1, Or.inr ⟨h1, h2⟩, n9⟩)
  have hl : ∀ l, l < 2 → cr_law E h r' A l → cr_law E h' r' A l := by
    intro l hl2 ⟨L, a1, a2, a3, a4⟩
    have e11 := eR (11 + l) (by omega) (by omega)
    refine ⟨L, ?_, ?_, ?_, ?_⟩
    · rw [e11, f.K]; exact a1
    · rw [e11]
      rcases a2 with a2 | ⟨a2, a5⟩
      · exact Or.inl a2
      · exact Or.inr ⟨a2, fun j h1 h2 => by rw [f.K]; exact a5 j h1 h2⟩
    · rw [e11, f.1]; exact a3
    · have : mv_I h' (mv_RE E h r' (11 + l)) = mv_I h (mv_RE E h r' (11 + l)) := by
        rcases a2 with a2 | ⟨a2, a5⟩
        · rw [a2, Nat.add_assoc]; exact eI (7 + l) (by omega) (by omega)
        · refine f.I _ (fun k => mx_sPlf ⟨by omega, by omega, Or.inl (fun d => ?_), fun d => ?_⟩)
          · rw [d, sr.2.1] at a1; cases a1
          · have := a5 9 (by omega) (by omega)
            rw [d, show r + 9 - 9 = r by omega, sr.2.1] at this
            exact this rfl
      rw [e11, this]; exact a4
  refine ⟨⟨s0, ?_, ?_, ?_, ?_, ?_, ?_, ?_, ?_, ?_, ?_⟩, ⟨?_, ?_, ?_, ?_, ?_, ?_, ?_, ?_⟩, hl 0 (by omega) l0, hl 1 (by omega) l1⟩
  · rw [f.K]; exact s1
  · rw [f.K, eR 5 (by omega) (by omega)]; exact s2
  · rw [f.K, eR 6 (by omega) (by omega)]; exact s3
  · rw [f.K, eR 7 (by omega) (by omega)]; exact s4
  · rw [f.K, eR 8 (by omega) (by omega)]; exact s5
  · rw [f.K, eR 9 (by omega) (by omega)]; exact s6
  · rw [f.K, eR 10 (by omega) (by omega)]; exact s7
  · rw [f.K, eR 15 (by omega) (by omega)]; exact s8
  · rw [f.K, f.K]; exact s9
  · rw [f.1]; exact s10
  · rw [eI0 0 (by omega) (by omega)]; exact v0
  · rw [eI0 1 (by omega) (by omega)]; exact v1
  · rw [eI0 2 (by omega) (by omega)]; exact v2
  · rw [eI 2 (by omega) (by omega)]; exact v3
  · rw [eI 3 (by omega) (by omega)]; exact v4
  · rw [eI 5 (by omega) (by omega)]; exact v5
  · rw [eI 6 (by omega) (by omega)]; exact v6
  · rw [eI 4 (by omega) (by omega)]; exact v7
theorem sp_gp_c3 {A A' : Nat → Int32} (hP : sp_P A' = sp_P A) (hB : ∀ q, q < sp_P A → sp_B A' q = sp_B A q) (hQ : ∀ q, q < sp_P A → sp_Qr A' q = sp_Qr A q) : ∀ f p t n st, p ≤ sp_P A → sp_gp A' f p t n st = sp_gp A f p t n st := by
  intro f
  induction f with
  | zero => intro p t n st _; rfl
  | succ f ih =>
    intro p t n st hp
    unfold sp_gp
    rw [hP]
    by_cases q : st.1 ≤ n
    · rw [if_pos q, if_pos q]
    · rw [if_neg q, if_neg q]
      by_cases r : p = sp_P A
      · rw [if_pos r, if_pos r]
      · rw [if_neg r, if_neg r]
        refine mx_fold_cg _ (fun i hi x => ?_)
        rw [ih _ _ _ _ (by omega)]
        have : sp_more A' (mx_upN x.2.2 p i) p i = sp_more A (mx_upN x.2.2 p i) p i := by
          unfold sp_more
          rw [hQ p (by omega), hB i hi]
        rw [this]
/-- one Raft told twice is placed alike -/
theorem cr_plc {E : mv_E} {h : mv_H} {r : Nat} {A A' : Nat → Int32} (p8 : sp_P A ≤ 8) (c : cr_ok E h r A) (c' : cr_ok E h r A') : sp_P A' = sp_P A ∧ sp_plc A' = sp_plc A := by
  obtain ⟨-, ⟨v0, -, -, -, -, v5, v6, -⟩, -⟩ := c
  obtain ⟨-, ⟨w0, -, -, -, -, w5, w6, -⟩, -⟩ := c'
  have hP : sp_P A' = sp_P A := by unfold sp_P; rw [← w0, ← v0]
  refine ⟨hP, sp_gp_c3 hP (fun q hq => ?_) (fun q hq => ?_) _ _ _ _ _ (Nat.zero_le _)⟩
  · unfold sp_B; rw [← w5 q (by omega), ← v5 q (by omega)]
  · unfold sp_Qr; rw [← w6 q (by omega), ← v6 q (by omega)]
theorem InvC.pl {E : mv_E} {h h' : mv_H} {V : vw} {r : Nat} (i : InvC E h V) (m : InvM V) (hr : mv_R h 50 3 = r) (z : mx_fz (mx_sPl r) h h') (ip : mv_I h' r 13 = 1 ∧ mv_I h' r 14 = nI (sp_plc (vA V)).1 ∧ ∀ p, p < sp_P (vA V) → mv_I h' (r + 9) p = nI ((sp_plc (vA V)).2.1 p)) : InvC E h' V := by
  obtain ⟨⟨⟨i1, i2, i3⟩, ⟨i4, i5⟩, i6, i7, i8, i9⟩, ⟨A0, o0, se⟩⟩ := i
  rw [hr] at i1
  have sr := i1.1.1
  have ad := sr.1
  have off : ∀ a k, (a ≠ 108 ∧ a ≠ 97 ∧ ((80 < a ∧ a < 98) ∨ (107 < a ∧ a < 165) ∨ a < 61)) → mx_sPl r a k = false := fun a k q => mx_sPlf (by unfold cr_ad at ad; omega)
  have R50 : mv_R h' 50 = mv_R h 50 := z.Rr 50 (fun k => off _ k (by omega))
  have R132 : mv_R h' 132 = mv_R h 132 := z.Rr 132 (fun k => off _ k (by omega))
  have R110 : mv_R h' 110 = mv_R h 110 := z.Rr 110 (fun k => off _ k (by omega))
  have R87 : mv_R h' 87 = mv_R h 87 := z.Rr 87 (fun k => off _ k (by omega))
  have raft : ∀ {r' : Nat} {A' : Nat → Int32}, i_raft E h r' A' → i_raft E h' r' A' := by
    intro r' A' q
    refine ⟨q.1.pl z sr, ?_⟩
    by_cases c : r' = r
    · subst c
      obtain ⟨e1, e2⟩ := cr_plc m.p8 i1.1 q.1
      refine Or.inr ⟨ip.1, ?_, ?_⟩
      · rw [e2]; exact ip.2.1
      · rw [e1, e2]; exact ip.2.2
    · obtain ⟨o1, o2⟩ := cr_off sr q.1.1
      have ad' := q.1.1.1
      have n9 := o2 0 (by omega)
      have n9' : r' + 9 ≠ r + 9 := fun d => c (by omega)
      have n0 := o1 9 (by omega) (by omega)
      exact q.2.fz z (fun k => mx_sPlf ⟨by unfold cr_ad at ad'; omega, by unfold cr_ad at ad'; omega, Or.inl c, n9⟩) (fun k => mx_sPlf ⟨by unfold cr_ad at ad'; omega, by unfold cr_ad at ad'; omega, Or.inl n0, n9'⟩)
  have im : ∀ j, j < 2 → i_img E h (vA V) (vHi V) j → i_img E h' (vA V) (vHi V) j := by
    intro j hj q
    unfold i_img
    rw [R132]
    rcases q with q | ⟨q1, q2, q3⟩
    · exact Or.inl q
    · exact Or.inr ⟨q1, raft q2, q3.fz z (fun k => off _ k (by omega)) (fun k => off _ k (by omega))⟩
  refine ⟨⟨⟨?_, i2.fz z (fun k => off _ k (by omega)) (fun k => off _ k (by omega)), i3.fz z (fun a k q => off _ k (by omega))⟩, ⟨im 0 (by omega) i4, im 1 (by omega) i5⟩, fun u hu => (i6 u hu).fz z (fun k => off _ k (by omega)) (fun k => off _ k (by omega)), i7.fz z (off _ _ (by omega)) (fun k => off _ k (by omega)), ?_, i9.fz z (off _ _ (by omega)) (off _ _ (by omega))⟩, A0, o0, ?_, ⟨?_, fun p hp => ?_⟩, fun t ht => ?_⟩
  · rw [R50, hr]; exact raft i1
  · rw [z.I 52 (fun k => off _ k (by omega))]; exact i8
  · rw [R87]; exact se.1.pl z sr
  · rw [z.I 88 (fun k => off _ k (by omega))]; exact se.2.1.1
  · rw [z.I 89 (fun k => off _ k (by omega))]; exact se.2.1.2 p hp
  · rw [z.I 90 (fun k => off _ k (by omega)), z.I 91 (fun k => off _ k (by omega))]; exact se.2.2 t ht
def GC (A : Nat → Int32) (h : mv_H) (r p : Nat) (st : gst) : Prop := mv_R h 97 0 = r ∧ mv_I h r 14 = nI st.1 ∧ st.1 ≤ 99 ∧ (∀ q, q < p → mv_I h 108 q = nI (st.2.2 q)) ∧ (st.1 < 99 → ∀ q, q < sp_P A → mv_I h (r + 9) q = nI (st.2.1 q))
theorem ct26 {E : mv_E} {D k n : Nat} {h : mv_H} {Q : mv_Q} {A : Nat → Int32} {x : Int32} {r p : Nat} {pl : Nat → Nat} (cr : cr_ok E h r A) (m : m_ok A) (e97 : mv_R h 97 0 = r) (hp : p < sp_P A) (hpl : ∀ q, q < p → mv_I h 108 q = nI (pl q) ∧ pl q < 8) (e : x = nI p) (H : Q (some (.int (nI (sp_foe A pl p p)))) h) : mv_VE E D k n 26 0 [some (.ref 97), some (.int x), none, none] [] h Q := by
  subst e
  have p8 := m.1.2.1
  have p2 := mx_p2 p8
  have qp : A (33 + p) = nI (sp_Qr A p) ∧ sp_Qr A p < 2 ^ sp_P A := (m.2.2.1 p hp).2.2
  have s1 := cr.1.2.1
  have s6 := cr.1.2.2.2.2.2.2.2.1
  have v6 := cr.2.1.2.2.2.2.2.2.1 p (by omega)
  apply sg26_0
  refine mx_loop (P := fun j => mv_VE E D k n 26 4 [some (.ref 97), some (.int (nI p)), some (.int (nI (sp_foe A pl p j))), some (.int (nI j))] [] h Q) p ?_ ?_
  · apply sg26_4
    exact mx_ltF p p (Nat.le_refl _) H (by omega)
  · intro j hj ih
    rw [sp_foe_s] at ih
    apply sg26_4
    rw [e97, s1, s6.1, s6.2, nI_clamp (n := p) (by omega), nI_clamp (n := j) (by omega), v6, qp.1, (hpl j hj).1, mx_1shl (by have := (hpl j hj).2; omega), mx_or, nI_1]
    refine mx_ltT j p hj (mv_gdI rfl (mv_gdI (by rw [mx_in p (by omega) (by omega)]; rfl) ?_)) (by omega)
    refine mx_ifb ((sp_Qr A p).testBit j) (mx_bit0 (by omega) (by omega)) (fun b => ?_) (fun b => ?_)
    · rw [b, cond_false] at ih; exact ih
    · rw [b, cond_true] at ih
      exact mv_gdI (mx_inT j (by omega) (by omega)) ih
theorem ct25 {E : mv_E} {h0 : mv_H} {A : Nat → Int32} {r : Nat} (cr0 : cr_ok E h0 r A) (m : m_ok A) : ∀ f p taken n (st : gst) D k l h (Q : mv_Q), PI A p taken n st.2.2 → sp_P A - p < f → f + 3 ≤ D → mx_fz (mx_sPl r) h0 h → GC A h r p st → (∀ h', mx_fz (mx_sPl r) h0 h' → GC A h' r p (sp_gp A f p taken n st) → Q none h') → mv_VE E D k l 25 0 [some (.ref 97), some (.int (nI p)), some (.int (nI taken)), some (.int (nI n)), none, none, none, none] [] h Q := by
  have p8 := m.1.2.1
  have p2 := mx_p2 p8
  have ad := cr0.1.1
  have r108 : r ≠ 108 ∧ r + 9 ≠ 108 ∧ r + 5 ≠ 108 ∧ r ≠ 97 ∧ r + 9 ≠ 97 := by unfold cr_ad at ad; omega
  intro f
  induction f with
  | zero => intro p taken n st D k l h Q _ h; omega
  | succ f ih =>
    intro p taken n st D k l h Q pi hf hD fz g K
    obtain ⟨D1, rfl⟩ : ∃ D1, D = D1 + 2 := ⟨D - 2, by omega⟩
    have p1 := pi.1
    have tl := pi.2.1
    have n7 := pi.2.2.2.1
    have g99 := g.2.2.1
    have cr : cr_ok E h r A := cr0.pl fz cr0.1
    obtain ⟨s9a, s9b⟩ := cr.1.2.2.2.2.2.2.2.2.1
    rw [sp_gp_s] at K
    rw [show D1 + 2 = (D1 + 1) + 1 by omega]
    apply sg25_0
    rw [g.1, cr.1.2.1, g.2.1, cr.2.1.1, m.1.1, s9a, s9b]
    refine mv_gdI rfl (mx_lt n st.1 (fun q => ?_) (fun q => ?_) (by omega) (by omega))
    · rw [if_neg (by omega)] at K
      refine mv_gdI rfl (mx_lt p (sp_P A) (fun w => ?_) (fun w => ?_) (by omega) (by omega))
      · rw [if_neg (by omega)] at K
        refine mx_ltT p 8 (by omega) ?_ (by omega)
        refine ct26 (pl := st.2.2) cr m g.1 w (fun q hq => ⟨g.2.2.2.1 q hq, by have := (pi.2.2.2.2.1 q hq).1; omega⟩) rfl ⟨_, rfl, ?_⟩
        have fl : sp_foe A st.2.2 p p < 256 := sp_foe_lt p (fun q hq => by have := (pi.2.2.2.2.1 q hq).1; omega)
        refine mx_loop (P := fun i => ∀ h1, mx_fz (mx_sPl r) h0 h1 → GC A h1 r p (sp_gf A f p taken n st i) → mv_VE E (D1 + 1 + 1) k l 25 64 [some (.ref 97), some (.int (nI p)), some (.int (nI taken)), some (.int (nI n)), some (.ref r), some (.int (nI (sp_foe A st.2.2 p p))), some (.int (nI i)), none] [] h1 Q) (sp_P A) ?_ ?_ h fz g
        · intro h1 f1 g1
          have cr1 : cr_ok E h1 r A := cr0.pl f1 cr0.1
          rw [show D1 + 1 + 1 = D1 + 2 by omega]
          apply sg25_64
          rw [cr1.1.2.1, cr1.2.1.1, m.1.1]
          exact mv_gdI rfl (mx_ltF (sp_P A) (sp_P A) (Nat.le_refl _) (K h1 f1 g1) (by omega))
        · intro i hi ihi h1 f1 g1
          rw [sp_gf_s] at ihi
          have ppl : ∀ q, q < p → (sp_gf A f p taken n st i).2.2 q = st.2.2 q := fun q hq => sp_gf_pl hq i
          generalize hst : sp_gf A f p taken n st i = st1 at ihi g1 ppl
          have pi1 : PI A p taken n st1.2.2 := pi.cg ppl
          have cr1 : cr_ok E h1 r A := cr0.pl f1 cr0.1
          obtain ⟨s5a, s5b⟩ := cr1.1.2.2.2.2.2.2.1
          have bp := m.1.2.2.1 i hi
          have v5 : mv_I h1 (r + 5) i = nI (sp_B A i) := (cr1.2.1.2.2.2.2.2.1 i (by omega)).trans bp.1
          rw [show D1 + 1 + 1 = D1 + 2 by omega]
          apply sg25_64
          rw [cr1.1.2.1, cr1.2.1.1, m.1.1, s5a, s5b, nI_clamp (n := i) (by omega), nI_clamp (n := p) (by omega), mx_InE r108.2.2.1, v5, mx_and, mx_305 _ (Nat.lt_of_le_of_lt Nat.and_le_left fl), sp_foe_cnt p (fun q hq => by have := (pi.2.2.2.2.1 q hq).1; omega) pi.2.2.2.2.2, nI_1 p, nI_1 i, mx_1shl (by omega), mx_or, nI_add]
          refine mv_gdI rfl (mx_ltT i (sp_P A) hi ?_ (by omega))
          refine mx_ifb (taken.testBit i) (mx_bit0 (by omega) (by omega)) (fun z => ?_) (fun z => ?_)
          · rw [z, cond_false] at ihi
            refine mv_gdI (mx_inT p (by omega) (by omega)) (mv_gdI rfl (mv_gdI (by rw [mx_in i (by omega) (by omega)]; rfl) ?_))
            have em : sp_mr A st.2.2 p i p = sp_more A (mx_upN st1.2.2 p i) p i := by
              rw [sp_mr_is]
              exact sp_mr_cg p (fun q hq => by rw [mx_upNn _ _ (by omega), ppl q hq])
            rw [em]
            have f2 : mx_fz (mx_sPl r) h0 (mv_sI h1 108 p (nI i)) := f1.tr (mx_fr.sI (mx_sPlt (Or.inl rfl))).z
            have g2 : GC A (mv_sI h1 108 p (nI i)) r (p + 1) (st1.1, st1.2.1, mx_upN st1.2.2 p i) := by
              refine ⟨g1.1, ?_, g1.2.2.1, fun q hq => ?_, fun c q hq => ?_⟩
              · rw [mx_InE r108.1]; exact g1.2.1
              · rw [mx_upI]
                by_cases c : q = p
                · rw [if_pos ⟨rfl, c⟩, c]
                  show nI i = nI (mx_upN st1.2.2 p i p)
                  rw [mx_upNs]
                · rw [if_neg (fun d => c d.2)]
                  show _ = nI (mx_upN st1.2.2 p i q)
                  rw [mx_upNn _ _ c]; exact g1.2.2.2.1 q (by omega)
              · rw [mx_InE r108.2.1]; exact g1.2.2.2.2 c q hq
            refine ih (p + 1) (taken ||| 2 ^ i) _ (st1.1, st1.2.1, mx_upN st1.2.2 p i) _ 0 0 _ _ (pi1.s p8 w hi z) (by omega) (by omega) f2 g2 (fun h3 f3 g3 => ⟨rfl, ?_⟩)
            exact ihi h3 f3 ⟨g3.1, g3.2.1, g3.2.2.1, fun q hq => g3.2.2.2.1 q (by omega), g3.2.2.2.2⟩
          · rw [z, cond_true] at ihi; exact ihi h1 f1 g1
      · have wp : p = sp_P A := by omega
        rw [if_pos wp] at K
        refine mv_gdI rfl (mv_gdI rfl (mv_gdI (by decide) ?_))
        have f1 : mx_fz (mx_sPl r) h0 (mv_sI h r 14 (nI n)) := fz.tr (mx_fr.sI (mx_sPlt (Or.inr (Or.inr (Or.inl ⟨rfl, Or.inr rfl⟩))))).z
        have e14 : mv_I (mv_sI h r 14 (nI n)) r 14 = nI n := mx_Iss
        have e108 : mv_I (mv_sI h r 14 (nI n)) 108 = mv_I h 108 := funext fun j => mx_InE (Ne.symm r108.1)
        have e97 : mv_R (mv_sI h r 14 (nI n)) 97 0 = r := g.1
        generalize mv_sI h r 14 (nI n) = h1 at f1 e14 e108 e97
        have row : ∀ b j, mv_I (mv_cp h1 108 (r + 9) 0 0 8) b j = if b = r + 9 then va_cpy (mv_I h1 108) (mv_I h1 (r + 9)) 0 0 8 j else mv_I h1 b j := by
          intro b j
          show mv_row _ (r + 9) _ b j = _
          unfold mv_row
          by_cases q : b = r + 9
          · rw [if_pos q, q, mv_beq]; rfl
          · rw [if_neg q, mv_bne q]; rfl
        refine K _ (f1.tr ⟨rfl, rfl, fun a k q => ⟨?_, rfl, rfl⟩⟩) ⟨e97, ?_, ?_, fun q hq => ?_, fun _ q hq => ?_⟩
        · rw [row, if_neg (fun c => by rw [mx_sPlt (Or.inr (Or.inr (Or.inr c)))] at q; cases q)]
        · rw [row, if_neg (by omega)]; exact e14
        · show n ≤ 99; omega
        · rw [row, if_neg (by omega), e108]; exact g.2.2.2.1 q hq
        · rw [row, if_pos rfl, pk_cpy_in (by omega) (by omega), e108]
          show mv_I h 108 (0 + (q - 0)) = nI (st.2.2 q)
          rw [show 0 + (q - 0) = q by omega]
          exact g.2.2.2.1 q (by omega)
    · rw [if_pos q] at K
      exact K h fz g
theorem cc153 {E : mv_E} {D k n : Nat} {h : mv_H} {Q : mv_Q} {V : vw} {x : Int32} (i : InvC E h V) (m : InvM V) (H : ∀ h', InvC E h' V → fCl h h' → Q (some (.int (v_placing V x))) h') : mv_VE E (D + 20) k n 153 0 [some (.ref 50), some (.int x)] [] h Q := by
  have p8 := m.p8
  have cr := i.1.1.1.1
  have ad := cr.1.1
  have h99 : (sp_plc (vA V)).1 < 99 := sp_gp_99 p8 9 0 0 0 (99, fun _ => 0, fun _ => 0) (PI0 _ _) (by omega)
  -- the search
  have seek : ∀ (Q' : mv_Q), (∀ h', InvC E h' V → fCl h h' → mv_I h' (mv_R h' 50 3) 14 = nI (sp_plc (vA V)).1 → (∀ q, q < sp_P (vA V) → mv_I h' (mv_R h' 50 3 + 9) q = nI ((sp_plc (vA V)).2.1 q)) → Q' none h') → mv_VE E (D + 17 + 2) 0 0 24 0 [some (.ref 97), some (.ref (mv_R h 50 3))] [] h Q' := by
    intro Q' K
    obtain ⟨r, hr⟩ : ∃ r, mv_R h 50 3 = r := ⟨_, rfl⟩
    rw [hr] at cr ad ⊢
    have r97 : r ≠ 97 ∧ r ≠ 108 ∧ r ≠ 50 ∧ r + 9 ≠ 50 := by unfold cr_ad at ad; omega
    apply sg24_0
    rw [cr.1.2.1]
    refine mv_gdI rfl (mx_if (fun q => ?_) (fun q => ?_))
    · refine mv_gdI rfl ?_
      have f1 : mx_fz (mx_sPl r) h (mv_sI (mv_sR h 97 0 r) r 14 99) := (mx_fz.sR (mx_sPlt (Or.inr (Or.inl rfl)))).tr (mx_fr.sI (mx_sPlt (Or.inr (Or.inr (Or.inl ⟨rfl, Or.inr rfl⟩))))).z
      have g1 : GC (vA V) (mv_sI (mv_sR h 97 0 r) r 14 99) r 0 (99, fun _ => 0, fun _ => 0) := by
        refine ⟨?_, ?_, Nat.le_refl _, fun q hq => by omega, fun c => absurd c (by show ¬ 99 < 99; omega)⟩
        · rw [mx_RsI, mx_upR, if_pos ⟨rfl, rfl⟩]
        · rw [mx_Iss]; rfl
      refine ct25 cr m.1.1 9 0 0 0 (99, fun _ => 0, fun _ => 0) _ 0 0 _ _ (PI0 _ _) (by omega) (by omega) f1 g1 (fun h2 f2 g2 => ⟨rfl, ?_⟩)
      have cr2 : cr_ok E h2 r (vA V) := cr.pl f2 cr.1
      rw [g2.1, cr2.1.2.1]
      refine mv_gdI rfl ?_
      have f3 : mx_fz (mx_sPl r) h (mv_sI h2 r 13 1) := f2.tr (mx_fr.sI (mx_sPlt (Or.inr (Or.inr (Or.inl ⟨rfl, Or.inl rfl⟩))))).z
      have e14 : mv_I (mv_sI h2 r 13 1) r 14 = nI (sp_plc (vA V)).1 := by rw [mx_Isk (by omega)]; exact g2.2.1
      have e9 : ∀ q, q < sp_P (vA V) → mv_I (mv_sI h2 r 13 1) (r + 9) q = nI ((sp_plc (vA V)).2.1 q) := fun q hq => by rw [mx_InE (by omega)]; exact g2.2.2.2.2 h99 q hq
      have R3 : mv_R (mv_sI h2 r 13 1) 50 3 = r := by rw [(f3.2.2 50 3 (mx_sPlf (by omega))).2.2]; exact hr
      refine K _ (i.pl m hr f3 ⟨mx_Iss, e14, e9⟩) (f3.toC (fun a k q => mx_sPlf (by unfold cr_ad at ad; omega))) ?_ ?_
      · rw [R3]; exact e14
      · rw [R3]; exact e9
    · have pc := i.1.1.1.2
      rw [hr] at pc
      rcases pc with pc | ⟨pc1, pc2, pc3⟩
      · exact absurd pc q
      · refine K h i fCl.rf ?_ ?_
        · rw [hr]; exact pc2
        · rw [hr]; exact pc3
  rw [show D + 20 = D + 17 + 3 by omega]
  apply sg153_0
  unfold v_placing at H
  refine mx_if (fun q => ?_) (fun q => mx_if (fun r => ?_) (fun r => ?_))
  · rw [if_pos q] at H
    refine seek _ (fun h2 i2 f2 e1 e2 => ⟨rfl, ?_⟩)
    rw [if_pos q, i2.1.1.1.1.1.2.1, e1]
    exact mv_gdI rfl (H h2 i2 f2)
  · rw [if_neg q, if_pos r] at H; exact H h i fCl.rf
  · rw [if_neg q, if_neg r] at H
    rw [cr.1.2.1, cr.2.1.1, m.ok.1, show (10 : Int32) + nI (sp_P (vA V)) = nI (10 + sp_P (vA V)) from nI_add 10 _]
    have x0 : ¬ x < 0 := fun c => r (by
      rw [Int32.lt_iff_toInt_lt] at c ⊢
      have e1 : (0 : Int32).toInt = 0 := rfl
      have e2 : (10 : Int32).toInt = 10 := rfl
      omega)
    obtain ⟨j, hj, rfl⟩ := nI_of x0
    have j10 : 10 ≤ j := by
      rcases Nat.lt_or_ge j 10 with c | c
      · exact absurd (show nI j < nI 10 from (nI_ltI (by omega) (by omega)).mpr c) r
      · exact c
    have ex : nI j - (10 : Int32) = nI (j - 10) := pk_sub (b := 10) j10
    rw [ex] at H ⊢
    refine mv_gdI rfl (mx_lt j (10 + sp_P (vA V)) (fun w => ?_) (fun w => ?_) (by omega) (by omega))
    · rw [pnN m.ok (show j - 10 < sp_P (vA V) by omega), cond_true, nI_clamp (by omega)] at H
      refine seek _ (fun h2 i2 f2 e1 e2 => ⟨rfl, ?_⟩)
      obtain ⟨s9a, s9b⟩ := i2.1.1.1.1.1.2.2.2.2.2.2.2.2.1
      rw [if_neg q, i2.1.1.1.1.1.2.1, s9a, s9b, nI_clamp (by omega), e2 (j - 10) (by omega)]
      exact mv_gdI rfl (mv_gdI (by rw [mx_in (j - 10) (by omega) (by omega)]; rfl) (H h2 i2 f2))
    · have : pn (vA V) (nI (j - 10)) = false := by
        cases z : pn (vA V) (nI (j - 10)) with
        | false => rfl
        | true =>
          obtain ⟨p, hp, e⟩ := pnT m.ok z
          rw [nI_eq (by omega) (by omega)] at e
          omega
      rw [this] at H
      exact H h i fCl.rf
