/-! States, the Sea and its caches: letting go, floating, weeks by the class. -/
def st_ad (x : Nat) : Prop := x = 81 ∨ x = 83 ∨ x = 85 ∨ x = 88 ∨ x = 144 ∨ x = 146 ∨ x = 111 ∨ x = 113 ∨ x = 115 ∨ x = 117 ∨ x = 119 ∨ x = 121 ∨ x = 123 ∨ x = 125 ∨ x = 127 ∨ x = 129
theorem st_sh {x : Nat} (hx : st_ad x) (E : mv_E) (h : mv_H) : mv_KE E h x = (6, 4) ∧ mv_RE E h x 3 = x + 1 ∧ mv_KE E h (x + 1) = (20, 8) := by
  rcases hx with rfl | rfl | rfl | rfl | rfl | rfl | rfl | rfl | rfl | rfl | rfl | rfl | rfl | rfl | rfl | rfl <;> exact ⟨rfl, rfl, rfl⟩
def mx_fz (S : Nat → Nat → Bool) (h h' : mv_H) : Prop := h'.1 = h.1 ∧ h'.2.1 = h.2.1 ∧ ∀ a k, S a k = false → mv_I h' a k = mv_I h a k ∧ mv_J h' a k = mv_J h a k ∧ mv_R h' a k = mv_R h a k
theorem mx_fr.z {S : Nat → Nat → Bool} {h h' : mv_H} (f : mx_fr S h h') : mx_fz S h h' := ⟨f.1, f.2.1, fun a k q => ⟨f.2.2.1 a k q, by rw [f.2.2.2.1], by rw [f.2.2.2.2]⟩⟩
theorem mx_fz.rf {S : Nat → Nat → Bool} {h : mv_H} : mx_fz S h h := ⟨rfl, rfl, fun _ _ _ => ⟨rfl, rfl, rfl⟩⟩
theorem mx_fz.tr {S : Nat → Nat → Bool} {h h' h'' : mv_H} (a : mx_fz S h h') (b : mx_fz S h' h'') : mx_fz S h h'' := ⟨b.1.trans a.1, b.2.1.trans a.2.1, fun x y z => ⟨(b.2.2 x y z).1.trans (a.2.2 x y z).1, (b.2.2 x y z).2.1.trans (a.2.2 x y z).2.1, (b.2.2 x y z).2.2.trans (a.2.2 x y z).2.2⟩⟩
theorem mx_fz.to {S T : Nat → Nat → Bool} {h h' : mv_H} (f : mx_fz S h h') (hS : ∀ a k, T a k = false → S a k = false) : mx_fz T h h' := ⟨f.1, f.2.1, fun a k q => f.2.2 a k (hS a k q)⟩
theorem mx_fz.I {S : Nat → Nat → Bool} {h h' : mv_H} (f : mx_fz S h h') (a : Nat) (hS : ∀ k, S a k = false) : mv_I h' a = mv_I h a := funext fun k => (f.2.2 a k (hS k)).1
theorem mx_fz.Rr {S : Nat → Nat → Bool} {h h' : mv_H} (f : mx_fz S h h') (a : Nat) (hS : ∀ k, S a k = false) : mv_R h' a = mv_R h a := funext fun k => (f.2.2 a k (hS k)).2.2
theorem mx_fz.K {S : Nat → Nat → Bool} {h h' : mv_H} (f : mx_fz S h h') (E : mv_E) (a : Nat) : mv_KE E h' a = mv_KE E h a := by
  show mv_KT _ _ _ = mv_KT _ _ _
  unfold mv_KT
  rw [f.2.1]
theorem mx_fz.R {S : Nat → Nat → Bool} {h h' : mv_H} (f : mx_fz S h h') (E : mv_E) (a k : Nat) (hS : S a k = false) : mv_RE E h' a k = mv_RE E h a k := by
  have e : h'.2.2.2.2 a k = h.2.2.2.2 a k := (f.2.2 a k hS).2.2
  show mv_RT _ _ _ _ = mv_RT _ _ _ _
  unfold mv_RT
  rw [e]
def cr_reg (a : Nat) : Prop := (61 ≤ a ∧ a ≤ 80) ∨ (98 ≤ a ∧ a ≤ 107) ∨ 165 ≤ a
theorem cr_ad.reg {r : Nat} (h : cr_ad r) (i : Nat) (hi : i ≤ 9) : cr_reg (r + i) := by
  unfold cr_ad at h; unfold cr_reg; omega
theorem cr_ok.fz {S : Nat → Nat → Bool} {E : mv_E} {h h' : mv_H} {r : Nat} {A : Nat → Int32} (f : mx_fz S h h') (hS : ∀ a k, cr_reg a → S a k = false) (c : cr_ok E h r A) : cr_ok E h' r A := by
  obtain ⟨⟨s0, s1, s2, s3, s4, s5, s6, s7, s8, s9, s10⟩, ⟨v0, v1, v2, v3, v4, v5, v6, v7⟩, l0, l1⟩ := c
  have rg := fun i hi => s0.reg i hi
  have eI : ∀ i, i ≤ 9 → mv_I h' (r + i) = mv_I h (r + i) := fun i hi => f.I _ (fun k => hS _ k (rg i hi))
  have eI0 : mv_I h' r = mv_I h r := eI 0 (by omega)
  have eR : ∀ k, mv_RE E h' r k = mv_RE E h r k := fun k => f.R E r k (hS _ k (rg 0 (by omega)))
  have hl : ∀ l, l < 2 → cr_law E h r A l → cr_law E h' r A l := by
    intro l hl2 ⟨L, a1, a2, a3, a4⟩
    refine ⟨L, ?_, ?_, ?_, ?_⟩
    · rw [eR, f.K]; exact a1
    · rw [eR]
      rcases a2 with a2 | ⟨a2, a5⟩
      · exact Or.inl a2
      · exact Or.inr ⟨a2, fun j h1 h2 => by rw [f.K]; exact a5 j h1 h2⟩
    · rw [eR, f.1]; exact a3
    · have : mv_I h' (mv_RE E h r (11 + l)) = mv_I h (mv_RE E h r (11 + l)) := by
        apply f.I
        intro k
        apply hS
        rcases a2 with a2 | ⟨a2, a5⟩
        · rw [a2, Nat.add_assoc]; exact rg (7 + l) (by omega)
        · exact Or.inr (Or.inr a2)
      rw [eR, this]; exact a4
  refine ⟨⟨s0, ?_, ?_, ?_, ?_, ?_, ?_, ?_, ?_, ?_, ?_⟩, ⟨?_, ?_, ?_, ?_, ?_, ?_, ?_, ?_⟩, hl 0 (by omega) l0, hl 1 (by omega) l1⟩
  · rw [f.K]; exact s1
  · rw [f.K, eR]; exact s2
  · rw [f.K, eR]; exact s3
  · rw [f.K, eR]; exact s4
  · rw [f.K, eR]; exact s5
  · rw [f.K, eR]; exact s6
  · rw [f.K, eR]; exact s7
  · rw [f.K, eR]; exact s8
  · rw [f.K, f.K]; exact s9
  · rw [f.1]; exact s10
  · rw [eI0]; exact v0
  · rw [eI0]; exact v1
  · rw [eI0]; exact v2
  · rw [eI 2 (by omega)]; exact v3
  · rw [eI 3 (by omega)]; exact v4
  · rw [eI 5 (by omega)]; exact v5
  · rw [eI 6 (by omega)]; exact v6
  · rw [eI 4 (by omega)]; exact v7
def sp_dg (x : Int32) : Prop := ∃ b, b ≤ 9 ∧ x = nI b
def sp_vb (A : Nat → Int32) : Prop := (∀ p, p < sp_P A → sp_dg (A (66 + p)) ∧ sp_dg (A (9 + p))) ∧ sp_dg (A 74)
theorem sp_sm_n {j : Nat} (h : j ≤ 1000000) : sp_sm (nI j) := by
  unfold sp_sm; rw [nI_toInt (by omega)]; omega
theorem sp_dg.sm {x : Int32} (h : sp_dg x) : sp_sm x := by
  obtain ⟨b, hb, rfl⟩ := h
  exact sp_sm_n (by omega)
theorem sp_sum_dg {A : Nat → Int32} {row s : Nat} : ∀ i, (∀ p, p < i → sp_dg (A (row + p))) → ∃ b, b ≤ 9 * i ∧ sp_sum A row s i = nI b
  | 0, _ => ⟨0, by omega, rfl⟩
  | i + 1, h => by
    obtain ⟨b, hb, e⟩ := sp_sum_dg (s := s) i (fun p hp => h p (by omega))
    obtain ⟨c, hc, e2⟩ := h i (by omega)
    have e3 : sp_sum A row s (i + 1) = sp_sum A row s i + cond (s.testBit i) (A (row + i)) 0 := rfl
    rw [e3, e, e2]
    cases s.testBit i with
    | false => exact ⟨b, by omega, Int32.add_zero _⟩
    | true => exact ⟨b + c, by omega, nI_add _ _⟩
theorem sp_left_le (B : Nat → Nat) (P s : Nat) : ∀ i, (sp_left B P s i).2 ≤ i
  | 0 => Nat.le_refl _
  | i + 1 => by
    have := sp_left_le B P s i
    show (cond ((sp_left B P s i).1.testBit i) (mx_wo (sp_left B P s i).1 (sp_piece B P s i), (sp_left B P s i).2 + 1) (sp_left B P s i)).2 ≤ i + 1
    cases (sp_left B P s i).1.testBit i with
    | false => exact Nat.le_succ_of_le this
    | true => exact Nat.succ_le_succ this
theorem sp_wF_sm {A : Nat → Int32} (h8 : sp_P A ≤ 8) (vb : sp_vb A) (s : Nat) (j : Nat) : sp_sm (sp_wF A s j) := by
  have z : sp_sm 0 := sp_sm_n (j := 0) (by omega)
  have hb := sp_bits_le s
  unfold sp_wF
  split
  · exact sp_sm_n (by omega)
  · exact vb.2.sm
  · obtain ⟨b, hb, e⟩ := sp_sum_dg (A := A) (row := 66) (s := s) (sp_P A) (fun p hp => (vb.1 p hp).1)
    rw [e]; exact sp_sm_n (by omega)
  · obtain ⟨b, hb, e⟩ := sp_sum_dg (A := A) (row := 9) (s := 2 ^ sp_P A - 1) (sp_P A) (fun p hp => (vb.1 p hp).2)
    rw [e]; exact sp_sm_n (by omega)
  · have := sp_left_le (sp_B A) (sp_P A) s (sp_P A)
    exact sp_sm_n (by unfold sp_pieces; omega)
  · exact z
theorem sp_wL_sm {A : Nat → Int32} (h8 : sp_P A ≤ 8) (vb : sp_vb A) (s p : Nat) (hp : p < sp_P A) (j : Nat) : sp_sm (sp_wL A s p j) := by
  have z : sp_sm 0 := sp_sm_n (j := 0) (by omega)
  have hb : ∀ s, sp_bits s ≤ 1000000 := fun s => by have := sp_bits_le s; omega
  unfold sp_wL
  split
  · exact sp_sm_n (hb _)
  · exact vb.2.sm
  · exact (vb.1 p hp).1.sm
  · exact (vb.1 p hp).2.sm
  · exact sp_sm_n (by omega)
  · exact sp_sm_n (hb _)
  · exact sp_sm_n (hb _)
  · exact z
theorem mx_305 : ∀ s, s < 256 → pf305 (nI s) = nI (sp_bits s) := by decide +kernel
/-- the caches are right -/
def se_ca (h : mv_H) (A : Nat → Int32) : Prop := ∀ s, s < 2 ^ sp_P A → (mv_I h 90 s = -1 ∨ mv_I h 90 s = nI (sp_week A s)) ∧ (mv_I h 91 s = -1 ∨ mv_I h 91 s = nI (sp_float A s).toNat)
def se_lk (h : mv_H) (A : Nat → Int32) : Prop := mv_I h 88 1 = A 74 ∧ ∀ p, p < sp_P A → mv_I h 89 p = A (66 + p)
def se_at (E : mv_E) (h : mv_H) (A : Nat → Int32) : Prop := cr_ok E h (mv_R h 87 0) A ∧ se_lk h A ∧ se_ca h A
def mx_s4 (a _ : Nat) : Bool := Nat.beq a 87 || Nat.beq a 93
def mx_s5 (a _ : Nat) : Bool := Nat.beq a 87 || (Nat.beq a 93 || (Nat.beq a 90 || Nat.beq a 91))
theorem mx_s5r {a k : Nat} (h : cr_reg a) : mx_s5 a k = false := by
  unfold cr_reg at h; unfold mx_s5
  rw [mv_bne (by omega), mv_bne (by omega), mv_bne (by omega), mv_bne (by omega)]
  rfl
theorem mx_s4r {a k : Nat} (h : cr_reg a) : mx_s4 a k = false := by
  unfold cr_reg at h; unfold mx_s4
  rw [mv_bne (by omega), mv_bne (by omega)]
  rfl
theorem mx_s45 {h h' : mv_H} (fr : mx_fr mx_s4 h h') : mx_fr mx_s5 h h' := fr.to (fun a k q => by
  unfold mx_s5 at q; unfold mx_s4
  cases z : Nat.beq a 87 <;> rw [z] at q
  · cases z2 : Nat.beq a 93 <;> rw [z2] at q
    · rfl
    · cases q
  · cases q)
theorem mx_s934 {h h' : mv_H} (fr : mx_fr mx_s93 h h') : mx_fr mx_s4 h h' := fr.to (fun a k q => by
  unfold mx_s4 at q; unfold mx_s93
  cases z : Nat.beq a 87 <;> cases z2 : Nat.beq a 93 <;> simp_all)
theorem se_at.fr {E : mv_E} {h h' : mv_H} {A : Nat → Int32} (s : se_at E h A) (f : mx_fr mx_s4 h h') : se_at E h' A := by
  refine ⟨?_, ?_, ?_⟩
  · rw [f.2.2.2.2]; exact s.1.fz f.z (fun a k => mx_s4r)
  · refine ⟨?_, fun p hp => ?_⟩
    · rw [f.I 88 (fun _ => rfl)]; exact s.2.1.1
    · rw [f.I 89 (fun _ => rfl)]; exact s.2.1.2 p hp
  · intro t ht
    rw [f.I 90 (fun _ => rfl), f.I 91 (fun _ => rfl)]; exact s.2.2 t ht
theorem cr_lawL {E : mv_E} {h : mv_H} {r l : Nat} {A : Nat → Int32} (c : cr_law E h r A l) (o : sp_lw A l) : ∃ L, mv_KE E h (mv_RE E h r (11 + l)) = (20, L) ∧ L ≤ 900 ∧ (L = 0 ↔ A (3 + l) = 0) ∧ (A (3 + l) ≠ 0 → L = sp_N A l ∧ (∀ i, i < L → mv_I h (mv_RE E h r (11 + l)) i = nI (cr_tr (sp_C A l i))) ∧ sp_cks l (sp_C A l) (sp_N A l) = some [true]) := by
  obtain ⟨L, a1, a2, a3, a4⟩ := c
  refine ⟨L, a1, ?_⟩
  rcases a4 with ⟨a4, rfl⟩ | ⟨a4, rfl, a5⟩
  · exact ⟨by omega, ⟨fun _ => a4, fun _ => rfl⟩, fun q => absurd a4 q⟩
  · rcases o with o | ⟨o1, o2, o3, o4, o5, o6⟩
    · rw [o] at a4; exact absurd a4 (by decide)
    · refine ⟨by omega, ⟨fun z => ?_, fun z => ?_⟩, fun _ => ⟨rfl, a5, o6⟩⟩
      · rw [z] at o6; cases o6
      · rw [a4] at z; exact absurd z (by decide)
theorem cr_law93 {E : mv_E} {h : mv_H} {r l : Nat} {A : Nat → Int32} (hl : l < 2) (s0 : cr_ad r) (c : cr_law E h r A l) : mv_RE E h r (11 + l) ≠ 93 ∧ mv_RE E h r (11 + l) ≠ 87 := by
  obtain ⟨L, a1, a2, a3, a4⟩ := c
  unfold cr_ad at s0
  rcases a2 with a2 | ⟨a2, -⟩ <;> omega
theorem mx_KEsI {E : mv_E} {h : mv_H} {a k b : Nat} {x : Int32} : mv_KE E (mv_sI h a k x) b = mv_KE E h b := rfl
theorem mx_REsI {E : mv_E} {h : mv_H} {a k b j : Nat} {x : Int32} : mv_RE E (mv_sI h a k x) b j = mv_RE E h b j := rfl
theorem mx_RsI {h : mv_H} {a k : Nat} {x : Int32} : mv_R (mv_sI h a k x) = mv_R h := rfl
theorem mx_InE {h : mv_H} {a k b j : Nat} {x : Int32} (hb : b ≠ a) : mv_I (mv_sI h a k x) b j = mv_I h b j := by rw [mx_upI, if_neg (fun c => hb c.1)]
theorem mx_Isk {h : mv_H} {a k j : Nat} {x : Int32} (hb : j ≠ k) : mv_I (mv_sI h a k x) a j = mv_I h a j := by rw [mx_upI, if_neg (fun c => hb c.2)]
theorem mx_Iss {h : mv_H} {a k : Nat} {x : Int32} : mv_I (mv_sI h a k x) a k = x := by rw [mx_upI, if_pos ⟨rfl, rfl⟩]
theorem ct53 {E : mv_E} {D k n : Nat} {h : mv_H} {Q : mv_Q} {A : Nat → Int32} {x1 x2 : Int32} (p s : Nat) (se : se_at E h A) (ok : sp_ok A) (vb : sp_vb A) (hs : s < 2 ^ sp_P A) (hp : p < sp_P A) (e1 : x1 = nI p) (e2 : x2 = nI s) (H : ∀ h', mx_fr mx_s4 h h' → Q (some (.int (nI (sp_lets A s p).toNat))) h') : mv_VE E (D + 2) k n 53 0 [some (.ref 87), some (.int x1), some (.int x2)] [] h Q := by
  subst e1; subst e2
  obtain ⟨⟨⟨s0, s1, -, ⟨s2, s3⟩, -, -, ⟨s4, s5⟩, -⟩, ⟨v0, -, -, v1, -, v2, -⟩, l0, -⟩, ⟨k1, k2⟩, -⟩ := se
  have h8 := ok.2.1
  have hp2 := mx_p2 h8
  have hH := H h mx_fr.rf
  unfold sp_lets at H hH
  obtain ⟨L, L1, L2, L3, L4⟩ := cr_lawL l0 ok.2.2.2.1
  obtain ⟨n93, n87⟩ := cr_law93 (by omega) s0 l0
  have r87 : mv_R h 87 0 + 5 ≠ 87 := by unfold cr_ad at s0; omega
  have r87' : mv_R h 87 0 + 2 ≠ 87 := by unfold cr_ad at s0; omega
  obtain ⟨b1, b2⟩ := ok.2.2.1 p hp
  apply sg53_0
  refine mx_ltF p 0 (by omega) ?_ (by omega)
  simp only [mx_KEsI, mx_REsI, mx_RsI]
  rw [s1, s2, s3, s4, s5, L1, v0, ok.1]
  refine mv_gdI rfl ?_
  refine mx_ltT p (sp_P A) hp ?_ (by omega)
  refine mx_ifb (s.testBit p) (mx_bit0 (by omega) (by omega)) (fun b => ?_) (fun b => ?_)
  · rw [b] at hH; exact hH
  rw [b] at H hH
  refine mv_gdI rfl (mv_gdI rfl ?_)
  refine mx_eq L 0 (fun z => ?_) (fun z => ?_) (by omega) (by omega)
  · rw [decide_eq_true (L3.mp z)] at hH; exact hH
  have nz : ¬ A 3 = 0 := fun c => z (L3.mpr c)
  rw [decide_eq_false nz] at H
  obtain ⟨L5, L6, L7⟩ := L4 nz
  have i8 : (true && mv_in (nI p) 8) = true := mx_inT p (by omega) (by omega)
  refine mv_gdI rfl (mv_gdI i8 (mv_gdI rfl (mv_gdI i8 (mv_gdI i8 (mv_gdI rfl (mv_gdI i8 (mv_gdI rfl ?_)))))))
  subst L5
  refine ct54 0 (sp_N A 0) (sp_C A 0) (sp_wL A s p) L1 n93 L2 ?_ L7 ?_ (fun j _ => sp_wL_sm h8 vb s p hp j) (fun h' fr => ⟨_, rfl, mv_gdI (mx_b01 _) ?_⟩)
  · intro i hi
    rw [mx_InE n87, mx_InE n87, mx_InE n87, mx_InE n87, mx_InE n87, mx_InE n87]
    exact L6 i hi
  · intro j hj
    rw [nI_clamp (n := p) (by omega)]
    have c1 : sp_B A p &&& s < 256 := Nat.lt_of_le_of_lt Nat.and_le_right (by omega)
    have c2 : mx_wo (sp_B A p) s < 256 := mx_wo_lt (n := 8) (by omega)
    unfold sp_okw at hj
    simp only [Bool.or_eq_true, Bool.and_eq_true, decide_eq_true_eq] at hj
    rcases (by omega : j = 0 ∨ j = 1 ∨ j = 2 ∨ j = 3 ∨ j = 4 ∨ j = 5 ∨ j = 6) with rfl | rfl | rfl | rfl | rfl | rfl | rfl
    · exact mx_305 s (by omega)
    · exact k1
    · exact k2 p hp
    · refine Eq.trans ?_ (v1 p (by omega))
      show mv_I (mv_sI _ 87 10 _) (mv_R h 87 0 + 2) p = _
      rw [mx_InE r87', mx_InE r87', mx_InE r87', mx_InE r87', mx_InE r87']
    · rfl
    · show pf305 (mv_I (mv_sI (mv_sI h 87 6 _) 87 7 _) (mv_R h 87 0 + 5) p &&& nI s) = _
      rw [mx_InE r87, mx_InE r87, v2 p (by omega), b1, mx_and]
      exact mx_305 _ c1
    · show pf305 (mv_I (mv_sI (mv_sI (mv_sI h 87 6 _) 87 7 _) 87 8 _) (mv_R h 87 0 + 5) p &&& (nI s ^^^ (-1))) = _
      rw [mx_InE r87, mx_InE r87, mx_InE r87, v2 p (by omega), b1, mx_andn]
      exact mx_305 _ c2
  · exact H h' ((mx_fr.sI (S := mx_s4) (a := 87) (k := 6) rfl).tr ((mx_fr.sI (S := mx_s4) (a := 87) (k := 7) rfl).tr ((mx_fr.sI (S := mx_s4) (a := 87) (k := 8) rfl).tr ((mx_fr.sI (S := mx_s4) (a := 87) (k := 9) rfl).tr ((mx_fr.sI (S := mx_s4) (a := 87) (k := 10) rfl).tr ((mx_fr.sI (S := mx_s4) (a := 87) (k := 11) rfl).tr (mx_s934 fr)))))))
