/-! The Sea attends to a state. -/
def mx_sx (x a _ : Nat) : Bool := Nat.beq a x || Nat.beq a (x + 1)
theorem ct67 {E : mv_E} {D k n : Nat} {h : mv_H} {Q : mv_Q} {x0 x1 : Nat} (a0 : st_ad x0) (a1 : st_ad x1) (H : ∀ h', mx_fr (mx_sx x0) h h' → (∀ j, j < 3 → mv_I h' x0 j = mv_I h x1 j) → (∀ p, p < 8 → mv_I h' (x0 + 1) p = mv_I h (x1 + 1) p) → Q none h') : mv_VE E (D + 1) k n 67 0 [some (.ref x0), some (.ref x1)] [] h Q := by
  have n1 : x1 + 1 ≠ x0 := by unfold st_ad at a0 a1; omega
  apply sg67_0
  obtain ⟨g1, g2, g3⟩ := st_sh a0 E h
  obtain ⟨g4, g5, g6⟩ := st_sh a1 E h
  rw [g1, g4]
  refine mv_gdI rfl (mv_gdI rfl (mv_gdI rfl (mv_gdI rfl (mv_gdI rfl (mv_gdI rfl ?_)))))
  have hf : mx_fr (mx_sx x0) h (mv_sI (mv_sI (mv_sI h x0 0 (mv_I h x1 0)) x0 1 (mv_I (mv_sI h x0 0 (mv_I h x1 0)) x1 1)) x0 2 (mv_I (mv_sI (mv_sI h x0 0 (mv_I h x1 0)) x0 1 (mv_I (mv_sI h x0 0 (mv_I h x1 0)) x1 1)) x1 2)) := by
    have q : ∀ k, mx_sx x0 x0 k = true := fun k => by unfold mx_sx; rw [mv_beq]; rfl
    exact (mx_fr.sI (q 0)).tr ((mx_fr.sI (q 1)).tr (mx_fr.sI (q 2)))
  have h3 : ∀ j, j < 3 → mv_I (mv_sI (mv_sI (mv_sI h x0 0 (mv_I h x1 0)) x0 1 (mv_I (mv_sI h x0 0 (mv_I h x1 0)) x1 1)) x0 2 (mv_I (mv_sI (mv_sI h x0 0 (mv_I h x1 0)) x0 1 (mv_I (mv_sI h x0 0 (mv_I h x1 0)) x1 1)) x1 2)) x0 j = mv_I h x1 j := by
    intro j hj
    rcases (by omega : j = 0 ∨ j = 1 ∨ j = 2) with rfl | rfl | rfl
    · rw [mx_Isk (by omega), mx_Isk (by omega), mx_Iss]
    · rw [mx_Isk (by omega), mx_Iss, mx_upI, if_neg (by omega)]
    · rw [mx_Iss, mx_upI, if_neg (by omega), mx_upI, if_neg (by omega)]
  have h4 : mv_I (mv_sI (mv_sI (mv_sI h x0 0 (mv_I h x1 0)) x0 1 (mv_I (mv_sI h x0 0 (mv_I h x1 0)) x1 1)) x0 2 (mv_I (mv_sI (mv_sI h x0 0 (mv_I h x1 0)) x0 1 (mv_I (mv_sI h x0 0 (mv_I h x1 0)) x1 1)) x1 2)) (x1 + 1) = mv_I h (x1 + 1) := by
    funext j
    rw [mx_InE n1, mx_InE n1, mx_InE n1]
  generalize mv_sI (mv_sI (mv_sI h x0 0 (mv_I h x1 0)) x0 1 (mv_I (mv_sI h x0 0 (mv_I h x1 0)) x1 1)) x0 2 (mv_I (mv_sI (mv_sI h x0 0 (mv_I h x1 0)) x0 1 (mv_I (mv_sI h x0 0 (mv_I h x1 0)) x1 1)) x1 2) = h1 at hf h3 h4
  show mv_gd _ _
  obtain ⟨g1, g2, g3⟩ := st_sh a0 E h1
  obtain ⟨g4, g5, g6⟩ := st_sh a1 E h1
  rw [g1, g2, g3, g4, g5, g6]
  refine mv_gdI rfl (mv_gdI rfl (mv_gdI (by decide) ?_))
  have row : ∀ b j, mv_I (mv_cp h1 (x1 + 1) (x0 + 1) 0 0 8) b j = if b = x0 + 1 then va_cpy (mv_I h1 (x1 + 1)) (mv_I h1 (x0 + 1)) 0 0 8 j else mv_I h1 b j := by
    intro b j
    show mv_row _ (x0 + 1) _ b j = _
    unfold mv_row
    by_cases q : b = x0 + 1
    · rw [if_pos q, q, mv_beq]; rfl
    · rw [if_neg q, mv_bne q]; rfl
  refine H _ (hf.tr ⟨rfl, rfl, fun a k q => ?_, rfl, rfl⟩) (fun j hj => ?_) (fun p hp => ?_)
  · rw [row, if_neg (fun c => by unfold mx_sx at q; rw [c, mv_beq, Bool.or_true] at q; cases q)]
  · rw [row, if_neg (by omega)]; exact h3 j hj
  · rw [row, if_pos rfl, pk_cpy_in (by omega) (by omega), h4]
    congr 1
    omega
theorem ct320 {E : mv_E} {D k n : Nat} {h : mv_H} {Q : mv_Q} {x0 : Nat} {x1 : Int32} (L : Nat) (hK : mv_KE E h x0 = (20, L)) (hL : L < 2 ^ 31) (H : ∀ h', mx_fr (fun a _ => Nat.beq a x0) h h' → (∀ j, j < L → mv_I h' x0 j = x1) → Q none h') : mv_VE E D k n 320 0 [some (.ref x0), some (.int x1), none, none] [] h Q := by
  apply sg320_0
  rw [hK]
  refine mv_gdI rfl ?_
  refine mx_loop (P := fun i => ∀ h', mx_fr (fun a _ => Nat.beq a x0) h h' → (∀ j, j < i → mv_I h' x0 j = x1) → mv_VE E D k n 320 5 [some (.ref x0), some (.int x1), some (.int (nI i)), some (.int (nI L))] [] h' Q) L ?_ ?_ h mx_fr.rf (fun j hj => by omega)
  · intro h' fr q
    apply sg320_5
    exact mx_ltF L L (Nat.le_refl _) (H h' fr q) hL
  · intro i hi ih h' fr q
    apply sg320_5
    rw [fr.K, hK, nI_clamp (n := i) (by omega), nI_1]
    refine mx_ltT i L hi ?_ hL
    refine mv_gdI (mx_inT i hi (by omega)) ?_
    refine ih _ (fr.tr (mx_fr.sI (mv_beq x0))) (fun j hj => ?_)
    rw [mx_upI]
    by_cases z : j = i
    · rw [if_pos ⟨rfl, z⟩]
    · rw [if_neg (fun c => z c.2)]; exact q j (by omega)
/-- a State tells what A tells of parts and storm -/
def st_as (h : mv_H) (x : Nat) (A : Nat → Int32) : Prop := mv_I h x 1 = A 74 ∧ ∀ p, p < 8 → mv_I h (x + 1) p = A (66 + p)
theorem ct52 {E : mv_E} {D k n : Nat} {h : mv_H} {Q : mv_Q} {x : Nat} {A : Nat → Int32} (ax : st_ad x) (cr : cr_ok E h (mv_R h 87 0) A) (ok : sp_ok A) (as : st_as h x A) (H : ∀ b : Bool, (b = true ↔ se_lk h A) → Q (some (.int (nI b.toNat))) h) : mv_VE E D k n 52 0 [some (.ref 87), some (.ref x), none] [] h Q := by
  obtain ⟨g1, g2, g3⟩ := st_sh ax E h
  have h8 := ok.2.1
  apply sg52_0
  rw [g1, as.1]
  refine mv_gdI rfl ?_
  refine mx_if (fun q => ?_) (fun q => H false ⟨(fun c => nomatch c), fun c => absurd c.1.symm q⟩)
  refine mx_loop (P := fun i => (∀ p, p < i → mv_I h 89 p = A (66 + p)) → mv_VE E D k n 52 18 [some (.ref 87), some (.ref x), some (.int (nI i))] [] h Q) (sp_P A) ?_ ?_ (fun p hp => by omega)
  · intro z
    apply sg52_18
    rw [cr.1.2.1, cr.2.1.1, ok.1]
    refine mv_gdI rfl ?_
    exact mx_ltF (sp_P A) (sp_P A) (Nat.le_refl _) (H true ⟨fun _ => ⟨q.symm, z⟩, fun _ => rfl⟩) (by omega)
  · intro i hi ih z
    apply sg52_18
    rw [cr.1.2.1, cr.2.1.1, ok.1, g1, g2, g3, nI_clamp (n := i) (by omega), as.2 i (by omega), nI_1]
    refine mv_gdI rfl ?_
    refine mx_ltT i (sp_P A) hi ?_ (by omega)
    have i8 : (true && mv_in (nI i) 8) = true := mx_inT i (by omega) (by omega)
    refine mv_gdI rfl (mv_gdI i8 (mv_gdI i8 ?_))
    refine mx_if (fun q2 => ih (fun p hp => ?_)) (fun q2 => H false ⟨(fun c => nomatch c), fun c => absurd (c.2 i hi).symm q2⟩)
    rcases (by omega : p < i ∨ p = i) with q3 | q3
    · exact z p q3
    · rw [q3]; exact q2.symm
def mx_s6 (a _ : Nat) : Bool := Nat.ble 87 a && Nat.ble a 91
theorem mx_s6r {a k : Nat} (h : cr_reg a) : mx_s6 a k = false := by
  unfold cr_reg at h; unfold mx_s6
  cases z : Nat.ble 87 a with
  | false => rfl
  | true =>
    cases z2 : Nat.ble a 91 with
    | false => rfl
    | true =>
      have := Nat.le_of_ble_eq_true z
      have := Nat.le_of_ble_eq_true z2
      omega
def se_iv (E : mv_E) (h : mv_H) : Prop := ∃ A, sp_ok A ∧ se_at E h A
theorem ct51 {E : mv_E} {D k n : Nat} {h : mv_H} {Q : mv_Q} {r x : Nat} {A : Nat → Int32} (iv : se_iv E h) (ax : st_ad x) (nx : x ≠ 88) (cr : cr_ok E h r A) (ok : sp_ok A) (as : st_as h x A) (H : ∀ h', mx_fz mx_s6 h h' → se_at E h' A → Q none h') : mv_VE E (D + 2) k n 51 0 [some (.ref 87), some (.ref r), some (.ref x)] [] h Q := by
  obtain ⟨A0, ok0, se⟩ := iv
  have r50 : 50 ≤ r := by have := cr.1.1; unfold cr_ad at this; omega
  have q50 : 50 ≤ mv_R h 87 0 := by have := se.1.1.1; unfold cr_ad at this; omega
  have n89 : x + 1 ≠ 89 ∧ x ≠ 89 ∧ x + 1 ≠ 88 ∧ ¬ (87 ≤ x ∧ x ≤ 91) ∧ ¬ (87 ≤ x + 1 ∧ x + 1 ≤ 91) := by unfold st_ad at ax; omega
  have reset : ∀ h0, mx_fz mx_s6 h h0 → mv_VE E (D + 1) 0 0 67 0 [some (.ref 88), some (.ref x)] [] (mv_sR h0 87 0 r) (fun v h1 => v = none ∧ mv_VE E (D + 1) 0 0 320 0 [some (.ref 90), some (.int (-1)), none, none] [] h1 (fun v h2 => v = none ∧ mv_VE E (D + 1) 0 0 320 0 [some (.ref 91), some (.int (-1)), none, none] [] h2 (fun v h3 => v = none ∧ Q none h3))) := by
    intro h0 f0
    have f1 : mx_fz mx_s6 h (mv_sR h0 87 0 r) := f0.tr ⟨rfl, rfl, fun a k q => ⟨rfl, rfl, by
      show mv_up (mv_R h0) 87 0 r a k = _
      unfold mv_up
      by_cases c : a = 87
      · subst c; cases q
      · rw [mv_bne c]; rfl⟩⟩
    have R1 : mv_R (mv_sR h0 87 0 r) 87 0 = r := rfl
    generalize mv_sR h0 87 0 r = h1 at f1 R1
    have s6x : ∀ k, mx_s6 x k = false := fun k => by
      unfold mx_s6
      cases z : Nat.ble 87 x with
      | false => rfl
      | true =>
        cases z2 : Nat.ble x 91 with
        | false => rfl
        | true => exact absurd ⟨Nat.le_of_ble_eq_true z, Nat.le_of_ble_eq_true z2⟩ n89.2.2.2.1
    have s6y : ∀ k, mx_s6 (x + 1) k = false := fun k => by
      unfold mx_s6
      cases z : Nat.ble 87 (x + 1) with
      | false => rfl
      | true =>
        cases z2 : Nat.ble (x + 1) 91 with
        | false => rfl
        | true => exact absurd ⟨Nat.le_of_ble_eq_true z, Nat.le_of_ble_eq_true z2⟩ n89.2.2.2.2
    refine ct67 (Or.inr (Or.inr (Or.inr (Or.inl rfl)))) ax (fun h2 g2 c1 c2 => ⟨rfl, ?_⟩)
    have b1 : mv_I h2 88 1 = A 74 := by rw [c1 1 (by omega), f1.I x s6x]; exact as.1
    have b2 : ∀ p, p < 8 → mv_I h2 89 p = A (66 + p) := fun p hp => by
      have := c2 p hp
      rw [f1.I (x + 1) s6y] at this
      exact this.trans (as.2 p hp)
    have f2 : mx_fz mx_s6 h h2 := f1.tr (g2.z.to (fun a k q => by
      unfold mx_sx
      rw [mv_bne (fun c => by rw [c] at q; cases q), mv_bne (fun c => by rw [c] at q; cases q)]
      rfl))
    have R2 : mv_R h2 87 0 = r := by rw [g2.2.2.2.2]; exact R1
    refine ct320 256 rfl (by omega) (fun h3 g3 d1 => ⟨rfl, ?_⟩)
    have f3 : mx_fz mx_s6 h h3 := f2.tr (g3.z.to (fun a k q => mv_bne (fun c => by rw [c] at q; cases q)))
    refine ct320 256 rfl (by omega) (fun h4 g4 d2 => ⟨rfl, ?_⟩)
    have f4 : mx_fz mx_s6 h h4 := f3.tr (g4.z.to (fun a k q => mv_bne (fun c => by rw [c] at q; cases q)))
    have hp2 := mx_p2 ok.2.1
    refine H h4 f4 ⟨?_, ⟨?_, fun p hp => ?_⟩, fun s hs => ⟨Or.inl ?_, Or.inl ?_⟩⟩
    · rw [g4.2.2.2.2, g3.2.2.2.2, R2]
      exact cr.fz f4 (fun a k => mx_s6r)
    · rw [g4.I 88 (fun _ => rfl), g3.I 88 (fun _ => rfl)]; exact b1
    · rw [g4.I 89 (fun _ => rfl), g3.I 89 (fun _ => rfl)]; exact b2 p (by have := ok.2.1; omega)
    · rw [g4.I 90 (fun _ => rfl)]; exact d1 s (by omega)
    · exact d2 s (by omega)
  apply sg51_0
  refine mv_gdI (by rw [Bool.and_eq_true]; exact ⟨Nat.ble_eq_true_of_le q50, Nat.ble_eq_true_of_le r50⟩) ?_
  refine mx_if (fun q => ?_) (fun q => reset h mx_fz.rf)
  refine ct52 ax (by rw [q]; exact cr) ok as (fun b hb => ⟨_, rfl, ?_⟩)
  cases b with
  | false => rw [if_pos (by rfl)]; exact reset h mx_fz.rf
  | true =>
    rw [if_neg (by decide)]
    obtain ⟨k1, k2⟩ := hb.mp rfl
    have c0 : cr_ok E h r A0 := by rw [← q]; exact se.1
    have eP : sp_P A = sp_P A0 := by unfold sp_P; rw [← cr.2.1.1, ← c0.2.1.1]
    have sm : sp_sim A0 A := cr_same c0 cr ok0 ok (k1.symm.trans se.2.1.1) (fun p hp => (k2 p (by omega)).symm.trans (se.2.1.2 p hp))
    refine H h mx_fz.rf ⟨by rw [q]; exact cr, ⟨k1, k2⟩, fun s hs => ?_⟩
    rw [sm.week ok0.2.1, sm.float ok0.2.1]
    exact se.2.2 s (by rw [← eP]; exact hs)
