/-! The past: the model's notes, the class's Past. -/
def mx_upA (A : Nat → Int32) (k : Nat) (x : Int32) : Nat → Int32 := fun j => if j = k then x else A j
theorem fM.at {V : vw} {h0 h : mv_H} {k : Nat} {x : Int32} (f : fM V h0 h) : fM (vw_A V (mx_upA (vA V) k x)) h0 (mv_sI h 149 k x) := by
  refine ⟨f.1.tr (mx_fr.sI (S := mx_sM) rfl).z, ?_⟩
  have e : mv_I (mv_sI h 149 k x) 149 = mx_upA (vA V) k x := by
    funext j
    rw [mx_upI, ← f.A]
    unfold mx_upA
    by_cases q : j = k
    · rw [if_pos ⟨rfl, q⟩, if_pos q]
    · rw [if_neg (fun c => q c.2), if_neg q]
  rw [← f.2] at e ⊢
  unfold vw_of vw_A
  rw [e]
  rfl
theorem fM.sc {V : vw} {h0 h : mv_H} {a k : Nat} {x : Int32} (f : fM V h0 h) (hM : mx_sM a k = true) (ha : a ≠ 149 ∧ a ≠ 150 ∧ a ≠ 151 ∧ a ≠ 162 ∧ a ≠ 163 ∧ (a ≠ 148 ∨ (k ≠ 5 ∧ k ≠ 13 ∧ k ≠ 14))) : fM V h0 (mv_sI h a k x) := by
  refine ⟨f.1.tr (mx_fr.sI hM).z, ?_⟩
  obtain ⟨a1, a2, a3, a4, a5, a6⟩ := ha
  have e : ∀ b, b ≠ a → mv_I (mv_sI h a k x) b = mv_I h b := fun b hb => funext fun j => mx_InE hb
  have e8 : ∀ j, (j = 5 ∨ j = 13 ∨ j = 14) → mv_I (mv_sI h a k x) 148 j = mv_I h 148 j := fun j hj => by rw [mx_upI, if_neg (by omega)]
  rw [← f.2]
  unfold vw_of
  rw [e 149 (Ne.symm a1), e 150 (Ne.symm a2), e 151 (Ne.symm a3), e 162 (Ne.symm a4), e 163 (Ne.symm a5), e8 5 (by omega), e8 13 (by omega), e8 14 (by omega)]
  rfl
theorem fM.eqA {V : vw} {h0 h : mv_H} {A1 A2 : Nat → Int32} (f : fM (vw_A V A1) h0 h) (e : ∀ k, A1 k = A2 k) : fM (vw_A V A2) h0 h := by
  rw [← show A1 = A2 from funext e]; exact f
theorem vw_AA (V : vw) (A B : Nat → Int32) : vw_A (vw_A V A) B = vw_A V B := rfl
theorem vw_Aid (V : vw) : vw_A V (vA V) = V := rfl
theorem cw227 {E : mv_E} {D k n : Nat} {h0 h : mv_H} {Q : mv_Q} {V : vw} (f : fM V h0 h) (H : ∀ h', fM V h0 h' → (∀ j, j < 11 → mv_I h' 155 j = vA V (65 + j)) → Q none h') : mv_VE E D k n 227 0 [some (.ref 148), none] [] h Q := by
  apply sg227_0
  refine mx_loop (P := fun i => ∀ h', fM V h0 h' → (∀ j, j < i → mv_I h' 155 j = vA V (65 + j)) → mv_VE E D k n 227 2 [some (.ref 148), some (.int (nI i))] [] h' Q) 11 ?_ ?_ h f (fun j hj => by omega)
  · intro h' f' q
    apply sg227_2
    exact mx_ltF 11 11 (Nat.le_refl _) (H h' f' q) (by omega)
  · intro i hi ih h' f' q
    apply sg227_2
    rw [show (65 : Int32) + nI i = nI (65 + i) from nI_add 65 i, nI_clamp (n := 65 + i) (by omega), nI_clamp (n := i) (by omega), nI_1, f'.A]
    refine mx_ltT i 11 hi (mv_gdI (mx_inT (65 + i) (by omega) (by omega)) (mv_gdI (mx_inT i (by omega) (by omega)) ?_)) (by omega)
    refine ih _ (f'.sc rfl (by omega)) (fun j hj => ?_)
    rw [mx_upI]
    by_cases c : j = i
    · rw [if_pos ⟨rfl, c⟩, c]
    · rw [if_neg (fun d => c d.2)]; exact q j (by omega)
/-- one more that can be undone -/
def sp_note (A w : Nat → Int32) : Nat → Int32 := fun k =>
  if sp_d A = 10 then (if k = 76 then nI 10 else if 77 ≤ k ∧ k < 176 then A (k + 11) else if 176 ≤ k ∧ k < 187 then w (k - 176) else A k)
  else (if k = 76 then nI (sp_d A + 1) else if 77 + 11 * sp_d A ≤ k ∧ k < 77 + 11 * sp_d A + 11 then w (k - (77 + 11 * sp_d A)) else A k)
theorem cw230b {E : mv_E} {D k n : Nat} {h0 h : mv_H} {Q : mv_Q} {V : vw} (d : Nat) (w : Nat → Int32) (hd : d ≤ 9) (f : fM V h0 h) (e : vA V 76 = nI d) (hw : ∀ j, j < 11 → mv_I h 155 j = w j) (H : ∀ h', fM (vw_A V (fun k => if k = 76 then nI (d + 1) else if 77 + 11 * d ≤ k ∧ k < 77 + 11 * d + 11 then w (k - (77 + 11 * d)) else vA V k)) h0 h' → mv_I h' 155 = mv_I h 155 → Q none h') : mv_VE E D k n 230 57 [some (.ref 148), some (.int 0)] [] h Q := by
  refine mx_loop (P := fun i => ∀ h', fM (vw_A V (fun k => if 77 + 11 * d ≤ k ∧ k < 77 + 11 * d + i then w (k - (77 + 11 * d)) else vA V k)) h0 h' → mv_I h' 155 = mv_I h 155 → mv_VE E D k n 230 57 [some (.ref 148), some (.int (nI i))] [] h' Q) 11 ?_ ?_ h ?_ rfl
  · intro h' f' q
    have e76 : mv_I h' 149 76 = nI d := by
      rw [f'.A]
      show (if 77 + 11 * d ≤ 76 ∧ 76 < 77 + 11 * d + 11 then _ else vA V 76) = _
      rw [if_neg (by omega)]; exact e
    apply sg230_57
    rw [e76, nI_1]
    refine mx_ltF 11 11 (Nat.le_refl _) (H _ ((f'.at).eqA (fun k => ?_)) ?_) (by omega)
    · show mx_upA _ 76 _ k = _
      unfold mx_upA
      by_cases c : k = 76
      · rw [if_pos c, if_pos c]; exact nI_1 _
      · rw [if_neg c, if_neg c]; rfl
    · rw [← q]; rfl
  · intro i hi ih h' f' q
    have e76 : mv_I h' 149 76 = nI d := by
      rw [f'.A]
      show (if 77 + 11 * d ≤ 76 ∧ 76 < 77 + 11 * d + i then _ else vA V 76) = _
      rw [if_neg (by omega)]; exact e
    apply sg230_57
    rw [e76, show (11 : Int32) * nI d = nI (11 * d) from pk_mul 11 d, show (77 : Int32) + nI (11 * d) = nI (77 + 11 * d) from nI_add 77 _, nI_add, nI_clamp (n := 77 + 11 * d + i) (by omega), nI_clamp (n := i) (by omega), nI_1, q, hw i hi]
    refine mx_ltT i 11 hi (mv_gdI (mx_inT i (by omega) (by omega)) (mv_gdI (mx_inT (77 + 11 * d + i) (by omega) (by omega)) ?_)) (by omega)
    refine ih _ ((f'.at).eqA (fun k => ?_)) (by rw [← q]; rfl)
    show mx_upA _ _ _ k = _
    unfold mx_upA
    show (if k = 77 + 11 * d + i then w i else if 77 + 11 * d ≤ k ∧ k < 77 + 11 * d + i then w (k - (77 + 11 * d)) else vA V k) = if 77 + 11 * d ≤ k ∧ k < 77 + 11 * d + (i + 1) then w (k - (77 + 11 * d)) else vA V k
    by_cases c : k = 77 + 11 * d + i
    · rw [if_pos c, if_pos (by omega)]; congr 1; omega
    · rw [if_neg c]
      by_cases c2 : 77 + 11 * d ≤ k ∧ k < 77 + 11 * d + i
      · rw [if_pos c2, if_pos (by omega)]
      · rw [if_neg c2, if_neg (by omega)]
  · exact (show fM (vw_A V (vA V)) h0 h from f).eqA (fun k => by rw [if_neg (by omega)])
theorem cw230 {E : mv_E} {D k n : Nat} {h0 h : mv_H} {Q : mv_Q} {V : vw} (w : Nat → Int32) (f : fM V h0 h) (e : vA V 76 = nI (sp_d (vA V))) (hd : sp_d (vA V) ≤ 10) (hw : ∀ j, j < 11 → mv_I h 155 j = w j) (H : ∀ h', fM (vw_A V (sp_note (vA V) w)) h0 h' → mv_I h' 155 = mv_I h 155 → Q none h') : mv_VE E D k n 230 0 [some (.ref 148), none] [] h Q := by
  apply sg230_0
  rw [f.A, e]
  refine mx_eq (sp_d (vA V)) 10 (fun q => ?_) (fun q => ?_) (by omega) (by omega)
  · refine mx_loop (P := fun i => ∀ h', fM (vw_A V (fun k => if 77 ≤ k ∧ k < 77 + i then vA V (k + 11) else vA V k)) h0 h' → mv_I h' 155 = mv_I h 155 → mv_VE E D k n 230 14 [some (.ref 148), some (.int (nI i))] [] h' Q) 99 ?_ ?_ h ?_ rfl
    · intro h' f' q2
      have e76 : mv_I h' 149 76 = nI 10 := by
        rw [f'.A]
        show (if 77 ≤ 76 ∧ 76 < 77 + 99 then vA V (76 + 11) else vA V 76) = _
        rw [if_neg (by omega), e, q]
      apply sg230_14
      rw [e76]
      refine mx_ltF 99 99 (Nat.le_refl _) ?_ (by omega)
      have f2 := f'.at (k := 76) (x := nI 10 - 1)
      refine cw230b 9 w (by omega) f2 rfl (fun j hj => ?_) (fun h2 f3 q3 => H h2 (f3.eqA (fun k => ?_)) (q3.trans (by rw [← q2]; rfl)))
      · show mv_I h' 155 j = _
        rw [q2]; exact hw j hj
      · unfold sp_note
        rw [if_pos q]
        by_cases c : k = 76
        · rw [if_pos c, if_pos c]
        · rw [if_neg c, if_neg c]
          show (if 77 + 11 * 9 ≤ k ∧ k < 77 + 11 * 9 + 11 then w (k - (77 + 11 * 9)) else mx_upA _ 76 _ k) = _
          by_cases c2 : 176 ≤ k ∧ k < 187
          · rw [if_pos (by omega), if_neg (by omega), if_pos c2]
          · rw [if_neg (by omega)]
            unfold mx_upA
            rw [if_neg c]
            show (if 77 ≤ k ∧ k < 77 + 99 then vA V (k + 11) else vA V k) = _
            by_cases c3 : 77 ≤ k ∧ k < 176
            · rw [if_pos (by omega), if_pos c3]
            · rw [if_neg (by omega), if_neg c3, if_neg c2]
    · intro i hi ih h' f' q2
      have eA : mv_I h' 149 (88 + i) = vA V (88 + i) := by
        rw [f'.A]
        show (if 77 ≤ 88 + i ∧ 88 + i < 77 + i then _ else vA V (88 + i)) = _
        rw [if_neg (by omega)]
      apply sg230_14
      rw [show (88 : Int32) + nI i = nI (88 + i) from nI_add 88 i, show (77 : Int32) + nI i = nI (77 + i) from nI_add 77 i, nI_clamp (n := 88 + i) (by omega), nI_clamp (n := 77 + i) (by omega), nI_1, eA]
      refine mx_ltT i 99 hi (mv_gdI (mx_inT (88 + i) (by omega) (by omega)) (mv_gdI (mx_inT (77 + i) (by omega) (by omega)) ?_)) (by omega)
      refine ih _ ((f'.at).eqA (fun k => ?_)) (by rw [← q2]; rfl)
      show mx_upA _ _ _ k = _
      unfold mx_upA
      show (if k = 77 + i then vA V (88 + i) else if 77 ≤ k ∧ k < 77 + i then vA V (k + 11) else vA V k) = if 77 ≤ k ∧ k < 77 + (i + 1) then vA V (k + 11) else vA V k
      by_cases c : k = 77 + i
      · rw [if_pos c, if_pos (by omega)]; congr 1; omega
      · rw [if_neg c]
        by_cases c2 : 77 ≤ k ∧ k < 77 + i
        · rw [if_pos c2, if_pos (by omega)]
        · rw [if_neg c2, if_neg (by omega)]
    · exact (show fM (vw_A V (vA V)) h0 h from f).eqA (fun k => by rw [if_neg (by omega)])
  · refine cw230b (sp_d (vA V)) w (by omega) f e hw (fun h2 f3 q3 => H h2 (f3.eqA (fun k => ?_)) q3)
    unfold sp_note
    rw [if_neg q]
theorem mx_upR {h : mv_H} {a k b j x : Nat} : mv_R (mv_sR h a k x) b j = if b = a ∧ j = k then x else mv_R h b j := by
  show mv_up _ a k x b j = _
  unfold mv_up
  by_cases q : b = a
  · subst q
    rw [mv_beq]
    by_cases r : j = k
    · subst r; rw [mv_beq, if_pos ⟨rfl, rfl⟩]; rfl
    · rw [mv_bne r, if_neg (fun c => r c.2)]; rfl
  · rw [mv_bne q, if_neg (fun c => q c.1)]; rfl
def mx_sP (a _ : Nat) : Bool := Nat.ble 109 a && Nat.ble a 130
theorem mx_sPf {a k : Nat} (h : a < 109 ∨ 130 < a) : mx_sP a k = false := by
  unfold mx_sP
  cases z : Nat.ble 109 a with
  | false => rfl
  | true =>
    cases z2 : Nat.ble a 130 with
    | false => rfl
    | true =>
      have := Nat.le_of_ble_eq_true z
      have := Nat.le_of_ble_eq_true z2
      omega
theorem mx_sPt {a k : Nat} (h1 : 109 ≤ a) (h2 : a ≤ 130) : mx_sP a k = true := by
  unfold mx_sP
  rw [Nat.ble_eq_true_of_le h1, Nat.ble_eq_true_of_le h2]; rfl
theorem mx_fz.sR {S : Nat → Nat → Bool} {h : mv_H} {a k x : Nat} (hS : S a k = true) : mx_fz S h (mv_sR h a k x) := ⟨rfl, rfl, fun b j q => ⟨rfl, rfl, by rw [mx_upR, if_neg (fun c => by rw [c.1, c.2, hS] at q; cases q)]⟩⟩
theorem st_ad_p {j : Nat} (hj : j < 10) : st_ad (111 + 2 * j) := by unfold st_ad; omega
/-- remembering with room left -/
theorem ct20a {E : mv_E} {D k n : Nat} {h : mv_H} {Q : mv_Q} {x : Nat} {A w : Nat → Int32} (d : Nat) (hd : d < 10) (p1 : mv_I h 109 1 = nI d) (p2 : ∀ i, i < 10 → ∃ j, j < 10 ∧ mv_R h 110 i = 111 + 2 * j) (p3 : ∀ i j, i < 10 → j < 10 → mv_R h 110 i = mv_R h 110 j → i = j) (p4 : ∀ i, i < d → i_st h (mv_R h 110 i) (fun j => A (77 + 11 * i + j))) (ax : x = 81 ∨ x = 83) (hx : i_st h x w) (H : ∀ h', mx_fz mx_sP h h' → mv_I h' 109 1 = nI (d + 1) → mv_R h' = mv_R h → (∀ i, i < d → i_st h' (mv_R h 110 i) (fun j => A (77 + 11 * i + j))) → i_st h' (mv_R h 110 d) w → Q none h') : mv_gd (true && true && mv_in (mv_I h 109 1) 10) (mv_gd (Nat.beq (mv_KE E h (mv_R h 110 (mv_I h 109 1).toNatClampNeg)).1 6) (mv_VE E (D + 1) 0 0 67 0 [some (.ref (mv_R h 110 (mv_I h 109 1).toNatClampNeg)), some (.ref x)] [] h (fun v h1 => v = none ∧ Q none (mv_sI h1 109 1 ((mv_I h1 109 1) + 1))))) := by
  obtain ⟨j, hj, ej⟩ := p2 d hd
  have as := st_ad_p hj
  rw [p1, nI_clamp (by omega), ej, (st_sh as E h).1]
  refine mv_gdI (mx_inT d hd (by omega)) (mv_gdI rfl ?_)
  refine ct67 as (by unfold st_ad; omega) (fun h1 g c1 c2 => ⟨rfl, ?_⟩)
  have f1 : mx_fz mx_sP h h1 := g.z.to (fun a k q => by
    unfold mx_sx
    rw [mv_bne (fun c => by rw [c, mx_sPt (by omega) (by omega)] at q; cases q), mv_bne (fun c => by rw [c, mx_sPt (by omega) (by omega)] at q; cases q)]
    rfl)
  have e109 : mv_I h1 109 = mv_I h 109 := g.I 109 (fun k => by
    unfold mx_sx
    rw [mv_bne (by omega), mv_bne (by omega)]; rfl)
  rw [e109, p1, nI_1]
  have keep : ∀ a, a ≠ 109 → mv_I (mv_sI h1 109 1 (nI (d + 1))) a = mv_I h1 a := fun a ha => funext fun k => mx_InE ha
  refine H _ (f1.tr (mx_fr.sI (mx_sPt (by omega) (by omega))).z) (by rw [mx_Iss]) (by rw [mx_RsI, g.2.2.2.2]) (fun i hi => ?_) ?_
  · obtain ⟨q, hq, eq⟩ := p2 i (by omega)
    have ne : q ≠ j := fun c => by
      have := p3 i d (by omega) hd (by rw [eq, ej, c])
      omega
    have old := p4 i hi
    rw [eq] at old ⊢
    unfold i_st at old ⊢
    have s1 : ∀ b, b = 111 + 2 * q ∨ b = 111 + 2 * q + 1 → mv_I (mv_sI h1 109 1 (nI (d + 1))) b = mv_I h b := fun b hb => by
      rw [keep b (by omega)]
      exact g.I b (fun k => by
        unfold mx_sx
        rw [mv_bne (by omega), mv_bne (by omega)]; rfl)
    rw [s1 _ (Or.inl rfl), s1 _ (Or.inr rfl)]
    exact old
  · rw [ej]
    unfold i_st
    rw [keep _ (by omega), keep _ (by omega)]
    exact ⟨(c1 0 (by omega)).trans hx.1, (c1 1 (by omega)).trans hx.2.1, (c1 2 (by omega)).trans hx.2.2.1, fun p hp => (c2 p hp).trans (hx.2.2.2 p hp)⟩
