/-! Trays: numbers, write. -/
def vw_T (V : vw) (rs rm : Nat → Int32) (nu : Nat → Int64) : vw := (V.1, V.2.1, V.2.2.1, V.2.2.2.1, V.2.2.2.2.1, V.2.2.2.2.2.1, rs, rm, nu)
theorem InvC0.tray {S : Nat → Nat → Bool} {E : mv_E} {h h' : mv_H} {V : vw} {rs rm : Nat → Int32} {nu : Nat → Int64} (z : mx_fz S h h') (hS : ∀ a k, ((a < 83 ∨ 96 < a) ∧ a ≠ 108 ∧ a ≠ 134 ∧ a ≠ 135 ∧ (a < 136 ∨ 143 < a) ∧ (a < 148 ∨ 165 ≤ a) ∧ (a ≠ 50 ∨ k ≠ 16)) → S a k = false) (i : InvC0 E h V) (ht : ∀ t, t < 4 → i_tray h' rs rm nu t) : InvC0 E h' (vw_T V rs rm nu) := by
  have hr : ∀ a k, cr_reg a → S a k = false := fun a k q => hS a k (by unfold cr_reg at q; omega)
  obtain ⟨⟨i1, i2, i3⟩, ⟨i4, i5⟩, i6, i7, i8, i9⟩ := i
  have R50 : ∀ k, k ≠ 16 → mv_R h' 50 k = mv_R h 50 k := fun k hk => (z.2.2 50 k (hS 50 k (by omega))).2.2
  have R110 : mv_R h' 110 = mv_R h 110 := z.Rr 110 (fun k => hS 110 k (by omega))
  have R132 : mv_R h' 132 = mv_R h 132 := z.Rr 132 (fun k => hS 132 k (by omega))
  have im : ∀ j, j < 2 → i_img E h (vA V) (vHi V) j → i_img E h' (vA V) (vHi V) j := by
    intro j hj q
    unfold i_img
    rw [R132]
    rcases q with q | ⟨q1, q2, q3⟩
    · exact Or.inl q
    · exact Or.inr ⟨q1, q2.fz z hr, q3.fz z (fun k => hS _ k (by omega)) (fun k => hS _ k (by omega))⟩
  refine ⟨⟨?_, ?_, ?_⟩, ⟨im 0 (by omega) i4, im 1 (by omega) i5⟩, ht, ?_, ?_, ?_⟩
  · rw [R50 3 (by omega)]; exact i1.fz z hr
  · exact i2.fz z (fun k => hS _ k (by omega)) (fun k => hS _ k (by omega))
  · unfold i_past
    rw [R110, z.I 109 (fun k => hS _ k (by omega))]
    refine ⟨i3.1, i3.2.1, i3.2.2.1, fun i c hi => ?_⟩
    obtain ⟨j, hj, e⟩ := i3.2.1 i c
    exact (i3.2.2.2 i c hi).fz z (fun k => hS _ k (by omega)) (fun k => hS _ k (by omega))
  · unfold i_tape
    rw [(z.2.2 50 1 (hS 50 1 (by omega))).1, z.I 51 (fun k => hS _ k (by omega))]
    exact i7
  · rw [z.I 52 (fun k => hS _ k (by omega))]; exact i8
  · unfold i_ways
    rw [R50 14 (by omega), R50 15 (by omega)]; exact i9
theorem InvM.tray {V : vw} {rs rm : Nat → Int32} {nu : Nat → Int64} (m : InvM V) (ht : ∀ t, t < 4 → m_tray rs rm t) : InvM (vw_T V rs rm nu) := ⟨m.1, m.2.1, ht, m.2.2.2⟩
theorem ty_sh {t : Nat} (ht : t < 4) (E : mv_E) (h : mv_H) : mv_KE E h (136 + 2 * t) = (8, 3) ∧ mv_RE E h (136 + 2 * t) 0 = 137 + 2 * t ∧ mv_KE E h (137 + 2 * t) = (22, 40) := by
  rcases (by omega : t = 0 ∨ t = 1 ∨ t = 2 ∨ t = 3) with rfl | rfl | rfl | rfl <;> exact ⟨rfl, rfl, rfl⟩
/-- is x below N -/
def bn (x : Int32) (N : Nat) : Bool := !decide (x < 0) && decide (x < nI N)
theorem bnT {x : Int32} {N : Nat} (hN : N < 2 ^ 31) (h : bn x N = true) : ∃ j, j < N ∧ x = nI j := by
  unfold bn at h
  simp only [Bool.and_eq_true, Bool.not_eq_true', decide_eq_false_iff_not, decide_eq_true_eq] at h
  obtain ⟨j, hj, rfl⟩ := nI_of h.1
  rw [nI_ltI hj hN] at h
  exact ⟨j, h.2, rfl⟩
theorem bn_w {x : Int32} {H : Int64} (N : Nat) (hN : N + 1 < 2 ^ 31) (hH : H = (nI N).toInt64) : pf182 x.toInt64 0 H = bn x (N + 1) := by
  have w := mx_wi (x := x) (L := 0) (H := H) 0 (nI N) rfl hH
  rw [w]
  unfold bn
  congr 1
  by_cases q : x < nI (N + 1)
  · rw [decide_eq_true q, decide_eq_false]
    · rfl
    · rw [Int32.lt_iff_toInt_lt, nI_toInt (by omega)] at q
      rw [Int32.lt_iff_toInt_lt, nI_toInt (by omega)]
      omega
  · rw [decide_eq_false q, decide_eq_true]
    · rfl
    · rw [Int32.lt_iff_toInt_lt, nI_toInt (by omega)] at q
      rw [Int32.lt_iff_toInt_lt, nI_toInt (by omega)]
      omega
theorem bn_gt {x : Int32} {N : Nat} (hN : N + 1 < 2 ^ 31) (h0 : ¬ x < 0) : bn x (N + 1) = !decide (nI N < x) := by
  unfold bn
  rw [decide_eq_false h0, Bool.not_false, Bool.true_and]
  by_cases q : x < nI (N + 1)
  · rw [decide_eq_true q, decide_eq_false]
    · rfl
    · rw [Int32.lt_iff_toInt_lt, nI_toInt (by omega)] at q
      rw [Int32.lt_iff_toInt_lt, nI_toInt (by omega)]
      omega
  · rw [decide_eq_false q, decide_eq_true]
    · rfl
    · rw [Int32.lt_iff_toInt_lt, nI_toInt (by omega)] at q
      rw [Int32.lt_iff_toInt_lt, nI_toInt (by omega)]
      omega
theorem bn_119 (x : Int32) : pf119 x = bn x 4 := by
  unfold pf119 bn
  by_cases q : x < 0
  · rw [if_pos q, decide_eq_true q]; rfl
  · rw [if_neg q, decide_eq_false q]
    by_cases r : x < 4
    · rw [if_pos r, decide_eq_true (show x < nI 4 from r)]; rfl
    · rw [if_neg r, decide_eq_false (show ¬ x < nI 4 from r)]; rfl
theorem mx_upJ {h : mv_H} {a k b j : Nat} {x : Int64} : mv_J (mv_sJ h a k x) b j = if b = a ∧ j = k then x else mv_J h b j := by
  show mv_up _ a k x b j = _
  unfold mv_up
  by_cases q : b = a
  · subst q
    rw [mv_beq]
    by_cases r : j = k
    · subst r; rw [mv_beq, if_pos ⟨rfl, rfl⟩]; rfl
    · rw [mv_bne r, if_neg (fun c => r c.2)]; rfl
  · rw [mv_bne q, if_neg (fun c => q c.1)]; rfl
theorem mx_fz.sJ {S : Nat → Nat → Bool} {h : mv_H} {a k : Nat} {x : Int64} (hS : S a k = true) : mx_fz S h (mv_sJ h a k x) := ⟨rfl, rfl, fun b j q => ⟨rfl, by rw [mx_upJ, if_neg (fun c => by rw [c.1, c.2, hS] at q; cases q)], rfl⟩⟩
theorem ct322 {E : mv_E} {D k n : Nat} {h : mv_H} {Q : mv_Q} {x0 : Nat} {x1 : Int64} (L : Nat) (hK : mv_KE E h x0 = (22, L)) (hL : L < 2 ^ 31) (H : ∀ h', mx_fz (fun a _ => Nat.beq a x0) h h' → mv_I h' = mv_I h → (∀ j, j < L → mv_J h' x0 j = x1) → Q none h') : mv_VE E D k n 322 0 [some (.ref x0), some (.long x1), none, none, none] [] h Q := by
  apply sg322_0
  rw [hK]
  refine mv_gdI rfl ?_
  refine mx_loop (P := fun i => ∀ h', mx_fz (fun a _ => Nat.beq a x0) h h' → mv_I h' = mv_I h → (∀ j, j < i → mv_J h' x0 j = x1) → mv_VE E D k n 322 6 [some (.ref x0), some (.long x1), none, some (.int (nI i)), some (.int (nI L))] [] h' Q) L ?_ ?_ h mx_fz.rf rfl (fun j hj => by omega)
  · intro h' fr eI q
    apply sg322_6
    exact mx_ltF L L (Nat.le_refl _) (H h' fr eI q) hL
  · intro i hi ih h' fr eI q
    apply sg322_6
    rw [fr.K, hK, nI_clamp (n := i) (by omega), nI_1]
    refine mx_ltT i L hi ?_ hL
    refine mv_gdI (mx_inT i hi (by omega)) ?_
    refine ih _ (fr.tr (mx_fz.sJ (mv_beq x0))) eI (fun j hj => ?_)
    rw [mx_upJ]
    by_cases z : j = i
    · rw [if_pos ⟨rfl, z⟩]
    · rw [if_neg (fun c => z c.2)]; exact q j (by omega)
-- numbers
def mx_upT (f : Nat → Int32) (t : Nat) (x : Int32) : Nat → Int32 := fun j => if j = t then x else f j
def V_numbers (V : vw) (x y z : Int32) : vw := cond (bn x 4 && (bn y 4 && bn z 41)) (vw_T V (mx_upT (vRs V) x.toNatClampNeg y) (mx_upT (vRm V) x.toNatClampNeg z) (fun k => if 40 * x.toNatClampNeg ≤ k ∧ k < 40 * x.toNatClampNeg + z.toNatClampNeg then 0 else vNu V k)) V
def v_numbers (x y z : Int32) : Int32 := cond (bn x 4 && bn y 4) (cond (bn z 41) 0 (-3)) (-2)
theorem im_numbers {V : vw} {x y z : Int32} (m : InvM V) : InvM (V_numbers V x y z) := by
  unfold V_numbers
  cases a : (bn x 4 && (bn y 4 && bn z 41)) with
  | false => exact m
  | true =>
    rw [Bool.and_eq_true, Bool.and_eq_true] at a
    obtain ⟨t, ht, rfl⟩ := bnT (by omega) a.1
    obtain ⟨so, hso, rfl⟩ := bnT (by omega) a.2.1
    obtain ⟨n, hn, rfl⟩ := bnT (by omega) a.2.2
    rw [nI_clamp (n := t) (by omega)]
    refine m.tray (fun u hu => ?_)
    unfold m_tray mx_upT
    by_cases c : u = t
    · rw [if_pos c, if_pos c]; exact Or.inr ⟨so, n, hso, by omega, rfl, rfl⟩
    · rw [if_neg c, if_neg c]; exact m.2.2.1 u hu
theorem cc172 {E : mv_E} {D k n : Nat} {h : mv_H} {Q : mv_Q} {V : vw} {x y z : Int32} (i : InvC E h V) (m : InvM V) (H : ∀ h', InvC E h' (V_numbers V x y z) → fCl h h' → Q (some (.int (v_numbers x y z))) h') : mv_VE E (D + 2) k n 172 0 [some (.ref 50), some (.int x), some (.int y), some (.int z)] [] h Q := by
  apply sg172_0
  unfold V_numbers v_numbers at H
  refine mx_cdb _ (bn_119 x) (fun a => ?_) (fun a => ?_)
  · rw [a, Bool.true_and, Bool.true_and] at H
    refine mx_if (fun q => ?_) (fun q => mx_if (fun r => ?_) (fun r => ?_))
    · have b : bn y 4 = false := by unfold bn; rw [decide_eq_true q]; rfl
      rw [b] at H; exact H h i fCl.rf
    · have b : bn y 4 = false := by rw [bn_gt (N := 3) (by omega) q, decide_eq_true (show nI 3 < y from r)]; rfl
      rw [b] at H; exact H h i fCl.rf
    · have b : bn y 4 = true := by rw [bn_gt (N := 3) (by omega) q, decide_eq_false (show ¬ nI 3 < y from r)]; rfl
      rw [b, Bool.true_and, cond_true] at H
      refine mx_if (fun q => ?_) (fun q => mx_if (fun r => ?_) (fun r => ?_))
      · have b : bn z 41 = false := by unfold bn; rw [decide_eq_true q]; rfl
        rw [b] at H; exact H h i fCl.rf
      · have b : bn z 41 = false := by rw [bn_gt (N := 40) (by omega) q, decide_eq_true (show nI 40 < z from r)]; rfl
        rw [b] at H; exact H h i fCl.rf
      · have c : bn z 41 = true := by rw [bn_gt (N := 40) (by omega) q, decide_eq_false (show ¬ nI 40 < z from r)]; rfl
        rw [c] at H
        obtain ⟨t, ht, rfl⟩ := bnT (by omega) a
        obtain ⟨so, hso, rfl⟩ := bnT (by omega) b
        obtain ⟨N, hN, rfl⟩ := bnT (by omega) c
        rw [nI_clamp (n := t) (by omega), nI_clamp (n := N) (by omega)] at H
        obtain ⟨s1, s2, s3⟩ := ty_sh ht E h
        rw [nI_clamp (n := t) (by omega), s1]
        refine mv_gdI (mx_inT t ht (by omega)) (mv_gdI rfl ?_)
        apply sg88_0
        rw [s1, s2]
        refine mv_gdI rfl (mv_gdI rfl (mv_gdI rfl ?_))
        refine ct322 40 (ty_sh ht E _).2.2 (by omega) (fun h1 f1 e1 j1 => ⟨rfl, rfl, ?_⟩)
        have fz : mx_fz (fun a _ => Nat.beq a (136 + 2 * t) || Nat.beq a (137 + 2 * t)) h h1 := by
          refine mx_fz.tr (mx_fz.tr (mx_fr.sI (a := 136 + 2 * t) (k := 1) (x := nI so) (by rw [mv_beq]; rfl)).z (mx_fr.sI (a := 136 + 2 * t) (k := 2) (x := nI N) (by rw [mv_beq]; rfl)).z) (f1.to (fun a k q => ?_))
          cases w : Nat.beq a (137 + 2 * t) with
          | false => rfl
          | true => rw [w, Bool.or_true] at q; cases q
        have off : ∀ a k, (a ≠ 136 + 2 * t ∧ a ≠ 137 + 2 * t) → (fun a (_ : Nat) => Nat.beq a (136 + 2 * t) || Nat.beq a (137 + 2 * t)) a k = false := fun a k q => by
          dsimp only
          rw [mv_bne q.1, mv_bne q.2]; rfl
        refine H h1 ⟨InvC0.tray fz (fun a k q => off a k (by omega)) i.1 (fun u hu => ?_), i.2.fz fz (fun a k q => off a k (by unfold cr_reg at q; omega))⟩ (fz.toC (fun a k q => off a k (by omega)))
        unfold i_tray mx_upT
        by_cases c : u = t
        · subst c
          rw [if_pos rfl, if_pos rfl]
          refine Or.inr ⟨so, N, hso, by omega, rfl, ?_, rfl, ?_, fun j hj => ?_⟩
          · rw [e1, mx_Isk (by omega), mx_Iss]
          · rw [e1, mx_Iss]
          · rw [j1 j (by omega)]; exact (if_pos (show 40 * u ≤ 40 * u + j ∧ 40 * u + j < 40 * u + N by omega)).symm
        · rw [if_neg c, if_neg c]
          have eI : mv_I h1 (136 + 2 * u) = mv_I h (136 + 2 * u) := fz.I _ (fun k => off _ k (by omega))
          have eJ : ∀ k, mv_J h1 (137 + 2 * u) k = mv_J h (137 + 2 * u) k := fun k => (fz.2.2 _ k (off _ k (by omega))).2.1
          have old := i.1.2.2.1 u hu
          unfold i_tray at old
          rw [eI]
          rcases old with old | ⟨a1, a2, b1, b2, b3, b4, b5, b6, b7⟩
          · exact Or.inl old
          · refine Or.inr ⟨a1, a2, b1, b2, b3, b4, b5, b6, fun j hj => ?_⟩
            rw [eJ, b7 j hj]
            exact (if_neg (show ¬ (40 * t ≤ 40 * u + j ∧ 40 * u + j < 40 * t + N) by omega)).symm
  · rw [a] at H; exact H h i fCl.rf
theorem fM.atJ {V : vw} {h0 h : mv_H} {k : Nat} {x : Int64} (f : fM V h0 h) : fM (vw_T V (vRs V) (vRm V) (fun j => if j = k then x else vNu V j)) h0 (mv_sJ h 164 k x) := by
  refine ⟨f.1.tr (mx_fz.sJ rfl), ?_⟩
  have e : mv_J (mv_sJ h 164 k x) 164 = fun j => if j = k then x else vNu V j := by
    funext j
    rw [mx_upJ, ← f.2]
    by_cases q : j = k
    · rw [if_pos ⟨rfl, q⟩, if_pos q]
    · rw [if_neg (fun c => q c.2), if_neg q]; rfl
  rw [← f.2] at e ⊢
  unfold vw_of vw_T
  rw [e]
  rfl
theorem fM.eqT {V : vw} {h0 h : mv_H} {rs rm : Nat → Int32} {nu nu' : Nat → Int64} (f : fM (vw_T V rs rm nu) h0 h) (e : ∀ k, nu k = nu' k) : fM (vw_T V rs rm nu') h0 h := by
  rw [← show nu = nu' from funext e]; exact f
theorem fM.at2 {V : vw} {h0 h : mv_H} {t : Nat} {x y : Int32} (f : fM V h0 h) : fM (vw_T V (mx_upT (vRs V) t x) (mx_upT (vRm V) t y) (vNu V)) h0 (mv_sI (mv_sI h 162 t x) 163 t y) := by
  refine ⟨f.1.tr ((mx_fr.sI (S := mx_sM) rfl).z.tr (mx_fr.sI (S := mx_sM) rfl).z), ?_⟩
  have e1 : mv_I (mv_sI (mv_sI h 162 t x) 163 t y) 162 = mx_upT (vRs V) t x := by
    funext j
    rw [mx_InE (by omega), mx_upI, ← f.2]
    unfold mx_upT
    by_cases q : j = t
    · rw [if_pos ⟨rfl, q⟩, if_pos q]
    · rw [if_neg (fun c => q c.2), if_neg q]; rfl
  have e2 : mv_I (mv_sI (mv_sI h 162 t x) 163 t y) 163 = mx_upT (vRm V) t y := by
    funext j
    rw [mx_upI, ← f.2]
    unfold mx_upT
    by_cases q : j = t
    · rw [if_pos ⟨rfl, q⟩, if_pos q]
    · rw [if_neg (fun c => q c.2), if_neg q, mx_InE (by omega)]; rfl
  rw [← f.2] at e1 e2 ⊢
  unfold vw_of vw_T
  rw [e1, e2]
  rfl
theorem cm298 {E : mv_E} {D k n : Nat} {h : mv_H} {Q : mv_Q} {V : vw} {x y z : Int32} (e : vw_of h = V) (H : ∀ h', fM (V_numbers V x y z) h h' → Q (some (.int (v_numbers x y z))) h') : mv_VE E (D + 1) k n 298 0 [some (.ref 148), some (.int x), some (.int y), some (.int z), none] [] h Q := by
  have f0 := fM.of e
  apply sg298_0
  unfold V_numbers v_numbers at H
  refine mx_cdb _ (bn_w 3 (by omega) rfl) (fun a => ?_) (fun a => ?_)
  · have a : bn x 4 = true := a
    refine mx_cdb _ (bn_w 3 (by omega) rfl) (fun b => ?_) (fun b => ?_)
    · have b : bn y 4 = true := b
      refine mx_cdb _ (bn_w 40 (by omega) rfl) (fun c => ?_) (fun c => ?_)
      · have c : bn z 41 = true := c
        rw [a, b, c] at H
        obtain ⟨t, ht, rfl⟩ := bnT (by omega) a
        obtain ⟨so, hso, rfl⟩ := bnT (by omega) b
        obtain ⟨N, hN, rfl⟩ := bnT (by omega) c
        rw [nI_clamp (n := t) (by omega), nI_clamp (n := N) (by omega)] at H
        rw [nI_clamp (n := t) (by omega)]
        refine mv_gdI (mx_inT t ht (by omega)) (mv_gdI (mx_inT t ht (by omega)) ?_)
        refine mx_loop (P := fun j => ∀ h', fM (vw_T V (mx_upT (vRs V) t (nI so)) (mx_upT (vRm V) t (nI N)) (fun k => if 40 * t ≤ k ∧ k < 40 * t + j then 0 else vNu V k)) h h' → mv_VE E (D + 1) k n 298 64 [some (.ref 148), some (.int (nI t)), none, some (.int (nI N)), some (.int (nI j))] [] h' Q) N ?_ ?_ _ ((f0.at2 (t := t) (x := nI so) (y := nI N)).eqT (fun k => by rw [if_neg (by omega)]))
        · intro h' f'
          apply sg298_64
          exact mx_ltF N N (Nat.le_refl _) (H h' f') (by omega)
        · intro j hj ih h' f'
          apply sg298_64
          rw [show (40 : Int32) * nI t = nI (40 * t) from pk_mul 40 t, nI_add, nI_clamp (n := 40 * t + j) (by omega), nI_1]
          refine mx_ltT j N hj (mv_gdI (mx_inT (40 * t + j) (by omega) (by omega)) ?_) (by omega)
          refine ih _ ((f'.atJ (k := 40 * t + j) (x := 0)).eqT (fun k => ?_))
          show (if k = 40 * t + j then (0 : Int64) else if 40 * t ≤ k ∧ k < 40 * t + j then 0 else vNu V k) = if 40 * t ≤ k ∧ k < 40 * t + (j + 1) then 0 else vNu V k
          by_cases c : k = 40 * t + j
          · rw [if_pos c, if_pos (by omega)]
          · rw [if_neg c]
            by_cases c2 : 40 * t ≤ k ∧ k < 40 * t + j
            · rw [if_pos c2, if_pos (by omega)]
            · rw [if_neg c2, if_neg (by omega)]
      · have c : bn z 41 = false := c
        rw [a, b, c] at H; exact H _ f0
    · have b : bn y 4 = false := b
      rw [a, b] at H; exact H _ f0
  · have a : bn x 4 = false := a
    rw [a] at H; exact H _ f0
