/-! Call: raft, by the model. -/
def rb (V : vw) (j : Nat) : Nat := (vTp V j).toNatClampNeg
def vw_R (V : vw) (A : Nat → Int32) (fk fp : Int32) : vw := (A, V.2.1, V.2.2.1, 0, fk, fp, V.2.2.2.2.2.2)
def rA (A F : Nat → Int32) : Nat → Int32 := fun k => if k < 1088 then F k else A k
def rk (V : vw) (N f i : Nat) : Nat := if tK (rb V) N i = 25 then 1 else f
def V_rf (V : vw) (N : Nat) (r : LR) : vw := match r with
  | .inl (f, i) => vw_R V (vA V) (nI (rk V N f i)) (nI (tA (rb V) N i))
  | .inr (_, F) => vw_R V (rA (vA V) F) 0 (-1)
def v_rf (V : vw) (N : Nat) (r : LR) : Int32 := match r with
  | .inl (f, i) => -30 - nI (rk V N f i)
  | .inr (_, F) => F 0
def V_raft (V : vw) (x : Int32) : vw := if x < 0 ∨ vTd V < x then V else V_rf V x.toNatClampNeg (lraft (rb V) x.toNatClampNeg)
def v_raft (V : vw) (x : Int32) : Int32 := if x < 0 ∨ vTd V < x then -3 else v_rf V x.toNatClampNeg (lraft (rb V) x.toNatClampNeg)
-- a read text is well made
theorem ckl_e {l c : Nat} : ∀ {R : List Nat} {ty : List Bool}, ckl l (R ++ [c]) ty = (ckl l R ty).bind (sp_ck l c)
  | [], ty => by
    show (sp_ck l c ty).bind (ckl l []) = sp_ck l c ty
    cases sp_ck l c ty <;> rfl
  | d :: R, ty => by
    show (sp_ck l d ty).bind (ckl l (R ++ [c])) = ((sp_ck l d ty).bind (ckl l R)).bind (sp_ck l c)
    cases sp_ck l d ty with
    | none => rfl
    | some t => exact ckl_e
theorem ckl_b {l : Nat} : ∀ {R : List Nat} {ty t : List Bool}, ckl l R ty = some t → ∀ j, j < R.length → R.getD j 0 < 4000
  | [], _, _, _, j, hj => absurd hj (Nat.not_lt_zero _)
  | c :: R, ty, t, h, j, hj => by
    have h : (sp_ck l c ty).bind (ckl l R) = some t := h
    obtain ⟨t1, a, b⟩ := Option.bind_eq_some_iff.mp h
    cases j with
    | zero =>
      show c < 4000
      rcases sp_ckE a with q | ⟨j, q, q2, -⟩ | q | q | q | q <;> omega
    | succ j => exact ckl_b b j (by have : j + 1 < R.length + 1 := hj; omega)
theorem ckl_s {l : Nat} {R : List Nat} {C : Nat → Nat} : ∀ n, n ≤ R.length → (∀ j, j < n → C j = R.getD j 0) → sp_cks l C n = ckl l (R.take n) []
  | 0, _, _ => rfl
  | n + 1, hn, e => by
    have ih := ckl_s (l := l) (R := R) (C := C) n (by omega) (fun j hj => e j (by omega))
    have tk : R.take (n + 1) = R.take n ++ [R.getD n 0] := by
      rw [List.take_succ, List.getD_eq_getElem?_getD]
      have : n < R.length := by omega
      rw [List.getElem?_eq_getElem this]; rfl
    rw [tk, ckl_e, ← ih, ← e n (by omega)]
    rfl
theorem lok_lw {F A : Nat → Int32} {b l : Nat} (hl : l < 2) (hb : b ≤ 900) (h : lkl F b l) : sp_lw (rA A F) l := by
  have lo : ∀ k, k < 1088 → rA A F k = F k := fun k hk => by unfold rA; rw [if_pos hk]
  rcases h with h | ⟨h1, a, R, h2, h3, h4, h5, h6⟩
  · exact Or.inl (by rw [lo _ (by omega)]; exact h)
  · have eF : sp_F (rA A F) l = a := by unfold sp_F; rw [lo _ (by omega), h2, nI_clamp (by omega)]
    have eN : sp_N (rA A F) l = R.length := by unfold sp_N; rw [lo _ (by omega), h3, nI_clamp (by omega)]
    have eC : ∀ i, i < R.length → sp_C (rA A F) l i = R.getD i 0 := fun i hi => by unfold sp_C; rw [eF, lo _ (by omega), h5 i hi, nI_clamp (by have := ckl_b h6 i hi; omega)]
    refine Or.inr ⟨by rw [lo _ (by omega)]; exact h1, by rw [eF, lo _ (by omega)]; exact h2, by rw [eN, lo _ (by omega)]; exact h3, by rw [eF, eN]; omega, fun i hi => ?_, ?_⟩
    · rw [eN] at hi
      rw [eC i hi, eF, lo _ (by omega)]; exact h5 i hi
    · rw [eN, ckl_s R.length (Nat.le_refl _) eC, List.take_length]; exact h6
theorem lok_ok {F A : Nat → Int32} {i : Nat} (hi : i ≤ 900) (h : lok F i) : m_ok (rA A F) ∧ m_past (rA A F) := by
  have lo : ∀ k, k < 1088 → rA A F k = F k := fun k hk => by unfold rA; rw [if_pos hk]
  obtain ⟨P, hP, h1, h2, h3, h4, h5, h6, b, b1, b2, l0, l1⟩ := h
  have eP : sp_P (rA A F) = P := by unfold sp_P; rw [lo _ (by omega), h1, nI_clamp (by omega)]
  have p8 : 2 ^ P ≤ 2 ^ 8 := Nat.pow_le_pow_right (by omega) hP
  have kb : ∀ k, k < 1088 → lkb P (F k) → rA A F k = nI (rA A F k).toNatClampNeg ∧ (rA A F k).toNatClampNeg < 2 ^ P := fun k hk q => by
    obtain ⟨v, v1, v2⟩ := q
    rw [lo k hk, v2, nI_clamp (by omega)]
    exact ⟨rfl, v1⟩
  refine ⟨⟨⟨by rw [eP, lo _ (by omega)]; exact h1, by omega, fun q hq => ?_, lok_lw (by omega) (by omega) l0, lok_lw (by omega) (by omega) l1⟩, ⟨?_, ?_, fun p hp => ?_, ?_⟩, fun p hp => ⟨?_, ?_, ?_, ?_⟩, fun k hk => ?_⟩, ?_⟩
  · rw [eP] at hq ⊢; exact kb (25 + q) (by omega) (h2 q (by omega)).1
  · exact (kb 65 (by omega) h3).1
  · rw [eP]; exact (kb 65 (by omega) h3).2
  · rw [eP] at hp
    show sp_dg (rA A F (65 + (1 + p)))
    rw [lo _ (by omega), show 65 + (1 + p) = 66 + p by omega]; exact (h2 p (by omega)).2.2.1
  · show sp_dg (rA A F (65 + 9))
    rw [lo _ (by omega)]; exact h5
  · rw [eP] at hp; rw [lo _ (by omega)]; exact (h2 p (by omega)).2.2.2.1
  · rw [eP] at hp; rw [lo _ (by omega)]; exact (h2 p (by omega)).2.2.2.2
  · rw [eP] at hp; exact (kb (33 + p) (by omega) (h2 p (by omega)).2.1).1
  · rw [eP] at hp ⊢; exact (kb (33 + p) (by omega) (h2 p (by omega)).2.1).2
  · rw [lo _ (by omega)]; exact h4 k hk
  · have e0 : rA A F 76 = 0 := by rw [lo _ (by omega)]; exact h6
    have d0 : sp_d (rA A F) = 0 := by unfold sp_d; rw [e0]; rfl
    refine ⟨by rw [d0, e0]; rfl, by omega, fun i hi => absurd hi (by omega)⟩
theorem im_rf {V : vw} {N : Nat} {r : LR} (m : InvM V) (h : ∀ i F, r = .inr (i, F) → i ≤ 900 ∧ lok F i) : InvM (V_rf V N r) := by
  obtain ⟨⟨m1, m2⟩, ⟨m3, m4⟩, m5, m6⟩ := m
  have tp : m_tape (vTp V) 0 := ⟨0, by omega, rfl, fun j hj => absurd hj (by omega)⟩
  cases r with
  | inl z => exact ⟨⟨m1, m2⟩, ⟨m3, m4⟩, m5, tp⟩
  | inr z =>
    obtain ⟨h1, h2⟩ := h z.1 z.2 rfl
    obtain ⟨k1, k2⟩ := lok_ok (A := vA V) h1 h2
    have im : ∀ j, j < 2 → sp_im (rA (vA V) z.2) j = sp_im (vA V) j := fun j hj => by
      funext k
      unfold sp_im rA
      rw [if_neg (by omega)]
    refine ⟨⟨k1, k2⟩, ⟨?_, ?_⟩, m5, tp⟩
    · unfold m_img; show vHi V 0 = 0 ∨ (vHi V 0 = 1 ∧ m_ok (sp_im (rA (vA V) z.2) 0)); rw [im 0 (by omega)]; exact m3
    · unfold m_img; show vHi V 1 = 0 ∨ (vHi V 1 = 1 ∧ m_ok (sp_im (rA (vA V) z.2) 1)); rw [im 1 (by omega)]; exact m4
-- the fresh row
theorem K152 (E : mv_E) (h : mv_H) : mv_KE E h 152 = (20, 1088) := rfl
theorem ct179f {E : mv_E} {D k n : Nat} {h : mv_H} {Q : mv_Q} (H : ∀ h', mx_fr (fun a _ => Nat.beq a 152) h h' → mF h' lF0 → Q none h') : mv_VE E D k n 179 0 [some (.ref 152), none] [] h Q := by
  apply sg179_0
  have key : ∀ f j h1, j + f = 1088 → mx_fr (fun a _ => Nat.beq a 152) h h1 → (∀ c, c < j → mv_I h1 152 c = 0) → mv_VE E D k n 179 2 [some (.ref 152), some (.int (nI j))] [] h1 Q := by
    intro f
    induction f with
    | zero =>
      intro j h1 hj f1 z
      apply sg179_2
      rw [K152]
      refine mx_ltF j 1088 (by omega) (mv_gdI rfl (H _ (f1.tr (mx_fr.sI rfl)) (fun c hc => ?_))) (by omega)
      unfold lF0
      rw [mx_upI]
      by_cases q : c = 2
      · rw [if_pos ⟨rfl, q⟩, if_pos q]
      · rw [if_neg (fun y => q y.2), if_neg q]; exact z c (by omega)
    | succ f ih =>
      intro j h1 hj f1 z
      apply sg179_2
      rw [K152, nI_clamp (by omega), nI_1]
      refine mx_ltT j 1088 (by omega) (mv_gdI (mx_inT j (by omega) (by omega)) (ih (j + 1) _ (by omega) (f1.tr (mx_fr.sI rfl)) (fun c hc => ?_))) (by omega)
      rw [mx_upI]
      by_cases q : c = j
      · rw [if_pos ⟨rfl, q⟩]
      · rw [if_neg (fun y => q y.2)]; exact z c (by omega)
  exact key 1088 0 h (by omega) mx_fr.rf (fun c hc => absurd hc (by omega))
/-- what stands when the reading ends -/
theorem ct181c {E : mv_E} {D k n : Nat} {h0 : mv_H} {Q : mv_Q} {F A : Nat → Int32} (H : ∀ h', mx_fr (fun a _ => Nat.beq a 149) h0 h' → (∀ k, mv_I h' 149 k = rA A F k) → Q (some (.int (F 0))) h') : ∀ f j h, j + f = 1088 → mx_fr (fun a _ => Nat.beq a 149) h0 h → (∀ k, k < 1088 → mv_I h 152 k = F k) → (∀ k, mv_I h 149 k = if k < j then F k else A k) → mv_VE E (D + 10) k n 181 155 [some (.ref 148), none, some (.int (nI j))] [] h Q := by
  intro f
  induction f with
  | zero =>
    intro j h hj fr m a
    apply sg181_155
    have : j = 1088 := by omega
    subst this
    rw [a 0, if_pos (show 0 < 1088 by omega)]
    exact mx_ltF 1088 1088 (by omega) (H h fr a) (by omega)
  | succ f ih =>
    intro j h hj fr m a
    apply sg181_155
    rw [nI_clamp (by omega), m j (by omega), nI_1]
    refine mx_ltT j 1088 (by omega) (mv_gdI (mx_inT j (by omega) (by omega)) (mv_gdI (mx_inT j (by omega) (by omega)) (ih (j + 1) _ (by omega) (fr.tr (mx_fr.sI rfl)) (fun c hc => by rw [mx_InE (by omega)]; exact m c hc) (fun c => ?_)))) (by omega)
    rw [mx_upI]
    by_cases q : c = j
    · rw [if_pos ⟨rfl, q⟩, if_pos (by omega), q]
    · rw [if_neg (fun y => q y.2), a c]
      by_cases r : c < j
      · rw [if_pos r, if_pos (by omega)]
      · rw [if_neg r, if_neg (by omega)]
theorem vw_Rof {V : vw} {h0 h : mv_H} {A : Nat → Int32} {fk fp : Int32} (e : vw_of h0 = V) (a1 : mv_I h 149 = A) (a2 : mv_I h 150 = mv_I h0 150) (a3 : mv_I h 151 = mv_I h0 151) (a4 : mv_I h 148 5 = 0) (a5 : mv_I h 148 13 = fk) (a6 : mv_I h 148 14 = fp) (a7 : mv_I h 162 = mv_I h0 162) (a8 : mv_I h 163 = mv_I h0 163) (a9 : mv_J h = mv_J h0) : vw_of h = vw_R V A fk fp := by
  subst e
  show (mv_I h 149, mv_I h 150, mv_I h 151, mv_I h 148 5, mv_I h 148 13, mv_I h 148 14, mv_I h 162, mv_I h 163, mv_J h 164) = _
  rw [a1, a2, a3, a4, a5, a6, a7, a8, a9]; rfl
theorem S181f {a k : Nat} (h : a ≠ 148 ∧ a ≠ 152) : S181 a k = false := by
  unfold S181 S190
  rw [mv_bne h.1, mv_bne h.2]; rfl
theorem cm181 {E : mv_E} {D k n : Nat} {h : mv_H} {Q : mv_Q} {V : vw} {x : Int32} (ev : vw_of h = V) (g : gS h) (iv : InvM V) (H : ∀ h', fM (V_raft V x) h h' → InvM (V_raft V x) → Q (some (.int (v_raft V x))) h') : mv_VE E (D + 34) k n 181 0 [some (.ref 148), some (.int x), none] [] h Q := by
  obtain ⟨t, ht, et, tb⟩ := iv.2.2.2
  have e5 : mv_I h 148 5 = vTd V := by rw [← ev]; rfl
  have e151 : mv_I h 151 = vTp V := by rw [← ev]; rfl
  have e149 : mv_I h 149 = vA V := by rw [← ev]; rfl
  apply sg181_0
  rw [e5, show pf182 x.toInt64 0 (vTd V).toInt64 = (!decide (x < 0) && !decide (vTd V < x)) from mx_wi 0 (vTd V) rfl rfl]
  unfold V_raft v_raft at H
  by_cases c : x < 0 ∨ vTd V < x
  · rw [if_pos c, if_pos c] at H
    have w : (!decide (x < 0) && !decide (vTd V < x)) = false := by
      rcases c with c | c
      · rw [decide_eq_true c]; rfl
      · rw [decide_eq_true c]; exact Bool.and_false _
    rw [w]
    exact H _ (fM.of ev) iv
  · rw [if_neg c, if_neg c] at H
    have c1 : ¬ x < 0 := fun z => c (Or.inl z)
    have c2 : ¬ vTd V < x := fun z => c (Or.inr z)
    rw [decide_eq_false c1, decide_eq_false c2]
    show mv_VE E (D + 33) 0 0 179 0 [some (.ref 152), none] [] _ _
    obtain ⟨N, hN2, hx⟩ := nI_of c1
    subst hx
    rw [nI_clamp hN2] at H
    have hNt : N ≤ t := by
      rw [et] at c2
      rcases Nat.lt_or_ge t N with z | z
      · exact absurd ((nI_ltI (by omega) hN2).mpr z) c2
      · exact z
    have hN : N ≤ 900 := by omega
    generalize eB : rb V = B at H
    have bb : ∀ j, j < N → B j < 256 ∧ vTp V j = nI (B j) := fun j hj => by
      obtain ⟨b, b1, b2⟩ := tb j (by omega)
      rw [← eB]
      unfold rb
      rw [b2, nI_clamp (by omega)]
      exact ⟨b1, rfl⟩
    have T9 := (tT_lt B N).1
    refine ct179f (fun h1 f1 m1 => ⟨rfl, ?_⟩)
    -- the start
    have o1 : ∀ a k, a ≠ 152 → mv_I h1 a k = mv_I (mv_sI (mv_sI (mv_sI (mv_sI (mv_sI h 148 0 0) 148 8 (nI N)) 148 5 0) 148 7 0) 148 11 0) a k := fun a k q => f1.2.2.1 a k (mv_bne q)
    have lt1 : lT B N h1 := ⟨hN, fun j hj => (bb j hj).1, by rw [o1 _ _ (by omega), mx_Isk (by omega), mx_Isk (by omega), mx_Isk (by omega), mx_Iss], fun j hj => by
      rw [o1 _ _ (by omega), mx_InE (by omega), mx_InE (by omega), mx_InE (by omega), mx_InE (by omega), mx_InE (by omega), e151]; exact (bb j hj).2, g.o (fun a ha => funext fun j => by
      rw [o1 _ _ (by omega), mx_InE (by omega), mx_InE (by omega), mx_InE (by omega), mx_InE (by omega), mx_InE (by omega)])⟩
    have z7 : mv_I h1 148 7 = 0 := by rw [o1 _ _ (by omega), mx_Isk (by omega), mx_Iss]
    have z11 : mv_I h1 148 11 = 0 := by rw [o1 _ _ (by omega), mx_Iss]
    have z5 : mv_I h1 148 5 = 0 := by rw [o1 _ _ (by omega), mx_Isk (by omega), mx_Isk (by omega), mx_Iss]
    have zM : mx_fz mx_sM h h1 := ((mx_fr.sI (S := mx_sM) rfl).z.tr ((mx_fr.sI (S := mx_sM) rfl).z.tr ((mx_fr.sI (S := mx_sM) rfl).z.tr ((mx_fr.sI (S := mx_sM) rfl).z.tr (mx_fr.sI (S := mx_sM) rfl).z)))).tr ((f1.to (T := mx_sM) (fun a k q => by
      by_cases y : a = 152
      · subst y; cases q
      · exact mv_bne y)).z)
    have old : ∀ a, a ≠ 148 → a ≠ 152 → mv_I h1 a = mv_I h a := fun a q1 q2 => funext fun k => by
      rw [o1 _ _ q2, mx_InE q1, mx_InE q1, mx_InE q1, mx_InE q1, mx_InE q1]
    have oJ : mv_J h1 = mv_J h := f1.2.2.2.1
    have toM : ∀ h2, mx_fr S181 h1 h2 → mx_fz mx_sM h h2 := fun h2 f2 => zM.tr ((f2.to (T := mx_sM) (fun a k q => S181f (by
      unfold mx_sM at q
      constructor
      · intro y; subst y; cases q
      · intro y; subst y; cases q))).z)
    -- the ends
    have bad : ∀ f i h2, lraft B N = .inl (f, i) → mx_fr S181 h1 h2 → mE B N f i h2 → mv_VE E (D + 34) k n 181 84 [some (.ref 148), none, none] [] h2 Q := fun f i h2 e f2 m2 => by
      apply sg181_84
      rw [if_neg m2.ne, if_neg m2.ne, if_neg m2.ne, m2.2.1, m2.2.2.1]
      rw [e] at H
      have er : rk V N f i = (if tK B N i = 25 then 1 else f) := by unfold rk; rw [eB]
      have H := H (mv_sI (mv_sI h2 148 13 (nI (if tK B N i = 25 then 1 else f))) 148 14 (nI (tA B N i)))
      refine (show Q (some (.int (-30 - nI (rk V N f i)))) _ from H ⟨(toM h2 f2).tr ((mx_fr.sI (S := mx_sM) rfl).z.tr (mx_fr.sI (S := mx_sM) rfl).z), ?_⟩ (im_rf iv (fun i F e => by cases e))) |> fun z => by rw [er] at z; exact z
      show vw_of _ = vw_R V (vA V) (nI (rk V N f i)) (nI (tA (rb V) N i))
      rw [er, eB]
      refine vw_Rof ev ?_ ?_ ?_ ?_ ?_ mx_Iss ?_ ?_ ?_
      · funext j; rw [mx_InE (by omega), mx_InE (by omega), f2.2.2.1 _ _ (S181f (by omega)), old _ (by omega) (by omega), e149]
      · funext j; rw [mx_InE (by omega), mx_InE (by omega), f2.2.2.1 _ _ (S181f (by omega)), old _ (by omega) (by omega)]
      · funext j; rw [mx_InE (by omega), mx_InE (by omega), f2.2.2.1 _ _ (S181f (by omega)), old _ (by omega) (by omega)]
      · rw [mx_Isk (by omega), mx_Isk (by omega), f2.2.2.1 148 5 rfl]; exact z5
      · rw [mx_Isk (by omega), mx_Iss]
      · funext j; rw [mx_InE (by omega), mx_InE (by omega), f2.2.2.1 _ _ (S181f (by omega)), old _ (by omega) (by omega)]
      · funext j; rw [mx_InE (by omega), mx_InE (by omega), f2.2.2.1 _ _ (S181f (by omega)), old _ (by omega) (by omega)]
      · show mv_J h2 = mv_J h; rw [f2.2.2.2.1, oJ]
    have good : ∀ i F h2, lraft B N = .inr (i, F) → mx_fr S181 h1 h2 → mK B N i h2 → mF h2 F → lok F i → tK B N i = 24 → mv_VE E (D + 34) k n 181 84 [some (.ref 148), none, none] [] h2 Q := fun i F h2 e f2 t2 m2 o2 k24 => by
      apply sg181_84
      rw [if_pos t2.2.1, if_pos t2.2.1, if_pos t2.2.1, t2.1.2.2.2.1, k24, t2.2.1, if_pos (show nI 24 = 24 from rfl)]
      rw [e] at H
      have H := H
      refine ct181c (D := D + 24) (h0 := mv_sI (mv_sI h2 148 13 0) 148 14 (-1)) (F := F) (A := vA V) (fun h3 f3 a3 => H h3 ⟨?_, ?_⟩ (im_rf iv (fun i' F' e' => by cases e'; exact ⟨by have := t2.2.2; omega, o2⟩))) 1088 0 _ (by omega) mx_fr.rf (fun j hj => by rw [mx_InE (by omega), mx_InE (by omega)]; exact m2 j hj) (fun j => ?_)
      · refine (((toM h2 f2).tr ((mx_fr.sI (S := mx_sM) rfl).z.tr (mx_fr.sI (S := mx_sM) rfl).z))).tr ((f3.to (T := mx_sM) (fun a k q => ?_)).z)
        by_cases y : a = 149
        · subst y; cases q
        · exact mv_bne y
      · have ot : ∀ a, a ≠ 149 → mv_I h3 a = mv_I (mv_sI (mv_sI h2 148 13 0) 148 14 (-1)) a := fun a q => f3.I a (fun _ => mv_bne q)
        refine vw_Rof ev (funext a3) ?_ ?_ ?_ ?_ ?_ ?_ ?_ ?_
        · rw [ot _ (by omega)]; funext j; rw [mx_InE (by omega), mx_InE (by omega), f2.2.2.1 _ _ (S181f (by omega)), old _ (by omega) (by omega)]
        · rw [ot _ (by omega)]; funext j; rw [mx_InE (by omega), mx_InE (by omega), f2.2.2.1 _ _ (S181f (by omega)), old _ (by omega) (by omega)]
        · rw [ot _ (by omega), mx_Isk (by omega), mx_Isk (by omega), f2.2.2.1 148 5 rfl]; exact z5
        · rw [ot _ (by omega), mx_Isk (by omega), mx_Iss]
        · rw [ot _ (by omega), mx_Iss]
        · rw [ot _ (by omega)]; funext j; rw [mx_InE (by omega), mx_InE (by omega), f2.2.2.1 _ _ (S181f (by omega)), old _ (by omega) (by omega)]
        · rw [ot _ (by omega)]; funext j; rw [mx_InE (by omega), mx_InE (by omega), f2.2.2.1 _ _ (S181f (by omega)), old _ (by omega) (by omega)]
        · rw [f3.2.2.2.1]; show mv_J h2 = mv_J h; rw [f2.2.2.2.1, oJ]
      · rw [mx_InE (by omega), mx_InE (by omega), f2.2.2.1 _ _ (S181f (by omega)), old _ (by omega) (by omega), e149, if_neg (by omega)]
    -- line by line
    have loop : ∀ f i F h2, tT B N + 1 - i ≤ f → mx_fr S181 h1 h2 → mK B N i h2 → mF h2 F → lok F i → lraft B N = llines B N f i F → mv_VE E (D + 34) k n 181 84 [some (.ref 148), none, none] [] h2 Q := by
      intro f
      induction f with
      | zero => intro i F h2 hf f2 t2; exact absurd t2.2.2 (by omega)
      | succ f ih =>
        intro i F h2 hf f2 t2 m2 o2 e2
        have e2 : lraft B N = if tK B N i = 24 then .inr (i, F) else lbind (lline B N i F) (fun i F => lbind (lclose B N i F) (llines B N f)) := e2
        by_cases k24 : tK B N i = 24
        · rw [if_pos k24] at e2
          exact good i F h2 e2 f2 t2 m2 o2 k24
        · rw [if_neg k24] at e2
          have k41 := tK_41 B N i
          apply sg181_84
          rw [if_pos t2.2.1, t2.1.2.2.2.1, if_neg (show ¬ nI (tK B N i) = 24 from fun y => k24 ((nI_eq (a := tK B N i) (b := 24) (by omega) (by omega)).mp y))]
          refine ct194 hN o2 t2 m2 ⟨fun i' F' h3 e3 l3 o3 f3 t3 m3 => ⟨rfl, ?_⟩, fun g i' h3 e3 f3 m3 => ⟨rfl, ?_⟩, fun i' h3 e3 z3 f3 t3 => ⟨rfl, ?_⟩⟩
          · refine ct193 (D := D + 26) t3 m3 ⟨fun i4 F4 h4 e4 l4 f4 t4 m4 => ⟨rfl, ?_⟩, fun g i4 h4 e4 f4 m4 => ⟨rfl, ?_⟩⟩
            · have oc := lok_close e4 o3
              exact ih i4 F4 h4 (by omega) ((f2.tr f3).tr f4) t4 m4 oc.1 (by rw [e2, e3]; show lbind (lclose B N i' F') (llines B N f) = _; rw [e4]; rfl)
            · exact bad g i4 h4 (by rw [e2, e3]; show lbind (lclose B N i' F') (llines B N f) = _; rw [e4]; rfl) ((f2.tr f3).tr f4) m4
          · exact ct193e (D := D + 26) m3.ne (fun y => ⟨rfl, bad g i' _ (by rw [e2, e3]; rfl) ((f2.tr f3).tr frW) m3.w⟩)
          · refine ct193 (D := D + 26) (F := mv_I h3 152) t3 (fun _ _ => rfl) ⟨fun i4 F4 h4 e4 l4 f4 t4 m4 => ?_, fun g i4 h4 e4 f4 m4 => ⟨rfl, ?_⟩⟩
            · unfold lclose at e4; rw [lpass_f z3] at e4; cases e4
            · unfold lclose at e4; rw [lpass_f z3] at e4
              cases e4
              exact bad 2 i' h4 (by rw [e2, e3]; rfl) ((f2.tr f3).tr f4) m4
    refine ct183_0 (D := D + 28) lt1 z7 (fun h2 f2 t2 => ⟨rfl, ?_⟩)
    have K2 : mK B N 0 h2 := ⟨t2, by rw [f2.2.2.1 148 11 rfl]; exact z11, Nat.zero_le _⟩
    have M2 : mF h2 lF0 := m1.a (frA f2)
    have un : lraft B N = lpass B N 0 0 (fun i => lpass B N 1 i (fun i => lnum B N 1 100 i (fun q i => lbind (lclose B N i (mx_upA lF0 2 (nI q))) (fun i F => llines B N (tT B N + 1 - i) i F)))) := rfl
    refine ct188 (D := D + 27) 0 (by omega) (by omega) rfl K2 (fun y h3 f3 t3 => ⟨_, rfl, ?_⟩) (fun y => ⟨_, rfl, ?_⟩)
    · rw [if_neg (by decide)]
      rw [lpass_t y] at un
      have M3 := M2.a (frA f3)
      have F3 := frB ((frA f2).tr (frA f3))
      refine ct191 (D := D + 26) 1 1 100 rfl (by omega) rfl rfl (by omega) (by omega) t3 (fun q1 q l1 l2 h4 f4 t4 => ⟨_, rfl, ?_⟩) (fun g i' h4 r f4 m4 s4 => ⟨_, rfl, ?_⟩)
      · have e0 : lraft B N = lbind (lclose B N (0 + 1 + 2) (mx_upA lF0 2 (nI (tN B N (0 + 1 + 1))))) (fun i F => llines B N (tT B N + 1 - i) i F) := un.trans ((lpass_t q1).trans (lnum_t q ⟨l1, l2⟩))
        have o0 : lok (mx_upA lF0 2 (nI (tN B N (0 + 1 + 1)))) (0 + 1 + 2) := by
          obtain ⟨P, hP, p1, p2⟩ := lok_0
          exact ⟨P, hP, by rw [upA_n (by omega)]; exact p1, (p2.w (by omega)).i (by omega)⟩
        refine ct193 (D := D + 26) t4.w (M3.a f4).w ⟨fun i5 F5 h5 e5' l5 f5 t5 m5 => ⟨rfl, ?_⟩, fun g i5 h5 e5' f5 m5 => ⟨rfl, ?_⟩⟩
        · exact loop (tT B N + 1 - i5) i5 F5 h5 (Nat.le_refl _) (((F3.tr (frB f4)).tr frW).tr f5) t5 m5 (lok_close e5' o0).1 (by rw [e0, e5']; rfl)
        · exact bad g i5 h5 (by rw [e0, e5']; rfl) (((F3.tr (frB f4)).tr frW).tr f5) m5
      · exact ct193e (D := D + 26) m4.w.ne (fun z => ⟨rfl, bad g i' _ (by rw [un]; exact s4 _) (((F3.tr (frB f4)).tr frW).tr frW) m4.w.w⟩)
    · rw [if_pos rfl]
      rw [lpass_f y] at un
      refine ct190a 2 (by omega) rfl K2 (fun h3 f3 m3 => ⟨rfl, ct191e (D := D + 26) m3.ne (fun r => ⟨_, rfl, ct193e (D := D + 26) m3.w.ne (fun z => ⟨rfl, bad 2 0 _ un (((frB ((frA f2).tr f3)).tr frW).tr frW) m3.w.w⟩)⟩)⟩)
