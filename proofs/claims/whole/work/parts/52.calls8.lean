/-! Calls: weeks, undo. -/
theorem InvM.nowd {V : vw} {A1 : Nat → Int32} (m : InvM V) (s : sp_now (vA V) A1) (h1 : m_st (sp_P (vA V)) (fun j => A1 (65 + j))) : InvM (vw_A V A1) :=
  m.deed s.st h1 (m.1.2.cg s.P m.p8 (fun k h1 h2 => s k (by omega)))
theorem sp_now.sim {A A1 : Nat → Int32} (s : sp_now A A1) (h8 : sp_P A ≤ 8) (h1 : A1 74 = A 74) (h2 : ∀ p, p < 8 → A1 (66 + p) = A (66 + p)) : sp_sim A A1 := by
  refine ⟨s 1 (by omega), fun p hp => s _ (by omega), fun p hp => s _ (by omega), fun l hl => ⟨by rw [s (3 + l) (by omega)], fun _ => ?_⟩, h1, fun p hp => h2 p (by omega)⟩
  have eF : sp_F A1 l = sp_F A l := by unfold sp_F; rw [s (5 + l) (by omega)]
  refine ⟨by unfold sp_N; rw [s (7 + l) (by omega)], fun i hi => by unfold sp_C; rw [eF, s _ (by omega)]⟩
/-- so many weeks on -/
def sp_wk (A : Nat → Int32) (n : Nat) : Nat → Int32 := mx_upA (mx_upA A 65 (nI (sp_it A (sp_hold A) n))) 75 (A 75 + nI n)
theorem sp_wk_now (A : Nat → Int32) (n : Nat) : sp_now A (sp_wk A n) := (sp_now.up (by omega) (by omega)).tr (sp_now.up (by omega) (by omega))
theorem sp_wk_65 (A : Nat → Int32) (n : Nat) : sp_wk A n 65 = nI (sp_it A (sp_hold A) n) := by
  unfold sp_wk mx_upA
  rw [if_neg (by omega), if_pos rfl]
theorem sp_wk_o (A : Nat → Int32) (n k : Nat) (h1 : k ≠ 65) (h2 : k ≠ 75) : sp_wk A n k = A k := by
  unfold sp_wk mx_upA
  rw [if_neg h2, if_neg h1]
theorem sp_wk_75 (A : Nat → Int32) (n : Nat) : sp_wk A n 75 = A 75 + nI n := by
  unfold sp_wk mx_upA
  rw [if_pos rfl]
theorem sp_wk_st {V : vw} (m : InvM V) (n : Nat) : m_st (sp_P (vA V)) (fun j => sp_wk (vA V) n (65 + j)) := by
  have p2 := m.p2
  have p8 := m.p8
  have l := sp_it_lt (A := vA V) m.1.1.hold.2 n
  refine ⟨?_, ?_, fun p hp => ?_, ?_⟩
  · show sp_wk (vA V) n 65 = nI (sp_wk (vA V) n 65).toNatClampNeg
    rw [sp_wk_65, nI_clamp (by omega)]
  · show (sp_wk (vA V) n 65).toNatClampNeg < _
    rw [sp_wk_65, nI_clamp (by omega)]; exact l
  · show sp_dg (sp_wk (vA V) n (65 + (1 + p)))
    rw [sp_wk_o _ _ _ (by omega) (by omega)]; exact m.1.1.2.1.2.2.1 p hp
  · show sp_dg (sp_wk (vA V) n 74)
    rw [sp_wk_o _ _ _ (by omega) (by omega)]; exact m.1.1.2.1.2.2.2
def wn (x : Int32) : Bool := !decide (x < 1) && !decide (99 < x)
theorem wnT {x : Int32} (h : wn x = true) : ∃ j, 1 ≤ j ∧ j ≤ 99 ∧ x = nI j := by
  unfold wn at h
  simp only [Bool.and_eq_true, Bool.not_eq_true', decide_eq_false_iff_not] at h
  have h0 : ¬ x < 0 := fun c => h.1 (by
    rw [Int32.lt_iff_toInt_lt] at c ⊢
    have e1 : (0 : Int32).toInt = 0 := rfl
    have e2 : (1 : Int32).toInt = 1 := rfl
    omega)
  obtain ⟨j, hj, rfl⟩ := nI_of h0
  have a : ¬ j < 1 := fun c => h.1 (show nI j < nI 1 from (nI_ltI hj (by omega)).mpr c)
  have b : ¬ 99 < j := fun c => h.2 (show nI 99 < nI j from (nI_ltI (by omega) hj).mpr c)
  exact ⟨j, by omega, by omega, rfl⟩
def V_weeks (V : vw) (x : Int32) : vw := cond (wn x) (vw_A V (sp_note (sp_wk (vA V) x.toNatClampNeg) (sp_was (vA V)))) V
def v_weeks (V : vw) (x : Int32) : Int32 := cond (wn x) (nI (sp_it (vA V) (sp_hold (vA V)) x.toNatClampNeg)) (-3)
theorem im_weeks {V : vw} {x : Int32} (m : InvM V) : InvM (V_weeks V x) := by
  unfold V_weeks
  cases wn x with
  | false => exact m
  | true => exact m.fin (sp_wk_now _ _) (sp_wk_st m _)
theorem cc110 {E : mv_E} {D k n : Nat} {h : mv_H} {Q : mv_Q} {V : vw} {x : Int32} (i : InvC E h V) (m : InvM V) (H : ∀ h', InvC E h' (V_weeks V x) → fCl h h' → Q (some (.int (v_weeks V x))) h') : mv_VE E (D + 4) k n 110 0 [some (.ref 50), some (.int x), none] [] h Q := by
  have p8 := m.p8
  have p2 := m.p2
  have hh := m.1.1.hold
  apply sg110_0
  unfold V_weeks v_weeks at H
  refine mx_if (fun q => ?_) (fun q => mx_if (fun r => ?_) (fun r => ?_))
  · have z : wn x = false := by unfold wn; rw [decide_eq_true q]; rfl
    rw [z] at H; exact H h i fCl.rf
  · have z : wn x = false := by unfold wn; rw [decide_eq_true r, Bool.not_true, Bool.and_false]
    rw [z] at H; exact H h i fCl.rf
  · have z : wn x = true := by unfold wn; rw [decide_eq_false q, decide_eq_false r]; rfl
    rw [z] at H
    obtain ⟨N, n1, n99, rfl⟩ := wnT z
    rw [nI_clamp (by omega)] at H
    refine cc20 i m (fun h1 f1 g1 s1 w1 => ⟨rfl, ?_⟩)
    have R3 : mv_R h1 50 3 = mv_R h 50 3 := by rw [f1.Rr 50 (fun k => mx_sPf (by omega))]
    have cr1 : cr_ok E h1 (mv_R h1 50 3) (vA V) := by
      rw [R3]; exact i.1.1.1.1.fz f1 (fun a k q => mx_sPf (by unfold cr_reg at q; omega))
    refine ct51 s1 (Or.inl rfl) (by omega) cr1 m.ok (i_st.as w1) (fun h2 f2 se2 => ⟨rfl, ?_⟩)
    have fz2 : mx_fz mx_sD h h2 := (mx_sPD f1).tr (f2.to (fun a k q => mx_s6f (by
      rcases Nat.lt_or_ge a 87 with c | c
      · exact Or.inl c
      · rcases Nat.lt_or_ge 91 a with d | d
        · exact Or.inr d
        · exfalso
          unfold mx_sD at q
          rw [Nat.ble_eq_true_of_le (show 81 ≤ a by omega), Nat.ble_eq_true_of_le (show a ≤ 96 by omega)] at q
          cases q)))
    have past2 : i_past h2 (sp_note (vA V) (sp_was (vA V))) := by
      refine ⟨by rw [f2.I 109 (fun k => mx_s6f (by omega))]; exact g1.1, ?_, ?_, ?_⟩
      · rw [f2.Rr 110 (fun k => mx_s6f (by omega))]; exact g1.2.1
      · rw [f2.Rr 110 (fun k => mx_s6f (by omega))]; exact g1.2.2.1
      · rw [f2.Rr 110 (fun k => mx_s6f (by omega))]
        intro j hj hd
        obtain ⟨l, hl, e⟩ := g1.2.1 j hj
        exact (g1.2.2.2 j hj hd).fz f2 (fun k => mx_s6f (by omega)) (fun k => mx_s6f (by omega))
    have now2 : i_st h2 81 (sp_was (vA V)) := w1.fz f2 (fun k => mx_s6f (by omega)) (fun k => mx_s6f (by omega))
    refine mx_loop (P := fun j => ∀ h', mx_fz mx_sD h h' → se_at E h' (vA V) → i_past h' (sp_note (vA V) (sp_was (vA V))) → mv_I h' 81 0 = nI (sp_it (vA V) (sp_hold (vA V)) j) → (mv_I h' 81 1 = vA V 74 ∧ mv_I h' 81 2 = vA V 75 ∧ ∀ p, p < 8 → mv_I h' 82 p = sp_was (vA V) (1 + p)) → mv_VE E (D + 4) k n 110 42 [some (.ref 50), some (.int (nI N)), some (.int (nI j))] [] h' Q) N ?_ ?_ h2 fz2 se2 past2 (now2.1.trans hh.1) ⟨now2.2.1, now2.2.2.1, now2.2.2.2⟩
    · intro h' f' se' past' eh eo
      apply sg110_42
      refine mx_ltF N N (Nat.le_refl _) ?_ (by omega)
      rw [eh, eo.2.1]
      have f3 : mx_fz mx_sD h (mv_sI h' 81 2 (vA V 75 + nI N)) := f'.tr (mx_sD81 (by omega))
      refine H _ ⟨InvC.fin i.1 m (sp_wk_now _ _) f3 ?_ (past'.sI (by omega)), se_iv.s81 (Or.inl rfl) ⟨vA V, m.ok, se'⟩⟩ (mx_sDfC f3)
      refine ⟨?_, ?_, ?_, fun p hp => ?_⟩
      · rw [mx_Isk (by omega), eh]; exact (sp_wk_65 _ _).symm
      · rw [mx_Isk (by omega), eo.1]; exact (sp_wk_o _ _ _ (by omega) (by omega)).symm
      · rw [mx_Iss]; exact (sp_wk_75 _ _).symm
      · rw [mx_InE (by omega), eo.2.2 p hp]; exact (sp_wk_o (vA V) N (65 + (1 + p)) (by omega) (by omega)).symm
    · intro j hj ih h' f' se' past' eh eo
      apply sg110_42
      rw [eh, nI_1]
      refine mx_ltT j N hj ?_ (by omega)
      refine ct59 _ se' m.ok m.1.1.vb (sp_it_lt hh.2 j) rfl (fun h3 f3 se3 => ⟨_, rfl, ?_⟩)
      have e3 : ∀ a, a ≠ 87 ∧ a ≠ 93 ∧ a ≠ 90 ∧ a ≠ 91 → mv_I h3 a = mv_I h' a := fun a ha => f3.I a (fun k => mx_s5f ha)
      have g3 : mx_fz mx_sD h h3 := f'.tr (f3.z.to (fun a k q => mx_s5f (by
        rcases Nat.lt_or_ge a 81 with c | c
        · omega
        · rcases Nat.lt_or_ge 96 a with d | d
          · omega
          · exfalso
            unfold mx_sD at q
            rw [Nat.ble_eq_true_of_le c, Nat.ble_eq_true_of_le d] at q
            cases q)))
      refine ih _ (g3.tr (mx_sD81 (by omega))) (se3.fz mx_fzat (fun a k q => mx_st81 (k := k) (Or.inl rfl) q)) ?_ (by rw [mx_Iss, ← sp_it_s]) ⟨by rw [mx_Isk (by omega), e3 81 (by omega)]; exact eo.1, by rw [mx_Isk (by omega), e3 81 (by omega)]; exact eo.2.1, fun p hp => by rw [mx_InE (by omega), e3 82 (by omega)]; exact eo.2.2 p hp⟩
      refine i_past.sI (by omega) ⟨by rw [e3 109 (by omega)]; exact past'.1, ?_, ?_, ?_⟩
      · rw [f3.2.2.2.2]; exact past'.2.1
      · rw [f3.2.2.2.2]; exact past'.2.2.1
      · rw [f3.2.2.2.2]
        intro j hj hd
        obtain ⟨l, hl, e⟩ := past'.2.1 j hj
        exact (past'.2.2.2 j hj hd).fz f3.z (fun k => mx_s5f (by omega)) (fun k => mx_s5f (by omega))
theorem mx_w199 (x : Int32) : pf182 x.toInt64 1 99 = wn x := mx_wi (x := x) (L := 1) (H := 99) 1 99 rfl rfl
theorem cm226 {E : mv_E} {D k n : Nat} {h : mv_H} {Q : mv_Q} {V : vw} {x : Int32} (e : vw_of h = V) (m : InvM V) (H : ∀ h', fM (V_weeks V x) h h' → Q (some (.int (v_weeks V x))) h') : mv_VE E (D + 5) k n 226 0 [some (.ref 148), some (.int x), none] [] h Q := by
  have p8 := m.p8
  have p2 := m.p2
  have hh := m.1.1.hold
  have md := m.1.2.2.1
  have f0 := fM.of e
  apply sg226_0
  unfold V_weeks v_weeks at H
  refine mx_cdb _ (mx_w199 x) (fun z => ?_) (fun z => ?_)
  · rw [z] at H
    obtain ⟨N, n1, n99, rfl⟩ := wnT z
    rw [nI_clamp (by omega)] at H
    refine cw227 f0 (fun h1 f1 g1 => ⟨rfl, ?_⟩)
    refine mx_loop (P := fun j => ∀ h', fM (vw_A V (sp_wk (vA V) j)) h h' → (∀ l, l < 11 → mv_I h' 155 l = vA V (65 + l)) → mv_VE E (D + 5) k n 226 26 [some (.ref 148), some (.int (nI N)), some (.int (nI j))] [] h' Q) N ?_ ?_ h1 ?_ g1
    · intro h' f' g'
      have s := sp_wk_now (vA V) N
      apply sg226_26
      refine mx_ltF N N (Nat.le_refl _) ?_ (by omega)
      refine cw230 (sp_was (vA V)) f' ?_ ?_ g' (fun h2 f2 g2 => ⟨rfl, ?_⟩)
      · show sp_wk (vA V) N 76 = nI (sp_d (sp_wk (vA V) N))
        rw [s.d, s 76 (by omega)]; exact m.1.2.1
      · show sp_d (sp_wk (vA V) N) ≤ 10
        rw [s.d]; exact md
      · have e65 : mv_I h2 149 65 = nI (sp_it (vA V) (sp_hold (vA V)) N) := by
          rw [f2.A]
          show sp_note (sp_wk (vA V) N) (sp_was (vA V)) 65 = _
          rw [sp_note_65 (by rw [s.d]; exact md) 65 (by omega), sp_wk_65]
        rw [e65]
        exact H h2 f2
    · intro j hj ih h' f' g'
      have s := sp_wk_now (vA V) j
      have mj : InvM (vw_A V (sp_wk (vA V) j)) := m.nowd s (sp_wk_st m j)
      have l := sp_it_lt (A := vA V) hh.2 j
      apply sg226_26
      rw [nI_1]
      refine mx_ltT j N hj ?_ (by omega)
      apply sg228_0
      have e65 : mv_I h' 149 65 = nI (sp_it (vA V) (sp_hold (vA V)) j) := by rw [f'.A]; exact sp_wk_65 _ _
      have sim : sp_sim (vA V) (sp_wk (vA V) j) := s.sim p8 (sp_wk_o _ _ _ (by omega) (by omega)) (fun p hp => sp_wk_o _ _ _ (by omega) (by omega))
      refine ct229 (sp_it (vA V) (sp_hold (vA V)) j) (by rw [f'.A]; exact mj.ok) (by omega) e65 (fun h2 g2 => ⟨_, rfl, rfl, ?_⟩)
      have f2 := f'.s2 g2
      have e1 : sp_week (mv_I h' 149) (sp_it (vA V) (sp_hold (vA V)) j) = sp_it (vA V) (sp_hold (vA V)) (j + 1) := by
        rw [f'.A, sp_it_s]
        exact sim.week p8 _
      have e75 : mv_I h2 149 75 + 1 = vA V 75 + nI (j + 1) := by
        rw [f2.A]
        show sp_wk (vA V) j 75 + 1 = _
        rw [sp_wk_75, Int32.add_assoc, nI_1]
      rw [e1, e75]
      refine ih _ (((f2.at (k := 65) (x := nI (sp_it (vA V) (sp_hold (vA V)) (j + 1)))).at (k := 75) (x := vA V 75 + nI (j + 1))).eqA (fun k => ?_)) (fun l hl => ?_)
      · show mx_upA (mx_upA (sp_wk (vA V) j) 65 _) 75 _ k = sp_wk (vA V) (j + 1) k
        unfold sp_wk mx_upA
        by_cases c : k = 75
        · simp [c]
        · by_cases c2 : k = 65
          · simp [c2]
          · simp [c, c2]
      · have e2 : mv_I h2 155 = mv_I h' 155 := g2.I 155 (fun _ => rfl)
        show mv_I h2 155 l = _
        rw [e2]; exact g' l hl
    · exact (show fM (vw_A V (vA V)) h h1 from f1).eqA (fun k => by
        unfold sp_wk mx_upA
        by_cases c : k = 75
        · rw [if_pos c, c, show nI 0 = (0 : Int32) from rfl, Int32.add_zero]
        · rw [if_neg c]
          by_cases c2 : k = 65
          · rw [if_pos c2, c2]; exact hh.1
          · rw [if_neg c2])
  · rw [z] at H; exact H _ f0
-- undo
def un (A : Nat → Int32) (x : Int32) : Bool := !decide (x < 1) && !decide (A 76 < x)
def sp_undo (A : Nat → Int32) (n : Nat) : Nat → Int32 := fun k => if k = 76 then nI (sp_d A - n) else if 65 ≤ k ∧ k < 76 then A (77 + 11 * (sp_d A - n) + (k - 65)) else A k
theorem unT {A : Nat → Int32} {x : Int32} (ma : A 76 = nI (sp_d A)) (md : sp_d A ≤ 10) (h : un A x = true) : ∃ j, 1 ≤ j ∧ j ≤ sp_d A ∧ x = nI j := by
  unfold un at h
  simp only [Bool.and_eq_true, Bool.not_eq_true', decide_eq_false_iff_not] at h
  have h0 : ¬ x < 0 := fun c => h.1 (by
    rw [Int32.lt_iff_toInt_lt] at c ⊢
    have e1 : (0 : Int32).toInt = 0 := rfl
    have e2 : (1 : Int32).toInt = 1 := rfl
    omega)
  obtain ⟨j, hj, rfl⟩ := nI_of h0
  have a : ¬ j < 1 := fun c => h.1 (show nI j < nI 1 from (nI_ltI hj (by omega)).mpr c)
  have b : ¬ sp_d A < j := fun c => h.2 (by rw [ma]; exact (nI_ltI (by omega) hj).mpr c)
  exact ⟨j, by omega, by omega, rfl⟩
def V_undo (V : vw) (x : Int32) : vw := cond (un (vA V) x) (vw_A V (sp_undo (vA V) x.toNatClampNeg)) V
def v_undo (V : vw) (x : Int32) : Int32 := cond (un (vA V) x) (nI (sp_d (vA V) - x.toNatClampNeg)) (-3)
theorem sp_undo_o {A : Nat → Int32} {n k : Nat} (h : k < 65 ∨ 77 ≤ k) : sp_undo A n k = A k := by
  unfold sp_undo
  rw [if_neg (by omega), if_neg (by omega)]
theorem sp_undo_n {A : Nat → Int32} {n j : Nat} (h : j < 11) : sp_undo A n (65 + j) = A (77 + 11 * (sp_d A - n) + j) := by
  unfold sp_undo
  rw [if_neg (by omega), if_pos (by omega), show 65 + j - 65 = j by omega]
theorem sp_undo_d {A : Nat → Int32} {n : Nat} (md : sp_d A ≤ 10) : sp_undo A n 76 = nI (sp_d A - n) ∧ sp_d (sp_undo A n) = sp_d A - n := by
  have e : sp_undo A n 76 = nI (sp_d A - n) := by unfold sp_undo; rw [if_pos rfl]
  refine ⟨e, ?_⟩
  show (sp_undo A n 76).toNatClampNeg = _
  rw [e, nI_clamp (by omega)]
theorem im_undo {V : vw} {x : Int32} (m : InvM V) : InvM (V_undo V x) := by
  have md := m.1.2.2.1
  unfold V_undo
  cases z : un (vA V) x with
  | false => exact m
  | true =>
    obtain ⟨N, h1, h2, rfl⟩ := unT m.1.2.1 md z
    rw [nI_clamp (by omega)]
    obtain ⟨d1, d2⟩ := sp_undo_d (A := vA V) (n := N) md
    have eP : sp_P (sp_undo (vA V) N) = sp_P (vA V) := by unfold sp_P; rw [sp_undo_o (by omega)]
    refine m.deed (fun k hk => sp_undo_o (by omega)) ?_ ⟨by rw [d2]; exact d1, by rw [d2]; omega, fun i hi => ?_⟩
    · exact (m.1.2.2.2 (sp_d (vA V) - N) (by omega)).cg m.p8 (fun j hj => sp_undo_n hj)
    · rw [d2] at hi
      rw [eP]
      exact (m.1.2.2.2 i (by omega)).cg m.p8 (fun j hj => sp_undo_o (by omega))
theorem cc117 {E : mv_E} {D k n : Nat} {h : mv_H} {Q : mv_Q} {V : vw} {x : Int32} (i : InvC E h V) (m : InvM V) (H : ∀ h', InvC E h' (V_undo V x) → fCl h h' → Q (some (.int (v_undo V x))) h') : mv_VE E (D + 3) k n 117 0 [some (.ref 50), some (.int x)] [] h Q := by
  have md := m.1.2.2.1
  have ip := i.1.1.2.2
  have e109 : mv_I h 109 1 = nI (sp_d (vA V)) := ip.1.trans m.1.2.1
  apply sg117_0
  unfold V_undo v_undo at H
  rw [ip.1]
  refine mx_if (fun q => ?_) (fun q => mx_if (fun r => ?_) (fun r => ?_))
  · have z : un (vA V) x = false := by unfold un; rw [decide_eq_true q]; rfl
    rw [z] at H; exact H h i fCl.rf
  · have z : un (vA V) x = false := by unfold un; rw [decide_eq_true r, Bool.not_true, Bool.and_false]
    rw [z] at H; exact H h i fCl.rf
  · have z : un (vA V) x = true := by unfold un; rw [decide_eq_false q, decide_eq_false r]; rfl
    rw [z] at H
    obtain ⟨N, n1, n2, rfl⟩ := unT m.1.2.1 md z
    rw [nI_clamp (by omega)] at H
    obtain ⟨l, hl, el⟩ := ip.2.1 (sp_d (vA V) - N) (by omega)
    obtain ⟨d1, d2⟩ := sp_undo_d (A := vA V) (n := N) md
    apply sg22_0
    rw [e109, pk_sub n2, nI_clamp (n := sp_d (vA V) - N) (by omega), el]
    have K : mv_KE E h 81 = (6, 4) := rfl
    rw [K]
    refine mx_ltF N 1 n1 (mx_ltF (sp_d (vA V)) N n2 (mv_gdI (mx_inT (sp_d (vA V) - N) (by omega) (by omega)) (mv_gdI rfl ?_)) (by omega)) (by omega)
    refine ct67 (Or.inl rfl) (st_ad_p hl) (fun h1 f1 c1 c2 => ⟨rfl, rfl, ?_⟩)
    have s81 : ∀ a, (a < 81 ∨ 82 < a) → ∀ k, mx_sx 81 a k = false := fun a ha k => by
      unfold mx_sx
      rw [mv_bne (by omega), mv_bne (by omega)]; rfl
    have fz : mx_fz mx_sD h h1 := (mx_fr.sI (S := mx_sD) (by decide)).z.tr (f1.z.to (fun a k q => s81 a (by
      rcases Nat.lt_or_ge a 81 with c | c
      · exact Or.inl c
      · rcases Nat.lt_or_ge 82 a with d | d
        · exact Or.inr d
        · exfalso
          unfold mx_sD at q
          rw [Nat.ble_eq_true_of_le c, Nat.ble_eq_true_of_le (show a ≤ 96 by omega)] at q
          cases q) k))
    have e1 : mv_I h1 109 1 = nI (sp_d (vA V) - N) := by rw [f1.I 109 (s81 109 (by omega)), mx_Iss]
    have st := ip.2.2.2 (sp_d (vA V) - N) (by omega) (by omega)
    rw [el] at st
    rw [e1]
    have iv1 : se_iv E h1 := (i.2.fz (mx_fzat (b := 109) (k := 1) (x := nI (sp_d (vA V) - N))) (fun a k q => mv_bne (by unfold cr_reg at q; omega))).fz f1.z (fun a k q => s81 a (by unfold cr_reg at q; omega) k)
    refine H h1 ⟨i.1.deed m fz (fun a k q => mx_sDf (by omega)) (fun k hk => sp_undo_o (by omega)) ?_ ?_, iv1⟩ (mx_sDfC fz)
    · have s2 : i_st h1 81 (fun j => vA V (77 + 11 * (sp_d (vA V) - N) + j)) := by
        refine ⟨?_, ?_, ?_, fun p hp => ?_⟩
        · rw [c1 0 (by omega), mx_InE (by omega)]; exact st.1
        · rw [c1 1 (by omega), mx_InE (by omega)]; exact st.2.1
        · rw [c1 2 (by omega), mx_InE (by omega)]; exact st.2.2.1
        · rw [c2 p hp, mx_InE (by omega)]; exact st.2.2.2 p hp
      exact s2.cg (fun j hj => sp_undo_n hj)
    · refine ⟨e1.trans d1.symm, ?_, ?_, fun j hj hd => ?_⟩
      · rw [f1.2.2.2.2]; exact ip.2.1
      · rw [f1.2.2.2.2]; exact ip.2.2.1
      · rw [d2] at hd
        rw [f1.2.2.2.2, mx_RsI]
        obtain ⟨l2, hl2, el2⟩ := ip.2.1 j hj
        have old := ip.2.2.2 j hj (by omega)
        have o2 : i_st h1 (mv_R h 110 j) (fun q => vA V (77 + 11 * j + q)) := (old.fz (mx_fzat (b := 109) (k := 1) (x := nI (sp_d (vA V) - N))) (fun k => mv_bne (by omega)) (fun k => mv_bne (by omega))).fz f1.z (s81 _ (by omega)) (s81 _ (by omega))
        exact o2.cg (fun q hq => sp_undo_o (by omega))
theorem cm237 {E : mv_E} {D k n : Nat} {h : mv_H} {Q : mv_Q} {V : vw} {x : Int32} (e : vw_of h = V) (m : InvM V) (H : ∀ h', fM (V_undo V x) h h' → Q (some (.int (v_undo V x))) h') : mv_VE E (D + 1) k n 237 0 [some (.ref 148), some (.int x), none] [] h Q := by
  have md := m.1.2.2.1
  have f0 := fM.of e
  have eA : mv_I h 149 = vA V := by rw [← e]; rfl
  have w : pf182 x.toInt64 1 10 = (!decide (x < 1) && !decide (10 < x)) := mx_wi (x := x) (L := 1) (H := 10) 1 10 rfl rfl
  apply sg237_0
  unfold V_undo v_undo at H
  rw [eA]
  refine mx_cdb _ w (fun z => ?_) (fun z => ?_)
  · have z1 : ¬ x < 1 := by
      simp only [Bool.and_eq_true, Bool.not_eq_true', decide_eq_false_iff_not] at z
      exact z.1
    refine mx_if (fun r => ?_) (fun r => ?_)
    · have z : un (vA V) x = false := by unfold un; rw [decide_eq_true r, Bool.not_true, Bool.and_false]
      rw [z] at H; exact H _ f0
    · have z : un (vA V) x = true := by unfold un; rw [decide_eq_false z1, decide_eq_false r]; rfl
      rw [z] at H
      obtain ⟨N, n1, n2, rfl⟩ := unT m.1.2.1 md z
      rw [nI_clamp (by omega)] at H
      rw [m.1.2.1, pk_sub n2]
      refine mx_loop (P := fun j => ∀ h', fM (vw_A V (fun k => if k = 76 then nI (sp_d (vA V) - N) else if 65 ≤ k ∧ k < 65 + j then vA V (77 + 11 * (sp_d (vA V) - N) + (k - 65)) else vA V k)) h h' → mv_VE E (D + 1) k n 237 44 [some (.ref 148), none, some (.int (nI j))] [] h' Q) 11 ?_ ?_ _ ((f0.at (k := 76) (x := nI (sp_d (vA V) - N))).eqA (fun k => ?_))
      · intro h' f'
        have e76 : mv_I h' 149 76 = nI (sp_d (vA V) - N) := by rw [f'.A]; rfl
        apply sg237_44
        rw [e76]
        exact mx_ltF 11 11 (Nat.le_refl _) (H h' f') (by omega)
      · intro j hj ih h' f'
        have e76 : mv_I h' 149 76 = nI (sp_d (vA V) - N) := by rw [f'.A]; rfl
        have ev : mv_I h' 149 (77 + 11 * (sp_d (vA V) - N) + j) = vA V (77 + 11 * (sp_d (vA V) - N) + j) := by
          rw [f'.A]
          show (if 77 + 11 * (sp_d (vA V) - N) + j = 76 then nI (sp_d (vA V) - N) else if 65 ≤ 77 + 11 * (sp_d (vA V) - N) + j ∧ 77 + 11 * (sp_d (vA V) - N) + j < 65 + j then vA V (77 + 11 * (sp_d (vA V) - N) + (77 + 11 * (sp_d (vA V) - N) + j - 65)) else vA V (77 + 11 * (sp_d (vA V) - N) + j)) = _
          rw [if_neg (by omega), if_neg (by omega)]
        apply sg237_44
        rw [e76, show (11 : Int32) * nI (sp_d (vA V) - N) = nI (11 * (sp_d (vA V) - N)) from pk_mul 11 _, show (77 : Int32) + nI (11 * (sp_d (vA V) - N)) = nI (77 + 11 * (sp_d (vA V) - N)) from nI_add 77 _, nI_add, show (65 : Int32) + nI j = nI (65 + j) from nI_add 65 j, nI_clamp (n := 77 + 11 * (sp_d (vA V) - N) + j) (by omega), nI_clamp (n := 65 + j) (by omega), nI_1, ev]
        refine mx_ltT j 11 hj (mv_gdI (mx_inT (77 + 11 * (sp_d (vA V) - N) + j) (by omega) (by omega)) (mv_gdI (mx_inT (65 + j) (by omega) (by omega)) ?_)) (by omega)
        refine ih _ ((f'.at).eqA (fun k => ?_))
        show mx_upA _ _ _ k = _
        unfold mx_upA
        show (if k = 65 + j then vA V (77 + 11 * (sp_d (vA V) - N) + j) else if k = 76 then nI (sp_d (vA V) - N) else if 65 ≤ k ∧ k < 65 + j then vA V (77 + 11 * (sp_d (vA V) - N) + (k - 65)) else vA V k) = if k = 76 then nI (sp_d (vA V) - N) else if 65 ≤ k ∧ k < 65 + (j + 1) then vA V (77 + 11 * (sp_d (vA V) - N) + (k - 65)) else vA V k
        by_cases c : k = 65 + j
        · rw [if_pos c, if_neg (by omega), if_pos (by omega), c, show 65 + j - 65 = j by omega]
        · rw [if_neg c]
          by_cases c1 : k = 76
          · rw [if_pos c1, if_pos c1]
          · rw [if_neg c1, if_neg c1]
            by_cases c2 : 65 ≤ k ∧ k < 65 + j
            · rw [if_pos c2, if_pos (by omega)]
            · rw [if_neg c2, if_neg (by omega)]
      · show mx_upA (vA V) 76 _ k = _
        unfold mx_upA
        by_cases c : k = 76
        · rw [if_pos c, if_pos c]
        · rw [if_neg c, if_neg c, if_neg (by omega)]
  · have z1 : un (vA V) x = false := by
      cases y : un (vA V) x with
      | false => rfl
      | true =>
        exfalso
        obtain ⟨N, n1, n2, rfl⟩ := unT m.1.2.1 md y
        have a : ¬ nI N < 1 := fun c => by
          have := (nI_ltI (a := N) (b := 1) (by omega) (by omega)).mp c
          omega
        have b : ¬ (10 : Int32) < nI N := fun c => by
          have := (nI_ltI (a := 10) (b := N) (by omega) (by omega)).mp c
          omega
        rw [decide_eq_false a, decide_eq_false b] at z
        cases z
    rw [z1] at H; exact H _ f0
