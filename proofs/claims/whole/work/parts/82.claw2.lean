/-! How the class reads a law: a step, and all. -/
/-- what a step gives -/
def cPo (B : Nat → Nat) (N l p : Nat) (R W : List Nat) (i : Nat) (h : mv_H) (r : Int32) (h' : mv_H) : Prop := mx_fr S2 h h' ∧ ((∃ p' R' W', r = nI p' ∧ (p' = 1 ∨ p' = 2 ∨ p' = 3 ∨ p' = 4) ∧ cN l R' W' h' ∧ cK B N (i + 1) h' ∧ R'.length + W'.length ≤ i + 1 ∧ MO B N l p R W i = MO B N l p' R' W' (i + 1)) ∨ (∃ f, (f = 2 ∨ f = 4) ∧ r = -(nI f) ∧ cK B N i h' ∧ mv_I h' 58 5 = nI (140 + l) ∧ MO B N l p R W i = (f, i, [])) ∨ (r = 0 ∧ ∃ R', cK B N i h' ∧ cN l R' [] h' ∧ R'.length ≤ i ∧ i < tT B N ∧ MO B N l p R W i = (0, i, R')))
theorem cPo2 {B : Nat → Nat} {N l p i : Nat} {R W : List Nat} {h h' : mv_H} (f : mx_fr S2 h h') (c : cK B N i h') (e5 : mv_I h' 58 5 = nI (140 + l)) (e : MO B N l p R W i = (2, i, [])) : cPo B N l p R W i h (-2) h' := ⟨f, Or.inr (Or.inl ⟨2, Or.inl rfl, rfl, c, e5, e⟩)⟩
theorem wv_op {m : Nat} (h : m = 18 ∨ m = 19 ∨ m = 20 ∨ m = 32 ∨ m = 33 ∨ m = 34 ∨ m = 35 ∨ m = 37 ∨ m = 39 ∨ m = 40 ∨ m = 41) : wv m = true := by
  unfold wv
  simp only [Bool.or_eq_true, decide_eq_true_eq]
  omega
theorem ct10 {E : mv_E} {D k n : Nat} {h : mv_H} {Q : mv_Q} {B : Nat → Nat} {N l i p q : Nat} {R W : List Nat} (hN : N ≤ 900) (s : cN l R W h) (c : cK B N i h) (hw : wv (tK B N i) = true) (hRW : R.length + W.length ≤ i) (hq : q = 1 ∨ q = 2) (e : MO B N l p R W i = mjoin (mrun (tK B N) (tN B N) l (tT B N - i)) (tK B N) q R W i) (H : ∀ r h', cPo B N l p R W i h r h' → Q (some (.int r)) h') : mv_VE E (D + 2) k n 10 0 [some (.ref 58), some (.int (nI (ck (tK B N i)))), some (.int (nI q))] [] h (fun v h1 => ∃ r, v = some (.int r) ∧ Q (some (.int r)) h1) := by
  have k42 := wv_lt hw
  have iT := tT_adv c.2.2 ⟨fun e => (by rw [e] at hw; cases hw), fun e => (by rw [e] at hw; cases hw)⟩
  have T9 := (tT_lt B N).1
  apply sg10_0
  rw [(ck_t _ k42).2.1]
  refine ct12 (lrk_6 _) s (fun h1 f1 s1 => ⟨rfl, ?_⟩)
  have pl := pr_len (r := lrk (tK B N i)) (W := W) (R := R)
  unfold mjoin at e
  refine ct8 hN s1 (c.f5 f1) hw (by omega) (fun l64 h2 f2 s2 c2 => ⟨_, rfl, _, rfl, H _ h2 ⟨(fr5 f1).tr f2, Or.inl ⟨q, _, _, rfl, by omega, s2, c2, ?_, ?_⟩⟩⟩) (fun l64 => ⟨_, rfl, _, rfl, H _ h1 ⟨fr5 f1, Or.inr (Or.inl ⟨4, Or.inr rfl, rfl, c.f5 f1, s1.1, ?_⟩)⟩⟩)
  · show _ + (_ + 1) ≤ i + 1; omega
  · rw [e, if_neg (by omega)]
    exact mo_nx
  · rw [e, if_pos l64]
theorem ct16 {E : mv_E} {D k n : Nat} {h : mv_H} {Q : mv_Q} {B : Nat → Nat} {N l i p q : Nat} {R W : List Nat} (hN : N ≤ 900) (s : cN l R W h) (c : cK B N i h) (hk : tK B N i ≠ 24 ∧ tK B N i ≠ 25) (hRW : R.length + W.length ≤ i) (hq : q = 3 ∨ q = 4) (e : MO B N l p R W i = mclose (mrun (tK B N) (tN B N) l (tT B N - i)) q R W i) (H : ∀ r h', cPo B N l p R W i h r h' → Q (some (.int r)) h') : mv_VE E (D + 2) k n 16 0 [some (.ref 58), some (.int (nI q))] [] h (fun v h1 => ∃ r, v = some (.int r) ∧ Q (some (.int r)) h1) := by
  apply sg16_0
  refine ct12 (r := 0) (by omega) s (fun h1 f1 s1 => ⟨rfl, ?_⟩)
  have pl := pr_len (r := 0) (W := W) (R := R)
  unfold mclose at e
  rw [s1.2.2.1]
  generalize pr 0 R W = z at s1 pl e
  obtain ⟨R', W'⟩ := z
  cases W' with
  | nil =>
    refine mx_ltF 0 0 (by omega) (ct83 hN (c.f5 f1) hk (fun h2 f2 c2 => ⟨rfl, _, rfl, H _ h2 ⟨(fr5 f1).tr (fr83 f2), Or.inl ⟨q, R', [], rfl, by omega, s1.f83 f2, c2, ?_, ?_⟩⟩⟩)) (by omega)
    · have : R'.length + 0 = R.length + W.length := pl
      show R'.length + 0 ≤ i + 1; omega
    · rw [e]; exact mo_nx
  | cons w V =>
    have pl : R'.length + (V.length + 1) = R.length + W.length := pl
    have l64 : V.length + 1 ≤ 64 := s1.2.2.2.2.2.1
    have l9 : R'.length + (V.length + 1) ≤ 900 := s1.2.2.2.2.2.2
    rw [show ((R', w :: V).2).length = V.length + 1 from rfl, nI_pred]
    have fr : mx_fr S5 h1 (mv_sI h1 58 4 (nI V.length)) := mx_fr.sI rfl
    have s2 : cN l R' V (mv_sI h1 58 4 (nI V.length)) := ⟨by rw [mx_Isk (by omega)]; exact s1.1, by rw [mx_Isk (by omega)]; exact s1.2.1, mx_Iss, fun j hj => by rw [mx_InE (by omega)]; exact s1.2.2.2.1 j hj, s1.2.2.2.2.1.2.2.o (by omega), by omega, by omega⟩
    refine mx_ltT 0 (V.length + 1) (by omega) (ct83 hN ((c.f5 f1).f5 fr) hk (fun h2 f2 c2 => ⟨rfl, _, rfl, H _ h2 ⟨(fr5 (f1.tr fr)).tr (fr83 f2), Or.inl ⟨q, R', V, rfl, by omega, s2.f83 f2, c2, by omega, ?_⟩⟩⟩)) (by omega)
    rw [e]; exact mo_nx
/-- where an atom or a unit may begin -/
theorem ct3 {E : mv_E} {D k n : Nat} {h : mv_H} {Q : mv_Q} {B : Nat → Nat} {N l i p : Nat} {R W : List Nat} (hN : N ≤ 900) (hl : l < 2) (hp : p = 1 ∨ p = 2) (s : cN l R W h) (c : cK B N i h) (hRW : R.length + W.length ≤ i) (H : ∀ r h', cPo B N l p R W i h r h' → Q (some (.int r)) h') : mv_VE E (D + 2) k n 3 0 [some (.ref 58), some (.int (nI p)), none, none] [] h Q := by
  have k41 := tK_41 B N i
  have T9 := (tT_lt B N).1
  have iT := c.2.2
  obtain ⟨q23, q20, q35, q37, -⟩ := cki (tK B N i) (by omega)
  have be : MO B N l p R W i = mbeg (mrun (tK B N) (tN B N) l (tT B N - i)) (tK B N) (tN B N) l p R W i := mo_be iT hp
  unfold mbeg at be
  apply sg3_0
  refine ct81 hN c ⟨_, rfl, ?_⟩
  by_cases h23 : tK B N i = 23
  · have i1 := tT_adv iT (by omega)
    rw [if_pos h23] at be
    rw [if_pos (q23.mpr h23), if_pos (q23.mpr h23)]
    have tn := tN_lt h23
    refine ct84 hN c h23 ⟨_, rfl, ct5 (tN B N i) (by unfold cr_tr; rw [if_pos tn]) s (by omega) (fun h1 f1 s1 => ⟨rfl, ct83 hN (c.f5 f1) (by omega) (fun h2 f2 c2 => ⟨rfl, H _ h2 ⟨(fr5 f1).tr (fr83 f2), Or.inl ⟨3, _, W, rfl, by omega, s1.f83 f2, c2, ?_, ?_⟩⟩⟩)⟩)⟩
    · rw [List.length_append]; show R.length + 1 + W.length ≤ i + 1; omega
    · rw [be]; exact mo_nx
  · rw [if_neg h23] at be
    rw [if_neg (fun e => h23 (q23.mp e)), pf4_is (by omega) hl s.1]
    by_cases hw : lwd l (tK B N i) < 8
    · rw [decide_eq_true hw, cond_true, if_neg (fun e => h23 (q23.mp e))]
      rw [if_pos hw] at be
      have nk : tK B N i ≠ 24 ∧ tK B N i ≠ 25 := ⟨fun e => (by rw [e] at hw; exact absurd hw (show ¬ 8 < 8 by omega)), fun e => (by rw [e] at hw; exact absurd hw (show ¬ 8 < 8 by omega))⟩
      have i1 := tT_adv iT nk
      refine ct5 (1000 + lwd l (tK B N i)) (by rw [show (1000 : Int32) = nI 1000 from rfl, nI_add, lwd_tr _ (by omega) l hl hw]) s (by omega) (fun h1 f1 s1 => ⟨rfl, ct83 hN (c.f5 f1) nk (fun h2 f2 c2 => ⟨rfl, H _ h2 ⟨(fr5 f1).tr (fr83 f2), Or.inl ⟨3, _, W, rfl, by omega, s1.f83 f2, c2, ?_, ?_⟩⟩⟩)⟩)
      · rw [List.length_append]; show R.length + 1 + W.length ≤ i + 1; omega
      · rw [be]; exact mo_nx
    · rw [decide_eq_false hw, cond_false]
      rw [if_neg hw] at be
      have no : ¬ (tK B N i = 35 ∨ (p = 1 ∧ (tK B N i = 20 ∨ tK B N i = 37))) → Q (some (.int (-2))) h := fun z => H _ h (cPo2 mx_fr.rf c s.1 (by rw [be, if_neg z]))
      have go : (tK B N i = 35 ∨ (p = 1 ∧ (tK B N i = 20 ∨ tK B N i = 37))) → mv_VE E (D + 1) 0 0 6 0 [some (.ref 58), none, none] [] h (fun v h15 => ∃ r16, v = some (.int r16) ∧ if r16 < 6 then (if nI (ck (tK B N i)) = 40 then (mv_VE E (D + 1) 0 0 8 0 [some (.ref 58), some (.int (nI (ck (tK B N i)))), some (.int 2)] [] h15 (fun v h17 => ∃ r18, v = some (.int r18) ∧ Q (some (.int r18)) h17)) else (mv_VE E (D + 1) 0 0 8 0 [some (.ref 58), some (.int (nI (ck (tK B N i)))), some (.int 1)] [] h15 (fun v h19 => ∃ r20, v = some (.int r20) ∧ Q (some (.int r20)) h19))) else (Q (some (.int (-4))) h15)) := by
        intro z
        rw [if_pos z] at be
        have i1 := tT_adv iT (by omega)
        have wk : wv (tK B N i) = true := wv_op (by omega)
        have dl : ∀ V : List Nat, dep V ≤ V.length := by
          intro V
          induction V with
          | nil => exact Nat.le_refl _
          | cons w V ih =>
            show (if lbr w = true ∨ w = 20 then 1 else 0) + dep V ≤ V.length + 1
            split <;> omega
        have dW := dl W
        have l64 := s.2.2.2.2.2.1
        refine ct6 s ⟨_, rfl, mx_lt (dep W) 6 (fun d6 => ?_) (fun d6 => ?_) (by omega) (by omega)⟩
        · rw [if_neg (show ¬ 6 ≤ dep W by omega)] at be
          have fin : ∀ q : Nat, q = 1 ∨ q = 2 → (if tK B N i = 35 then 2 else 1) = q → mv_VE E (D + 1) 0 0 8 0 [some (.ref 58), some (.int (nI (ck (tK B N i)))), some (.int (nI q))] [] h (fun v h17 => ∃ r18, v = some (.int r18) ∧ Q (some (.int r18)) h17) := by
            intro q hq eq
            rw [eq] at be
            refine ct8 hN s c wk (by omega) (fun l6 h2 f2 s2 c2 => ⟨_, rfl, H _ h2 ⟨f2, Or.inl ⟨q, R, _, rfl, by omega, s2, c2, ?_, ?_⟩⟩⟩) (fun l6 => ⟨_, rfl, H _ h ⟨mx_fr.rf, Or.inr (Or.inl ⟨4, Or.inr rfl, rfl, c, s.1, ?_⟩)⟩⟩)
            · show R.length + (W.length + 1) ≤ i + 1; omega
            · rw [be, if_neg (by omega)]; exact mo_nx
            · rw [be, if_pos l6]
          by_cases y : tK B N i = 35
          · rw [if_pos (q35.mpr y)]
            exact fin 2 (by omega) (if_pos y)
          · rw [if_neg (fun e => y (q35.mp e))]
            exact fin 1 (by omega) (if_neg y)
        · exact H _ h ⟨mx_fr.rf, Or.inr (Or.inl ⟨4, Or.inr rfl, rfl, c, s.1, by rw [be, if_pos d6]⟩)⟩
      refine mx_eq p 1 (fun p1 => mx_if (fun y => mx_if (fun z => go (Or.inl (q35.mp z))) (fun z => go (Or.inr ⟨p1, Or.inl (q20.mp y)⟩))) (fun y => mx_if (fun y2 => mx_if (fun z => go (Or.inl (q35.mp z))) (fun z => go (Or.inr ⟨p1, Or.inr (q37.mp y2)⟩))) (fun y2 => mx_if (fun z => go (Or.inl (q35.mp z))) (fun z => no ?_)))) (fun p1 => mx_if (fun z => go (Or.inl (q35.mp z))) (fun z => no ?_)) (by omega) (by omega)
      · have a : tK B N i ≠ 20 := fun e => y (q20.mpr e)
        have b : tK B N i ≠ 37 := fun e => y2 (q37.mpr e)
        have d : tK B N i ≠ 35 := fun e => z (q35.mpr e)
        omega
      · have d : tK B N i ≠ 35 := fun e => z (q35.mpr e)
        omega
theorem pr_all {h : mv_H} : ∀ {W R : List Nat}, wM h W → br W = 0 → (pr 0 R W).2 = []
  | [], _, _, _ => rfl
  | w :: W, R, m, e => by
    have e : (if lbr w = true then w else br W) = 0 := e
    by_cases q : lbr w = true
    · rw [if_pos q] at e; rw [e] at q; exact absurd q (by decide)
    · rw [if_neg q] at e
      have q2 : lbr w = false := by cases z : lbr w with | false => rfl | true => exact absurd z q
      rw [pr_c q2 (Nat.zero_le _)]
      exact pr_all m.2.2 e
/-- what may stand behind an atom or a unit -/
theorem ct9 {E : mv_E} {D k n : Nat} {h : mv_H} {Q : mv_Q} {B : Nat → Nat} {N l i p : Nat} {R W : List Nat} (hN : N ≤ 900) (hp : p = 3 ∨ p = 4) (s : cN l R W h) (c : cK B N i h) (hRW : R.length + W.length ≤ i) (H : ∀ r h', cPo B N l p R W i h r h' → Q (some (.int r)) h') : mv_VE E (D + 4) k n 9 0 [some (.ref 58), some (.int (nI p)), none, none] [] h Q := by
  have k41 := tK_41 B N i
  have T9 := (tT_lt B N).1
  have iT := c.2.2
  have bi := bcl_is s.2.2.2.2.1
  obtain ⟨-, -, -, -, q36, q34, q32, q33, q30, q40, q39, q4_, q38, q18, q19⟩ := cki (tK B N i) (by omega)
  have be : MO B N l p R W i = mgo (mrun (tK B N) (tN B N) l (tT B N - i)) (tK B N) p R W i := mo_go iT hp
  have no : mgo (mrun (tK B N) (tN B N) l (tT B N - i)) (tK B N) p R W i = (2, i, []) → Q (some (.int (-2))) h := fun z => H _ h (cPo2 mx_fr.rf c s.1 (by rw [be, z]))
  have op : tK B N i = 32 ∨ tK B N i = 33 ∨ tK B N i = 34 → (if nI p = 3 then (mv_VE E (D + 3) 0 0 10 0 [some (.ref 58), some (.int (nI (ck (tK B N i)))), some (.int 2)] [] h (fun v h44 => ∃ r45, v = some (.int r45) ∧ Q (some (.int r45)) h44)) else (Q (some (.int (-2))) h)) := fun z => by
    refine mx_eq p 3 (fun y => ?_) (fun y => no (by unfold mgo; rw [if_pos z, if_neg y])) (by omega) (by omega)
    exact ct10 (D := D + 1) (q := 2) hN s c (wv_op (by omega)) hRW (by omega) (by rw [be]; unfold mgo; rw [if_pos z, if_pos y]) H
  have cm : tK B N i = 39 ∨ tK B N i = 40 ∨ tK B N i = 41 → (if nI p = 3 then (mv_VE E (D + 3) 0 0 13 0 [some (.ref 58), none] [] h (fun v h29 => ∃ r30, v = some (.int r30) ∧ if r30 = 40 then (Q (some (.int (-2))) h29) else (mv_VE E (D + 3) 0 0 14 0 [some (.ref 58), none] [] h29 (fun v h31 => ∃ r32, v = some (.int r32) ∧ if r32 = 0 then (mv_VE E (D + 3) 0 0 10 0 [some (.ref 58), some (.int (nI (ck (tK B N i)))), some (.int 2)] [] h31 (fun v h33 => ∃ r34, v = some (.int r34) ∧ Q (some (.int r34)) h33)) else (Q (some (.int (-2))) h31))))) else (Q (some (.int (-2))) h)) := fun z => by
    have n1 : ¬ (tK B N i = 32 ∨ tK B N i = 33 ∨ tK B N i = 34) := by omega
    refine mx_eq p 3 (fun y => ct13 (D := D + 2) s ⟨_, rfl, mx_if (fun b => no ?_) (fun b => ct14 (D := D + 2) s ⟨_, rfl, st76 (fun m => no ?_) (fun m => ?_)⟩)⟩) (fun y => no ?_) (by omega) (by omega)
    · unfold mgo; rw [if_neg n1, if_pos z, if_neg (fun x => x.2.1 (bi.2.1.mp b))]
    · unfold mgo; rw [if_neg n1, if_pos z, if_neg (fun x => by rw [m] at x; exact Bool.noConfusion x.2.2)]
    · exact ct10 (D := D + 1) (q := 2) hN s c (wv_op (by omega)) hRW (by omega) (by rw [be]; unfold mgo; rw [if_neg n1, if_pos z, if_pos ⟨y, fun x => b (bi.2.1.mpr x), m⟩]) H
    · unfold mgo; rw [if_neg n1, if_pos z, if_neg (fun x => y x.1)]
  have ao : tK B N i = 18 ∨ tK B N i = 19 → mv_VE E (D + 3) 0 0 15 0 [some (.ref 58), some (.int (nI p))] [] h (fun v h7 => ∃ r8, v = some (.int r8) ∧ if r8 = 0 then (Q (some (.int (-2))) h7) else (mv_VE E (D + 3) 0 0 10 0 [some (.ref 58), some (.int (nI (ck (tK B N i)))), some (.int 1)] [] h7 (fun v h9 => ∃ r10, v = some (.int r10) ∧ Q (some (.int r10)) h9))) := fun z => by
    refine ct15 (D := D + 1) hp s ⟨_, rfl, st76 (fun m => ?_) (fun m => no ?_)⟩
    · exact ct10 (D := D + 1) (q := 1) hN s c (wv_op (by omega)) hRW (by omega) (by rw [be]; unfold mgo; rw [if_neg (by omega), if_neg (by omega), if_pos z, if_pos m]) H
    · unfold mgo; rw [if_neg (by omega), if_neg (by omega), if_pos z, if_neg (by rw [m]; decide)]
  apply sg9_0
  refine ct81 hN c ⟨_, rfl, mx_if (fun y => ?_) (fun y36 => mx_if (fun y => op (Or.inr (Or.inr (q34.mp y)))) (fun y34 => mx_if (fun y => op (Or.inl (q32.mp y))) (fun y32 => mx_if (fun y => op (Or.inr (Or.inl (q33.mp y)))) (fun y33 => mx_if (fun y => ?_) (fun y30 => mx_if (fun y => cm (Or.inr (Or.inl (q40.mp y)))) (fun y40 => mx_if (fun y => cm (Or.inl (q39.mp y))) (fun y39 => mx_if (fun y => cm (Or.inr (Or.inr (q4_.mp y)))) (fun y41 => mx_if (fun y => ?_) (fun y38 => mx_if (fun y => ao (Or.inl (q18.mp y))) (fun y18 => mx_if (fun y => ao (Or.inr (q19.mp y))) (fun y19 => no ?_)))))))))))⟩
  · have y := q36.mp y
    refine ct13 (D := D + 2) s ⟨_, rfl, mx_if (fun b => ?_) (fun b => no ?_)⟩
    · exact ct16 (D := D + 1) (q := 3) hN s c (by omega) hRW (by omega) (by rw [be]; unfold mgo; rw [if_neg (by omega), if_neg (by omega), if_neg (by omega), if_pos y, if_pos (bi.2.1.mp b)]) H
    · unfold mgo; rw [if_neg (by omega), if_neg (by omega), if_neg (by omega), if_pos y, if_neg (fun x => b (bi.2.1.mpr x))]
  · have y := q30.mp y
    have i1 := tT_adv iT (by omega)
    refine ct13 (D := D + 2) s ⟨_, rfl, mx_if (fun b => ct15 (D := D + 1) hp s ⟨_, rfl, st76 (fun m => ?_) (fun m => no ?_)⟩) (fun b => no ?_)⟩
    · refine ct12 (D := D + 2) (r := 0) (by omega) s (fun h1 f1 s1 => ⟨rfl, H _ h1 ⟨fr5 f1, Or.inr (Or.inr ⟨rfl, (pr 0 R W).1, c.f5 f1, ?_, ?_, by omega, ?_⟩)⟩⟩)
      · rw [pr_all s.2.2.2.2.1 (bi.1.mp b)] at s1; exact s1
      · have pl := pr_len (r := 0) (W := W) (R := R)
        omega
      · rw [be]; unfold mgo; rw [if_neg (by omega), if_neg (by omega), if_neg (by omega), if_neg (by omega), if_neg (by omega), if_pos y, if_pos ⟨bi.1.mp b, m⟩]
    · unfold mgo; rw [if_neg (by omega), if_neg (by omega), if_neg (by omega), if_neg (by omega), if_neg (by omega), if_pos y, if_neg (fun x => by rw [m] at x; exact Bool.noConfusion x.2)]
    · unfold mgo; rw [if_neg (by omega), if_neg (by omega), if_neg (by omega), if_neg (by omega), if_neg (by omega), if_pos y, if_neg (fun x => b (bi.1.mpr x.1))]
  · have y := q38.mp y
    refine ct13 (D := D + 2) s ⟨_, rfl, mx_if (fun b => ct15 (D := D + 1) hp s ⟨_, rfl, st76 (fun m => ?_) (fun m => no ?_)⟩) (fun b => no ?_)⟩
    · exact ct16 (D := D + 1) (q := 4) hN s c (by omega) hRW (by omega) (by rw [be]; unfold mgo; rw [if_neg (by omega), if_neg (by omega), if_neg (by omega), if_neg (by omega), if_pos y, if_pos ⟨bi.2.2.mp b, m⟩]) H
    · unfold mgo; rw [if_neg (by omega), if_neg (by omega), if_neg (by omega), if_neg (by omega), if_pos y, if_neg (fun x => by rw [m] at x; exact Bool.noConfusion x.2)]
    · unfold mgo; rw [if_neg (by omega), if_neg (by omega), if_neg (by omega), if_neg (by omega), if_pos y, if_neg (fun x => b (bi.2.2.mpr x.1))]
  · have a1 : tK B N i ≠ 36 := fun e => y36 (q36.mpr e)
    have a2 : tK B N i ≠ 34 := fun e => y34 (q34.mpr e)
    have a3 : tK B N i ≠ 32 := fun e => y32 (q32.mpr e)
    have a4 : tK B N i ≠ 33 := fun e => y33 (q33.mpr e)
    have a5 : tK B N i ≠ 30 := fun e => y30 (q30.mpr e)
    have a6 : tK B N i ≠ 40 := fun e => y40 (q40.mpr e)
    have a7 : tK B N i ≠ 39 := fun e => y39 (q39.mpr e)
    have a8 : tK B N i ≠ 41 := fun e => y41 (q4_.mpr e)
    have a9 : tK B N i ≠ 38 := fun e => y38 (q38.mpr e)
    have b1 : tK B N i ≠ 18 := fun e => y18 (q18.mpr e)
    have b2 : tK B N i ≠ 19 := fun e => y19 (q19.mpr e)
    unfold mgo
    rw [if_neg (by omega), if_neg (by omega), if_neg (by omega), if_neg a1, if_neg a9, if_neg a5]
/-- the class reads a law -/
def S2w (a k : Nat) : Bool := S2 a k || (Nat.beq a 58 && Nat.beq k 5)
theorem ct2 {E : mv_E} {D k n : Nat} {h : mv_H} {Q : mv_Q} {B : Nat → Nat} {N l i : Nat} (hN : N ≤ 900) (hl : l < 2) (c : cK B N i h) (H : ∀ r h', mx_fr S2w h h' → ((∃ f i', (f = 2 ∨ f = 4) ∧ r = -(nI f) ∧ cK B N i' h' ∧ MO B N l 1 [] [] i = (f, i', [])) ∨ (r = 0 ∧ ∃ i' R', cK B N i' h' ∧ cN l R' [] h' ∧ R'.length ≤ i' ∧ i' < tT B N ∧ MO B N l 1 [] [] i = (0, i', R'))) → Q (some (.int r)) h') : mv_VE E (D + 5) k n 2 0 [some (.ref 58), some (.int (nI (140 + l))), none, none] [] h Q := by
  have T9 := (tT_lt B N).1
  have Z9 := tZ_ge B N
  apply sg2_0
  have fin : ∀ r h1 x, (r = 0 ∨ r = -2 ∨ r = -4) → Q (some (.int r)) h1 → mv_VE E (D + 5) k n 2 19 [some (.ref 58), none, some (.int r), some (.int x)] [] h1 Q := by
    intro r h1 x hr q
    apply sg2_19
    refine mx_if (fun _ => q) (fun _ => ?_)
    rw [if_neg (by rcases hr with e | e | e <;> rw [e] <;> decide)]
    exact q
  have key : ∀ f h1 p R W j, tT B N - j ≤ f → mx_fr S2w h h1 → (p = 1 ∨ p = 2 ∨ p = 3 ∨ p = 4) → cN l R W h1 → cK B N j h1 → i ≤ j → R.length + W.length ≤ j → MO B N l 1 [] [] i = MO B N l p R W j → mv_VE E (D + 5) k n 2 19 [some (.ref 58), none, some (.int (nI p)), some (.int (nI (j - i)))] [] h1 Q := by
    intro f
    induction f with
    | zero =>
      intro h1 p R W j hf f1 hp s1 c1 ij hRW e1
      have jT := c1.2.2
      have post : ∀ r h', cPo B N l p R W j h1 r h' → mv_VE E (D + 5) k n 2 19 [some (.ref 58), none, some (.int r), some (.int (nI (j - i) + 1))] [] h' Q := by
        intro r h2 po
        obtain ⟨f2, ⟨p', R', W', -, -, -, c2, -, -⟩ | ⟨g, hg, rg, c2, -, e2⟩ | ⟨r0, R', c2, s2, l2, t2, e2⟩⟩ := po
        · exact absurd c2.2.2 (by omega)
        · exact fin r h2 _ (by rcases hg with e | e <;> subst e <;> rw [rg] <;> decide) (H r h2 (f1.tr (f2.to (fun _ _ q => (Bool.or_eq_false_iff.mp q).1))) (Or.inl ⟨g, j, hg, rg, c2, by rw [e1, e2]⟩))
        · omega
      apply sg2_19
      rw [c1.1.2.1]
      refine mx_ltF (tZ B N) (j - i) (by omega) (mx_ltT 0 p (by omega) (mx_eq p 1 (fun y => ct3 (D := D + 2) hN hl (by omega) s1 c1 hRW (fun r h2 po => ⟨r, rfl, post r h2 po⟩)) (fun y => mx_eq p 2 (fun y2 => ct3 (D := D + 2) hN hl (by omega) s1 c1 hRW (fun r h2 po => ⟨r, rfl, post r h2 po⟩)) (fun y2 => ct9 (D := D) hN (by omega) s1 c1 hRW (fun r h2 po => ⟨r, rfl, post r h2 po⟩)) (by omega) (by omega)) (by omega) (by omega)) (by omega)) (by omega)
    | succ f ih =>
      intro h1 p R W j hf f1 hp s1 c1 ij hRW e1
      have jT := c1.2.2
      have post : ∀ r h', cPo B N l p R W j h1 r h' → mv_VE E (D + 5) k n 2 19 [some (.ref 58), none, some (.int r), some (.int (nI (j - i) + 1))] [] h' Q := by
        intro r h2 po
        obtain ⟨f2, po⟩ := po
        have f12 := f1.tr (f2.to (fun _ _ q => (Bool.or_eq_false_iff.mp q).1))
        rcases po with ⟨p', R', W', rp, hp', s2, c2, l2, e2⟩ | ⟨g, hg, rg, c2, -, e2⟩ | ⟨r0, R', c2, s2, l2, t2, e2⟩
        · rw [rp, nI_1, show j - i + 1 = j + 1 - i by omega]
          exact ih h2 p' R' W' (j + 1) (by omega) f12 hp' s2 c2 (by omega) l2 (by rw [e1, e2])
        · exact fin r h2 _ (by rcases hg with e | e <;> subst e <;> rw [rg] <;> decide) (H r h2 f12 (Or.inl ⟨g, j, hg, rg, c2, by rw [e1, e2]⟩))
        · exact fin r h2 _ (Or.inl r0) (H r h2 f12 (Or.inr ⟨r0, j, R', c2, s2, l2, t2, by rw [e1, e2]⟩))
      apply sg2_19
      rw [c1.1.2.1]
      refine mx_ltF (tZ B N) (j - i) (by omega) (mx_ltT 0 p (by omega) (mx_eq p 1 (fun y => ct3 (D := D + 2) hN hl (by omega) s1 c1 hRW (fun r h2 po => ⟨r, rfl, post r h2 po⟩)) (fun y => mx_eq p 2 (fun y2 => ct3 (D := D + 2) hN hl (by omega) s1 c1 hRW (fun r h2 po => ⟨r, rfl, post r h2 po⟩)) (fun y2 => ct9 (D := D) hN (by omega) s1 c1 hRW (fun r h2 po => ⟨r, rfl, post r h2 po⟩)) (by omega) (by omega)) (by omega) (by omega)) (by omega)) (by omega)
  have fr : mx_fr S2w h (mv_sI (mv_sI (mv_sI h 58 5 (nI (140 + l))) 58 2 0) 58 4 0) := (mx_fr.sI rfl).tr ((mx_fr.sI rfl).tr (mx_fr.sI rfl))
  have st := key (tT B N - i) _ 1 [] [] i (Nat.le_refl _) fr (Or.inl rfl) ⟨by rw [mx_Isk (by omega), mx_Isk (by omega), mx_Iss], by rw [mx_Isk (by omega), mx_Iss]; rfl, mx_Iss, fun j hj => absurd hj (Nat.not_lt_zero _), trivial, by decide, by decide⟩ ⟨c.1.fr fr ⟨rfl, rfl⟩ (fun _ => ⟨rfl, rfl, rfl⟩), by rw [mx_InE (by omega), mx_InE (by omega), mx_InE (by omega)]; exact c.2.1, c.2.2⟩ (Nat.le_refl _) (Nat.zero_le _) rfl
  rw [Nat.sub_self] at st
  exact st
