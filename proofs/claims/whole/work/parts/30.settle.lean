/-! Letting go, weeks, settling: the model. -/
theorem mx_s12 {h h' : mv_H} (fr : mx_fr mx_s1 h h') : mx_fr mx_s2 h h' := fr.to (fun a k q => by unfold mx_s2 at q; unfold mx_s1; cases z : Nat.beq a 153 <;> rw [z] at q <;> first | rfl | cases q)
theorem ct212 {E : mv_E} {D k n : Nat} {h : mv_H} {Q : mv_Q} {x1 x2 : Int32} (s p : Nat) (ok : sp_ok (mv_I h 149)) (hs : s < 256) (hp : p < sp_P (mv_I h 149)) (e1 : x1 = nI s) (e2 : x2 = nI p) (H : ∀ h', mx_fr mx_s2 h h' → Q (some (.int (nI (sp_lets (mv_I h 149) s p).toNat))) h') : mv_VE E (D + 2) k n 212 0 [some (.ref 148), some (.int x1), some (.int x2)] [] h Q := by
  subst e1; subst e2
  obtain ⟨hP, h8, hB, l0, -⟩ := ok
  have hH := H h mx_fr.rf
  unfold sp_lets at H hH
  apply sg212_0
  refine mx_cdb (s.testBit p) (mx_isIn (by omega) (by omega)) (fun b => ?_) (fun b => ?_)
  · rw [b] at H hH
    refine mx_if (fun q => ?_) (fun q => ?_)
    · rw [decide_eq_true q] at hH; exact hH
    · rw [decide_eq_false q] at H
      rcases l0 with l1 | ⟨l1, l2, l3, l4, l5, l6⟩
      · exact absurd l1 q
      obtain ⟨hb1, hb2⟩ := hB p hp
      have hp2 := mx_p2 h8
      refine ct214 s (by omega) rfl ⟨_, rfl, ?_⟩
      rw [show (25 : Int32) + nI p = nI (25 + p) from nI_add 25 p, show (66 : Int32) + nI p = nI (66 + p) from nI_add 66 p, show (9 : Int32) + nI p = nI (9 + p) from nI_add 9 p, nI_clamp (n := 25 + p) (by omega), nI_clamp (n := 66 + p) (by omega), nI_clamp (n := 9 + p) (by omega)]
      refine mv_gdI (mx_inT (66 + p) (by omega) (by omega)) (mv_gdI (mx_inT (9 + p) (by omega) (by omega)) (mv_gdI (mx_inT (25 + p) (by omega) (by omega)) ?_))
      rw [hb1, mx_and]
      refine ct214 _ (Nat.lt_of_le_of_lt Nat.and_le_right (by omega)) rfl ⟨_, rfl, ?_⟩
      refine mv_gdI (mx_inT (25 + p) (by omega) (by omega)) ?_
      refine ct214 (mx_wo (sp_B (mv_I h 149) p) s) (Nat.lt_of_lt_of_le (mx_wo_lt (n := 8) (by omega)) (by omega)) ?_ ⟨_, rfl, ?_⟩
      · rw [← mx_andn, ← hb1]; rfl
      refine ct215 0 _ _ _ (sp_wL (mv_I h 149) s p) (by omega) l3 l2 l4 l5 l6 (fun j hj => ?_) rfl (fun h' fr => ⟨_, rfl, mv_gdI (mx_b01 _) ?_⟩)
      · unfold sp_okw at hj
        simp only [Bool.or_eq_true, Bool.and_eq_true, decide_eq_true_eq] at hj
        rcases (by omega : j = 0 ∨ j = 1 ∨ j = 2 ∨ j = 3 ∨ j = 4 ∨ j = 5 ∨ j = 6) with rfl | rfl | rfl | rfl | rfl | rfl | rfl <;> rfl
      · exact H h' ((mx_fr.sI (S := mx_s2) (a := 154) (k := 0) rfl).tr ((mx_fr.sI (S := mx_s2) (a := 154) (k := 1) rfl).tr ((mx_fr.sI (S := mx_s2) (a := 154) (k := 2) rfl).tr ((mx_fr.sI (S := mx_s2) (a := 154) (k := 3) rfl).tr ((mx_fr.sI (S := mx_s2) (a := 154) (k := 4) rfl).tr ((mx_fr.sI (S := mx_s2) (a := 154) (k := 5) rfl).tr ((mx_fr.sI (S := mx_s2) (a := 154) (k := 6) rfl).tr (mx_s12 fr))))))))
  · rw [b] at hH
    exact hH
theorem mx_fr.ok {h h' : mv_H} (fr : mx_fr mx_s2 h h') : mv_I h' 149 = mv_I h 149 := fr.I 149 (fun _ => rfl)
theorem ct229 {E : mv_E} {D k n : Nat} {h : mv_H} {Q : mv_Q} {x1 : Int32} (s : Nat) (ok : sp_ok (mv_I h 149)) (hs : s < 256) (e1 : x1 = nI s) (H : ∀ h', mx_fr mx_s2 h h' → Q (some (.int (nI (sp_week (mv_I h 149) s)))) h') : mv_VE E (D + 3) k n 229 0 [some (.ref 148), some (.int x1), none, none] [] h Q := by
  subst e1
  have ok' := ok
  obtain ⟨hP, h8, -⟩ := ok
  apply sg229_0
  refine mx_loop (P := fun i => ∀ h', mx_fr mx_s2 h h' → mv_VE E (D + 3) k n 229 4 [some (.ref 148), some (.int (nI s)), some (.int (nI (sp_gone (mv_I h 149) s i))), some (.int (nI i))] [] h' Q) (sp_P (mv_I h 149)) ?_ ?_ h mx_fr.rf
  · intro h' fr
    apply sg229_4
    rw [fr.ok, hP]
    refine mx_ltF (sp_P (mv_I h 149)) (sp_P (mv_I h 149)) (Nat.le_refl _) ?_ (by omega)
    rw [mx_andn]
    exact H h' fr
  · intro i hi ih h' fr
    apply sg229_4
    rw [fr.ok, hP]
    refine mx_ltT i (sp_P (mv_I h 149)) hi ?_ (by omega)
    refine ct212 s i (by rw [fr.ok]; exact ok') hs (by rw [fr.ok]; exact hi) rfl rfl (fun h2 fr2 => ⟨_, rfl, ?_⟩)
    have e : sp_gone (mv_I h 149) s (i + 1) = sp_gone (mv_I h 149) s i ||| cond (sp_lets (mv_I h 149) s i) (2 ^ i) 0 := rfl
    rw [fr.ok]
    have ih2 := ih h2 (fr.tr fr2)
    rw [e] at ih2
    cases b : sp_lets (mv_I h 149) s i with
    | false =>
      rw [b] at ih2
      rw [if_pos (by rfl), show nI (sp_gone (mv_I h 149) s i) ||| (0 : Int32) = nI (sp_gone (mv_I h 149) s i ||| 0) from mx_or _ 0, nI_1]
      exact ih2
    | true =>
      rw [b] at ih2
      rw [if_neg (by decide), mx_1shl (by omega), mx_or, nI_1]
      exact ih2
theorem sp_week_le (A : Nat → Int32) (s : Nat) : sp_week A s ≤ s := by
  unfold sp_week mx_wo
  have : s ^^^ (s &&& sp_gone A s (sp_P A)) = s &&& (s ^^^ (s &&& sp_gone A s (sp_P A))) := by
    apply Nat.eq_of_testBit_eq
    intro i
    simp only [Nat.testBit_xor, Nat.testBit_and]
    cases s.testBit i <;> cases (sp_gone A s (sp_P A)).testBit i <;> rfl
  rw [this]
  exact Nat.and_le_left
/-- settling: the set, the weeks, whether it has sunk -/
def sp_settle (A : Nat → Int32) : Nat → Nat → Nat → Bool → Nat × Nat × Bool
  | 0, s, w, b => (s, w, b)
  | f + 1, s, w, b => if sp_week A s = s then (s, w, b) else sp_settle A f (sp_week A s) (w + 1) (b || !sp_float A (sp_week A s))
def sp_stl (A : Nat → Int32) (s : Nat) : Nat × Nat × Bool := sp_settle A 256 s 0 (!sp_float A s)
def mx_s3 (a k : Nat) : Bool := Nat.beq a 153 || (Nat.beq a 154 || (Nat.beq a 148 && (Nat.beq k 21 || Nat.beq k 22)))
theorem mx_s23 {h h' : mv_H} (fr : mx_fr mx_s2 h h') : mx_fr mx_s3 h h' := fr.to (fun a k q => by
  unfold mx_s3 at q; unfold mx_s2
  cases z : Nat.beq a 153 <;> rw [z] at q
  · cases z2 : Nat.beq a 154 <;> rw [z2] at q
    · rfl
    · cases q
  · cases q)
theorem mx_fr.ok3 {h h' : mv_H} (fr : mx_fr mx_s3 h h') : mv_I h' 149 = mv_I h 149 := fr.I 149 (fun _ => rfl)
theorem ct249 {E : mv_E} {D k n : Nat} {h : mv_H} {Q : mv_Q} {x1 : Int32} (s : Nat) (ok : sp_ok (mv_I h 149)) (hs : s < 256) (e1 : x1 = nI s) (H : ∀ h', mx_fr mx_s3 h h' → mv_I h' 148 21 = nI (sp_stl (mv_I h 149) s).2.1 → mv_I h' 148 22 = nI (sp_stl (mv_I h 149) s).2.2.toNat → Q (some (.int (nI (sp_stl (mv_I h 149) s).1))) h') : mv_VE E (D + 4) k n 249 0 [some (.ref 148), some (.int x1), none, none] [] h Q := by
  subst e1
  have key : ∀ f s w b h', mx_fr mx_s3 h h' → s < 256 → s < f → mv_I h' 148 21 = nI w → mv_I h' 148 22 = nI b.toNat →
      (∀ h', mx_fr mx_s3 h h' → mv_I h' 148 21 = nI (sp_settle (mv_I h 149) f s w b).2.1 → mv_I h' 148 22 = nI (sp_settle (mv_I h 149) f s w b).2.2.toNat → Q (some (.int (nI (sp_settle (mv_I h 149) f s w b).1))) h') →
      mv_VE E (D + 4) k n 249 30 [some (.ref 148), none, some (.int (nI s)), some (.int (nI (sp_week (mv_I h 149) s)))] [] h' Q := by
    intro f
    induction f with
    | zero => intro s w b h' _ _ hf; omega
    | succ f ih =>
      intro s w b h' fr hs hf hw hb H
      have hle := sp_week_le (mv_I h 149) s
      unfold sp_settle at H
      apply sg249_30
      refine mx_eq (sp_week (mv_I h 149) s) s (fun q => ?_) (fun q => ?_) (by omega) (by omega)
      · rw [if_pos q] at H
        exact H h' fr hw hb
      · rw [if_neg q] at H
        refine ct220 (sp_week (mv_I h 149) s) ?_ (by omega) rfl (fun h2 fr2 => ⟨_, rfl, ?_⟩)
        · show sp_ok (mv_I h' 149)
          rw [fr.ok3]; exact ok
        have e2 : mv_I h2 149 = mv_I h 149 := fr2.ok.trans fr.ok3
        have g1 : mx_fr mx_s3 h h2 := fr.tr ((mx_fr.sI (S := mx_s3) (a := 148) (k := 21) rfl).tr (mx_s23 fr2))
        have e3 : sp_float (mv_I (mv_sI h' 148 21 (mv_I h' 148 21 + 1)) 149) (sp_week (mv_I h 149) s) = sp_float (mv_I h 149) (sp_week (mv_I h 149) s) := by
          show sp_float (mv_I h' 149) _ = _
          rw [fr.ok3]
        rw [e3, hb]
        have w2 : mv_I h2 148 21 = nI (w + 1) := by
          rw [fr2.I 148 (fun _ => rfl), mx_upI, if_pos ⟨rfl, rfl⟩, hw, nI_1]
        have go : ∀ b2, mx_fr mx_s3 h (mv_sI h2 148 22 (nI b2.toNat)) → b2 = (b || !sp_float (mv_I h 149) (sp_week (mv_I h 149) s)) → mv_VE E (D + 3) 0 0 229 0 [some (.ref 148), some (.int (nI (sp_week (mv_I h 149) s))), none, none] [] (mv_sI h2 148 22 (nI b2.toNat)) (fun v h3 => ∃ r4, v = some (.int r4) ∧ mv_VE E (D + 4) k n 249 30 [some (.ref 148), none, some (.int (nI (sp_week (mv_I h 149) s))), some (.int r4)] [] h3 Q) := by
          intro b2 f2 eb
          refine ct229 _ ?_ (by omega) rfl (fun h3 fr3 => ⟨_, rfl, ?_⟩)
          · show sp_ok (mv_I h2 149)
            rw [e2]; exact ok
          have e4 : mv_I (mv_sI h2 148 22 (nI b2.toNat)) 149 = mv_I h 149 := e2
          rw [e4]
          refine ih _ (w + 1) b2 h3 (f2.tr (mx_s23 fr3)) (by omega) (by omega) ?_ ?_ (by rw [eb]; exact H)
          · rw [fr3.I 148 (fun _ => rfl), mx_upI, if_neg (by omega), w2]
          · rw [fr3.I 148 (fun _ => rfl), mx_upI, if_pos ⟨rfl, rfl⟩]
        cases bf : sp_float (mv_I h 149) (sp_week (mv_I h 149) s) with
        | false =>
          rw [if_pos (by rfl)]
          have : nI b.toNat ||| (1 : Int32) = nI (true).toNat := by cases b <;> decide
          rw [this]
          refine mv_gdI (by decide) (go true (g1.tr (mx_fr.sI rfl)) (by rw [bf]; cases b <;> rfl))
        | true =>
          rw [if_neg (by decide)]
          have : nI b.toNat ||| (0 : Int32) = nI b.toNat := by cases b <;> decide
          rw [this]
          refine mv_gdI (mx_b01 b) (go b (g1.tr (mx_fr.sI rfl)) (by rw [bf]; cases b <;> rfl))
  apply sg249_0
  refine ct220 s ok hs rfl (fun h2 fr2 => ⟨_, rfl, ?_⟩)
  have e2 : mv_I h2 149 = mv_I h 149 := fr2.ok
  have g1 : mx_fr mx_s3 h h2 := (mx_fr.sI (S := mx_s3) (a := 148) (k := 21) rfl).tr (mx_s23 fr2)
  have w2 : mv_I h2 148 21 = nI 0 := by
    rw [fr2.I 148 (fun _ => rfl), mx_upI, if_pos ⟨rfl, rfl⟩]; rfl
  have go : ∀ b2, mx_fr mx_s3 h (mv_sI h2 148 22 (nI b2.toNat)) → b2 = (!sp_float (mv_I h 149) s) → mv_VE E (D + 3) 0 0 229 0 [some (.ref 148), some (.int (nI s)), none, none] [] (mv_sI h2 148 22 (nI b2.toNat)) (fun v h3 => ∃ r4, v = some (.int r4) ∧ mv_VE E (D + 4) k n 249 30 [some (.ref 148), none, some (.int (nI s)), some (.int r4)] [] h3 Q) := by
    intro b2 f2 eb
    refine ct229 _ ?_ (by omega) rfl (fun h3 fr3 => ⟨_, rfl, ?_⟩)
    · show sp_ok (mv_I h2 149)
      rw [e2]; exact ok
    have e4 : mv_I (mv_sI h2 148 22 (nI b2.toNat)) 149 = mv_I h 149 := e2
    rw [e4]
    refine key 256 s 0 b2 h3 (f2.tr (mx_s23 fr3)) hs hs ?_ ?_ (by rw [eb]; exact H)
    · rw [fr3.I 148 (fun _ => rfl), mx_upI, if_neg (by omega), w2]
    · rw [fr3.I 148 (fun _ => rfl), mx_upI, if_pos ⟨rfl, rfl⟩]
  have e3 : sp_float (mv_I (mv_sI h 148 21 0) 149) s = sp_float (mv_I h 149) s := rfl
  rw [e3]
  cases bf : sp_float (mv_I h 149) s with
  | false =>
    rw [if_pos (by rfl)]
    exact go true (g1.tr (mx_fr.sI rfl)) (by rw [bf]; rfl)
  | true =>
    rw [if_neg (by decide)]
    exact go false (g1.tr (mx_fr.sI rfl)) (by rw [bf]; rfl)
