/-! How the model reads lines, to the end. -/
theorem ct201e {E : mv_E} {D k n : Nat} {h : mv_H} {Q : mv_Q} {x : Int32} (t : mv_I h 148 11 ≠ 0) (H : Q none h) : mv_VE E (D + 11) k n 201 0 [some (.ref 148), some (.int x), none] [] h Q := by
  apply sg201_0
  rw [pf189E t, pf189E t]
  refine ct204e t ⟨rfl, ?_⟩
  rw [pf189E t, pf189E t, pf189E t]
  exact ct190e t ⟨rfl, ct204e t ⟨rfl, ct203e t ⟨rfl, H⟩⟩⟩
theorem ct200e {E : mv_E} {D k n : Nat} {h : mv_H} {Q : mv_Q} {x : Int32} (t : mv_I h 148 11 ≠ 0) (H : Q none h) : mv_VE E (D + 12) k n 200 0 [some (.ref 148), some (.int x)] [] h Q := by
  apply sg200_0
  refine ct201e t ⟨rfl, ?_⟩
  apply sg200_5
  refine ct188e t ⟨_, rfl, ?_⟩
  rw [if_pos rfl]; exact H
theorem ct199e {E : mv_E} {D k n : Nat} {h : mv_H} {Q : mv_Q} {x : Int32} (t : mv_I h 148 11 ≠ 0) (H : Q none h) : mv_VE E (D + 13) k n 199 0 [some (.ref 148), some (.int x)] [] h Q := by
  apply sg199_0
  refine ct200e t ⟨rfl, ?_⟩
  apply sg199_5
  refine ct188e t ⟨_, rfl, ?_⟩
  rw [if_pos rfl]; exact H
/-- the flags behind a holder -/
theorem ct195l {E : mv_E} {D k n : Nat} {h0 : mv_H} {Q : mv_Q} {B : Nat → Nat} {N i0 p : Nat} {sp : LR} (hp : p < 8) (H : mPo B N i0 sp h0 Q) : ∀ f i h F, tT B N + 1 - i ≤ f → i0 ≤ i → mx_fr S181 h0 h → mK B N i h → mF h F → sp = lbind (lflag B N p f i F) (fun i F => .inr (i, mx_upA F 1 (F 1 + 1))) → mv_VE E (D + 8) k n 195 87 [some (.ref 148), some (.int (nI p))] [] h Q := by
  intro f
  induction f with
  | zero => intro i h F hf _ _ t; exact absurd t.2.2 (by omega)
  | succ f ih =>
    intro i h F hf ii fr t m e
    apply sg195_87
    rw [if_pos t.2.1]
    refine ct196 (f := f) hp t m (fun i' F' h' e' l' f' t' m' => ⟨_, rfl, ?_⟩) (fun e' => ⟨_, rfl, ?_⟩) (fun g i' h' e' f' m' => ⟨_, rfl, ?_⟩)
    · rw [if_neg (by decide)]
      exact ih i' h' F' (by omega) (by omega) (fr.tr f') t' m' (by rw [e, e'])
    · rw [if_pos rfl, if_pos t.2.1, m 1 (by omega)]
      exact H.1 i _ _ (by rw [e, e']; rfl) ii (fr.tr frW) t.w m.w
    · rw [if_pos rfl, if_neg m'.ne]
      exact H.2 g i' h' (by rw [e, e']; rfl) (fr.tr f') m'
theorem ct195 {E : mv_E} {D k n : Nat} {h : mv_H} {Q : mv_Q} {B : Nat → Nat} {N i p : Nat} {F : Nat → Int32} (hk : tK B N i = 2) (hp : p ≤ 8) (e1 : F 1 = nI p) (t : mK B N i h) (m : mF h F) (H : mPo B N i (lhold B N i F) h Q) : mv_VE E (D + 8) k n 195 0 [some (.ref 148), none] [] h Q := by
  have er : ∀ h3, mv_I h3 148 11 ≠ 0 → Q none h3 → mv_VE E (D + 8) k n 195 87 [some (.ref 148), some (.int (nI p))] [] h3 Q := fun h3 t3 q3 => by
    apply sg195_87
    rw [if_neg t3, if_neg t3]; exact q3
  have v1 : mv_I h 152 1 = nI p := by rw [m 1 (by omega), e1]
  apply sg195_0
  rw [v1]
  refine mx_eq p 8 (fun y => ?_) (fun y => ?_) (by omega) (by omega)
  · refine ct190a 4 (by omega) rfl t (fun h1 f1 m1 => ⟨rfl, ?_⟩)
    rw [if_neg m1.ne]
    exact H.2 4 i h1 (by unfold lhold; rw [e1, y]; rfl) (frB f1) m1
  · rw [if_pos t.2.1]
    have un : lhold B N i F = lpass B N 3 (i + 1) (fun i => lnum B N 0 10 i (fun b i => lpass B N 4 i (fun i => lnum B N 0 10 i (fun w i => lbind (lflag B N p (tT B N + 1 - i) i (lhF F p b w)) (fun i F => .inr (i, mx_upA F 1 (F 1 + 1))))))) := by
      unfold lhold
      rw [e1, nI_clamp (by omega), if_neg (show ¬ nI p = 8 from fun c => y ((nI_eq (a := p) (b := 8) (by omega) (by omega)).mp c))]
    refine ct183k (D := D + 2) t (by omega) (fun h1 f1 t1 => ⟨rfl, ?_⟩)
    refine ct191 3 0 10 rfl (by omega) rfl rfl (by omega) (by omega) t1 (fun q3 q l1 l2 h2 f2 t2 => ⟨_, rfl, ?_⟩) (fun g i' h2 r f2 m2 s2 => ⟨_, rfl, ?_⟩)
    · rw [show (66 : Int32) = nI 66 from rfl, show (9 : Int32) + nI p = nI (9 + p) from nI_add 9 p, show (17 : Int32) = nI 17 from rfl, nI_add, nI_add, nI_clamp (by omega), nI_clamp (by omega), nI_clamp (by omega)]
      refine mv_gdI (mx_inT (66 + p) (by omega) (by omega)) ?_
      have M2 := ((m.a (frA f1)).a f2).w (k := 66 + p) (x := nI (tN B N (i + 1 + 1)))
      have T2 := t2.w (k := 66 + p) (x := nI (tN B N (i + 1 + 1)))
      have F2 := (frB ((frA f1).tr f2)).tr (frW (k := 66 + p) (x := nI (tN B N (i + 1 + 1))))
      refine ct191 4 0 10 rfl (by omega) rfl rfl (by omega) (by omega) T2 (fun q4 q' l1' l2' h3 f3 t3 => ⟨_, rfl, ?_⟩) (fun g i' h3 r f3 m3 s3 => ⟨_, rfl, ?_⟩)
      · refine mv_gdI (mx_inT (9 + p) (by omega) (by omega)) (mv_gdI (mx_inT (17 + p) (by omega) (by omega)) ?_)
        have M3 := (M2.a f3).w (k := 9 + p) (x := nI (tN B N (i + 1 + 2 + 1)))
        rw [M3 65 (by omega), upA_n (show (65 : Nat) ≠ 9 + p by omega), upA_n (show (65 : Nat) ≠ 66 + p by omega)]
        refine ct195l (h0 := h) (show p < 8 by omega) H (tT B N + 1 - (i + 1 + 2 + 2)) (i + 1 + 2 + 2) _ (lhF F p (tN B N (i + 1 + 1)) (tN B N (i + 1 + 2 + 1))) (Nat.le_refl _) (by omega) ((((F2.tr (frB f3)).tr frW).tr frW).tr frW) t3.w.w.w M3.w.w ?_
        rw [un]
        exact (lpass_t q3).trans ((lnum_t q ⟨l1, l2⟩).trans ((lpass_t q4).trans (lnum_t q' ⟨l1', l2'⟩)))
      · refine mv_gdI (mx_inT (9 + p) (by omega) (by omega)) (mv_gdI (mx_inT (17 + p) (by omega) (by omega)) (er _ m3.w.w.w.ne (H.2 g i' _ ?_ ((((F2.tr (frB f3)).tr frW).tr frW).tr frW) m3.w.w.w)))
        rw [un]
        exact (lpass_t q3).trans ((lnum_t q ⟨l1, l2⟩).trans (s3 _))
    · rw [show (66 : Int32) = nI 66 from rfl, show (9 : Int32) + nI p = nI (9 + p) from nI_add 9 p, show (17 : Int32) = nI 17 from rfl, nI_add, nI_add, nI_clamp (by omega), nI_clamp (by omega), nI_clamp (by omega)]
      refine mv_gdI (mx_inT (66 + p) (by omega) (by omega)) (ct191e m2.w.ne (fun r2 => ⟨_, rfl, mv_gdI (mx_inT (9 + p) (by omega) (by omega)) (mv_gdI (mx_inT (17 + p) (by omega) (by omega)) (er _ m2.w.w.w.w.ne (H.2 g i' _ ?_ (((((frB ((frA f1).tr f2)).tr frW).tr frW).tr frW).tr frW) m2.w.w.w.w)))⟩))
      rw [un]
      exact s2 _
theorem ct197 {E : mv_E} {D k n : Nat} {h : mv_H} {Q : mv_Q} {B : Nat → Nat} {N i p : Nat} {F : Nat → Int32} {x : Int32} (b : Nat) (hb : b = 25 ∨ b = 33) (ex : x = nI b) (hk : tK B N i ≠ 24 ∧ tK B N i ≠ 25) (hp : p ≤ 8) (e1 : F 1 = nI p) (t : mK B N i h) (m : mF h F) (H : mPo B N i (lpair B N b i F) h Q) : mv_VE E (D + 7) k n 197 0 [some (.ref 148), some (.int x), none, none] [] h Q := by
  subst ex
  have cp : (F 1).toNatClampNeg = p := by rw [e1, nI_clamp (by omega)]
  apply sg197_0
  refine ct183k (D := D + 1) t hk (fun h1 f1 t1 => ⟨rfl, ?_⟩)
  have M1 := m.a (frA f1)
  rw [M1 1 (by omega), e1]
  refine ct192 0 p rfl rfl (by omega) (by omega) t1 (fun q l1 l2 h2 f2 t2 => ⟨_, rfl, ?_⟩) (fun g h2 r f2 m2 s2 => ⟨_, rfl, ?_⟩)
  · have M2 := M1.a f2
    have F2 := frB ((frA f1).tr f2)
    have un : lpair B N b i F = if tK B N (i + 1 + 1) = 23 ∧ tN B N (i + 1 + 1) = tN B N (i + 1) then .inl (3, i + 1 + 1) else lnum B N 0 p (i + 1 + 1) (fun q j2 => .inr (j2, lpF F b (tN B N (i + 1)) q)) := by
      unfold lpair
      rw [cp]
      exact lnum_t q ⟨l1, l2⟩
    have go : ¬ (tK B N (i + 1 + 1) = 23 ∧ tN B N (i + 1 + 1) = tN B N (i + 1)) → mv_VE E (D + 6) 0 0 192 0 [some (.ref 148), some (.int 0), some (.int (nI p - 1)), none] [] h2 (fun v h7 => ∃ r8, v = some (.int r8) ∧ if mv_I h7 148 11 = 0 then (mv_gd (true && mv_in (nI b + nI (tN B N (i + 1))) 1088) (mv_gd (true && mv_in (nI b + nI (tN B N (i + 1))) 1088) (mv_gd (true && mv_in (nI b + r8) 1088) (mv_gd (true && mv_in (nI b + r8) 1088) (Q none (mv_sI (mv_sI h7 152 (nI b + nI (tN B N (i + 1))).toNatClampNeg ((mv_I h7 152 (nI b + nI (tN B N (i + 1))).toNatClampNeg) ||| (1 <<< (r8 &&& 31)))) 152 (nI b + r8).toNatClampNeg ((mv_I (mv_sI h7 152 (nI b + nI (tN B N (i + 1))).toNatClampNeg ((mv_I h7 152 (nI b + nI (tN B N (i + 1))).toNatClampNeg) ||| (1 <<< (r8 &&& 31)))) 152 (nI b + r8).toNatClampNeg) ||| (1 <<< ((nI (tN B N (i + 1))) &&& 31))))))))) else (Q none h7)) := fun z => by
      rw [if_neg z] at un
      refine ct192 0 p rfl rfl (by omega) (by omega) t2 (fun q' l1' l2' h3 f3 t3 => ⟨_, rfl, ?_⟩) (fun g h3 r f3 m3 s3 => ⟨_, rfl, ?_⟩)
      · have M3 := M2.a f3
        rw [if_pos t3.2.1, nI_add, nI_add, nI_clamp (by omega), nI_clamp (by omega), M3 _ (by omega)]
        have M4 := M3.w (k := b + tN B N (i + 1)) (x := F (b + tN B N (i + 1)) ||| (1 <<< (nI (tN B N (i + 1 + 1)) &&& 31)))
        rw [M4 _ (by omega)]
        refine mv_gdI (mx_inT (b + tN B N (i + 1)) (by omega) (by omega)) (mv_gdI (mx_inT (b + tN B N (i + 1)) (by omega) (by omega)) (mv_gdI (mx_inT (b + tN B N (i + 1 + 1)) (by omega) (by omega)) (mv_gdI (mx_inT (b + tN B N (i + 1 + 1)) (by omega) (by omega)) (H.1 (i + 1 + 1 + 1) _ _ ?_ (by omega) (((F2.tr (frB f3)).tr frW).tr frW) t3.w.w M4.w))))
        rw [un]
        exact lnum_t q' ⟨l1', l2'⟩
      · rw [if_neg m3.ne]
        exact H.2 g (i + 1 + 1) h3 (by rw [un]; exact s3 _) (F2.tr (frB f3)) m3
    rw [pf189T (x := 23) t2 23 (by omega) rfl]
    refine mx_cd (fun y => ?_) (fun y => ?_)
    · have y := of_decide_eq_true y
      rw [t2.1.2.2.2.2 y]
      have a1 := tN_lt y
      have a2 := tN_lt q
      refine mx_eq (tN B N (i + 1 + 1)) (tN B N (i + 1)) (fun w => ?_) (fun w => ?_) (by omega) (by omega)
      · refine ct190a 3 (by omega) rfl t2 (fun h3 f3 m3 => ⟨rfl, ct192e m3.ne (fun r => ⟨_, rfl, ?_⟩)⟩)
        rw [if_neg m3.ne]
        exact H.2 3 (i + 1 + 1) h3 (by rw [un, if_pos ⟨y, w⟩]) (F2.tr (frB f3)) m3
      · rw [M2 1 (by omega), e1]
        exact go (fun c => w c.2)
    · rw [M2 1 (by omega), e1]
      exact go (fun c => of_decide_eq_false y c.1)
  · rw [pf189E m2.ne]
    refine ct192e m2.ne (fun r2 => ⟨_, rfl, ?_⟩)
    rw [if_neg m2.ne]
    refine H.2 g (i + 1) h2 ?_ (frB ((frA f1).tr f2)) m2
    unfold lpair
    rw [cp]
    exact s2 _
theorem mx_frT {h h' : mv_H} (f : mx_fr S199 h h') : mx_fr S181 h h' := f.to (fun a k q => by
  unfold S181 at q
  rw [Bool.or_eq_false_iff, Bool.or_eq_false_iff] at q
  unfold S199
  have q1 := q.1.1
  unfold S190 at q1
  rw [q1, q.1.2]; rfl)
theorem ct198 {E : mv_E} {D k n : Nat} {h : mv_H} {Q : mv_Q} {B : Nat → Nat} {N i b l : Nat} {F : Nat → Int32} {x : Int32} (hN : N ≤ 900) (hl : l < 2) (ex : x = nI l) (hk : tK B N i = 11 + l) (hb : b ≤ i) (e1 : F 187 = nI b) (t : mK B N i h) (m : mF h F) (H : ∀ R i' h', ckl l R [] = some [true] → R.length + (i + 1 + 1) ≤ i' → llaw B N l i F = .inr (i', lstore l F R) → mx_fr S181 h h' → mK B N i' h' → mF h' (lstore l F R) → Q none h') (H0 : ∀ f i' h', llaw B N l i F = .inl (f, i') → mx_fr S181 h h' → mE B N f i' h' → Q none h') (Hp : ∀ i' h', llaw B N l i F = .inl (2, i') → tK B N i' ≠ 30 → mx_fr S181 h h' → mK B N i' h' → Q none h') : mv_VE E (D + 32) k n 198 0 [some (.ref 148), some (.int x), none] [] h Q := by
  subst ex
  have T9 := (tT_lt B N).1
  apply sg198_0
  refine ct183k (D := D + 26) t (by omega) (fun h1 f1 t1 => ⟨rfl, ?_⟩)
  have M1 := m.a (frA f1)
  have fr15 : ∀ g : mv_H, mx_fr S181 g (mv_sI g 148 15 (nI l)) := fun g => mx_fr.sI rfl
  refine ct188 (D := D + 25) 31 (by omega) (by omega) rfl t1 (fun y h2 f2 t2 => ⟨_, rfl, ?_⟩) (fun y => ⟨_, rfl, ?_⟩)
  · rw [if_neg (by decide)]
    have M2 := M1.a (frA f2)
    have F2 := frB ((frA f1).tr (frA f2))
    have b2 : mv_I h2 152 187 = nI b := by rw [M2 187 (by omega), e1]
    have T2 : mK B N (i + 1 + 1) (mv_sI h2 148 15 (nI l)) := ⟨t2.1.fr (S := fun a k => Nat.beq a 148 && Nat.beq k 15) (mx_fr.sI rfl) ⟨rfl, rfl, rfl, rfl, rfl⟩ (fun _ => rfl) (fun a k q => by rw [mv_bne (show a ≠ 148 by omega)]; rfl), by rw [mx_Isk (by omega)]; exact t2.2.1, t2.2.2⟩
    have un : llaw B N l i F = if (MO B N l 1 [] [] (i + 1 + 1)).1 = 0 then .inr ((MO B N l 1 [] [] (i + 1 + 1)).2.1, lstore l F (MO B N l 1 [] [] (i + 1 + 1)).2.2) else .inl ((MO B N l 1 [] [] (i + 1 + 1)).1, (MO B N l 1 [] [] (i + 1 + 1)).2.1) := by
      unfold llaw
      exact lpass_t y
    have s0 : mS B N l b F [] (i + 1 + 1) (mv_sI h2 148 15 (nI l)) := ⟨T2, mx_Iss, by rw [mx_InE (by omega)]; exact b2, fun j hj hj2 => by
      rw [mx_InE (by omega), if_neg (by show ¬ (188 + b ≤ j ∧ j < 188 + b + 0); omega)]
      exact M2 j hj, by show b + 0 ≤ i + 1 + 1; omega⟩
    refine ((lCall (b := b) (G := F) (E := E) hN hl 6 0 rfl).2.2 D) 0 0 _ _ [] [] (i + 1 + 1) [] s0 rfl (Nat.le_refl _) (by decide) (fun _ => ⟨by decide, rfl⟩) rfl (Nat.le_refl _) (fun h3 po => ⟨rfl, ?_⟩)
    rw [b2]
    obtain ⟨f3, ⟨i3, R3, s3, l3, n3, e3, c3, k3⟩ | ⟨g, i3, m3, e3⟩⟩ := po
    · have n3 : R3.length + (i + 1 + 1) ≤ 0 + i3 := n3
      have i3T := s3.1.2.2
      rw [if_pos s3.1.2.1, show (3 : Int32) = nI 3 from rfl, show (5 : Int32) = nI 5 from rfl, show (7 : Int32) = nI 7 from rfl, nI_add, nI_add, nI_add, nI_clamp (by omega), nI_clamp (by omega), nI_clamp (by omega), mx_Isk (show (187 : Nat) ≠ 5 + l by omega), mx_Isk (show (187 : Nat) ≠ 3 + l by omega), s3.2.2.1, nI_sub (show b ≤ b + R3.length by omega), show b + R3.length - b = R3.length by omega]
      refine mv_gdI (mx_inT (3 + l) (by omega) (by omega)) (mv_gdI (mx_inT (5 + l) (by omega) (by omega)) (mv_gdI (mx_inT (7 + l) (by omega) (by omega)) ?_))
      have eM : MO B N l 1 [] [] (i + 1 + 1) = if tK B N i3 = 30 then (0, i3, R3) else (2, i3, []) := by rw [e3]; exact mo_end i3T k3
      have eF : mF (mv_sI (mv_sI (mv_sI h3 152 (3 + l) 1) 152 (5 + l) (nI b)) 152 (7 + l) (nI R3.length)) (lstore l F R3) := by
        intro j hj
        unfold lstore
        rw [e1, nI_clamp (by omega), mx_upI, mx_upI, mx_upI]
        by_cases q3 : j = 3 + l
        · rw [if_neg (by omega), if_neg (by omega), if_pos ⟨rfl, q3⟩, if_pos q3]
        · by_cases q5 : j = 5 + l
          · rw [if_neg (by omega), if_pos ⟨rfl, q5⟩, if_neg q3, if_pos q5]
          · by_cases q7 : j = 7 + l
            · rw [if_pos ⟨rfl, q7⟩, if_neg q3, if_neg q5, if_pos q7]
            · rw [if_neg (fun c => q7 c.2), if_neg (fun c => q5 c.2), if_neg (fun c => q3 c.2), if_neg q3, if_neg q5, if_neg q7]
              by_cases q8 : j = 187
              · rw [if_pos q8, q8]; exact s3.2.2.1
              · rw [if_neg q8]; exact s3.2.2.2.1 j hj q8
      have Fr := ((((F2.tr (fr15 h2)).tr (mx_frT f3)).tr (frW (k := 3 + l) (x := 1))).tr (frW (k := 5 + l) (x := nI b))).tr (frW (k := 7 + l) (x := nI R3.length))
      by_cases z : tK B N i3 = 30
      · rw [if_pos z] at eM
        rw [eM] at un
        exact H R3 i3 _ c3 (by omega) un Fr s3.1.w.w.w eF
      · rw [if_neg z] at eM
        rw [eM] at un
        exact Hp i3 _ un z Fr s3.1.w.w.w
    · rw [if_neg m3.ne]
      have : (MO B N l 1 [] [] (i + 1 + 1)) = (g, i3, []) := e3
      refine H0 g i3 h3 ?_ ((F2.tr (fr15 h2)).tr (mx_frT f3)) m3
      rw [un, this, if_neg (by have := m3.2.2.2.1; show ¬ g = 0; omega)]
  · rw [if_pos rfl]
    refine ct190a 2 (by omega) rfl t1 (fun h2 f2 m2 => ⟨rfl, ?_⟩)
    have m2' : mE B N 2 (i + 1) (mv_sI h2 148 15 (nI l)) := ⟨m2.1.fr (S := fun a k => Nat.beq a 148 && Nat.beq k 15) (mx_fr.sI rfl) rfl (fun _ => rfl) (fun a k q => by rw [mv_bne (show a ≠ 148 by omega)]; rfl), by rw [mx_Isk (by omega)]; exact m2.2.1, by rw [mx_Isk (by omega)]; exact m2.2.2.1, m2.2.2.2⟩
    refine ct199e (D := D + 18) m2'.ne ⟨rfl, ?_⟩
    rw [if_neg m2'.ne]
    refine H0 2 (i + 1) _ ?_ ((frB ((frA f1).tr f2)).tr (fr15 h2)) m2'
    unfold llaw
    exact lpass_f y
/-- what a line gives -/
def mPl (B : Nat → Nat) (N i : Nat) (sp : LR) (h : mv_H) (Q : mv_Q) : Prop := (∀ i' F' h', sp = .inr (i', F') → i < i' → lok F' i' → mx_fr S181 h h' → mK B N i' h' → mF h' F' → Q none h') ∧ (∀ f i' h', sp = .inl (f, i') → mx_fr S181 h h' → mE B N f i' h' → Q none h') ∧ (∀ i' h', sp = .inl (2, i') → tK B N i' ≠ 30 → mx_fr S181 h h' → mK B N i' h' → Q none h')
theorem ct194 {E : mv_E} {D k n : Nat} {h : mv_H} {Q : mv_Q} {B : Nat → Nat} {N i : Nat} {F : Nat → Int32} (hN : N ≤ 900) (o : lok F i) (t : mK B N i h) (m : mF h F) (H : mPl B N i (lline B N i F) h Q) : mv_VE E (D + 33) k n 194 0 [some (.ref 148)] [] h Q := by
  have k41 := tK_41 B N i
  have T9 := (tT_lt B N).1
  obtain ⟨P, hP, e1, oP⟩ := id o
  obtain ⟨-, -, -, -, -, b, b1, b2, -⟩ := id oP
  apply sg194_0
  rw [if_pos t.2.1, pf189T (x := 2) t 2 (by omega) rfl, pf189T (x := 8) t 8 (by omega) rfl, pf189T (x := 9) t 9 (by omega) rfl]
  by_cases y2 : tK B N i = 2
  · rw [decide_eq_true y2]
    have un : lline B N i F = lhold B N i F := by unfold lline; rw [if_pos y2]
    rw [un] at H
    exact ct195 (D := D + 24) y2 hP e1 t m ⟨fun i' F' h' e l f1 t1 m1 => ⟨rfl, H.1 i' F' h' e (lok_hold e o).2 (lok_hold e o).1 f1 t1 m1⟩, fun f i' h' e f1 m1 => ⟨rfl, H.2.1 f i' h' e f1 m1⟩⟩
  · rw [decide_eq_false y2]
    by_cases y8 : tK B N i = 8
    · rw [decide_eq_true y8]
      have un : lline B N i F = lpair B N 25 i F := by unfold lline; rw [if_neg y2, if_pos y8]
      rw [un] at H
      exact ct197 (D := D + 25) 25 (Or.inl rfl) rfl (by omega) hP e1 t m ⟨fun i' F' h' e l f1 t1 m1 => ⟨rfl, H.1 i' F' h' e (lok_pair (Or.inl rfl) e o).2 (lok_pair (Or.inl rfl) e o).1 f1 t1 m1⟩, fun f i' h' e f1 m1 => ⟨rfl, H.2.1 f i' h' e f1 m1⟩⟩
    · rw [decide_eq_false y8]
      by_cases y9 : tK B N i = 9
      · rw [decide_eq_true y9]
        have un : lline B N i F = lpair B N 33 i F := by unfold lline; rw [if_neg y2, if_neg y8, if_pos y9]
        rw [un] at H
        exact ct197 (D := D + 25) 33 (Or.inr rfl) rfl (by omega) hP e1 t m ⟨fun i' F' h' e l f1 t1 m1 => ⟨rfl, H.1 i' F' h' e (lok_pair (Or.inr rfl) e o).2 (lok_pair (Or.inr rfl) e o).1 f1 t1 m1⟩, fun f i' h' e f1 m1 => ⟨rfl, H.2.1 f i' h' e f1 m1⟩⟩
      · rw [decide_eq_false y9]
        refine ct188 (D := D + 26) 10 (by omega) (by omega) rfl t (fun y h1 f1 t1 => ⟨_, rfl, ?_⟩) (fun y10 => ⟨_, rfl, ?_⟩)
        · rw [if_neg (by decide)]
          have un : lline B N i F = lstorm B N i F := by unfold lline; rw [if_neg y2, if_neg y8, if_neg y9, if_pos y]
          rw [un] at H
          have M1 := m.a (frA f1)
          refine ct192 (D := D + 26) 0 10 rfl rfl (by omega) (by omega) t1 (fun q l1 l2 h2 f2 t2 => ⟨_, rfl, ?_⟩) (fun g h2 r f2 m2 s2 => ⟨_, rfl, H.2.1 g (i + 1) _ (by unfold lstorm; exact s2 _) ((frB ((frA f1).tr f2)).tr frW) m2.w⟩)
          have e : lstorm B N i F = .inr (i + 1 + 1, mx_upA F 74 (nI (tN B N (i + 1)))) := by unfold lstorm; exact lnum_t q ⟨l1, l2⟩
          exact H.1 _ _ _ e (by omega) (lok_storm e o).1 ((frB ((frA f1).tr f2)).tr frW) t2.w (M1.a f2).w
        · rw [if_pos rfl, pf189T (x := 11) t 11 (by omega) rfl, pf189T (x := 12) t 12 (by omega) rfl, t.1.2.2.2.1]
          have law : ∀ l, l < 2 → tK B N i = 11 + l → lline B N i F = llaw B N l i F → mv_VE E (D + 32) 0 0 198 0 [some (.ref 148), some (.int (nI (tK B N i) - 11)), none] [] h (fun v h6 => v = none ∧ Q none h6) := by
            intro l hl hk un
            rw [un] at H
            refine ct198 hN hl (by rw [hk, show (11 : Int32) = nI 11 from rfl, nI_sub (by omega), show 11 + l - 11 = l by omega]) hk b1 b2 t m (fun R i' h' c1 c2 e f1 t1 m1 => ⟨rfl, H.1 i' _ h' e (by omega) (lok_law hl (by have := t1.2.2; omega) o c2 c1) f1 t1 m1⟩) (fun f i' h' e f1 m1 => ⟨rfl, H.2.1 f i' h' e f1 m1⟩) (fun i' h' e z f1 t1 => ⟨rfl, H.2.2 i' h' e z f1 t1⟩)
          by_cases y11 : tK B N i = 11
          · rw [decide_eq_true y11]
            exact law 0 (by omega) y11 (by unfold lline; rw [if_neg y2, if_neg y8, if_neg y9, if_neg y10, if_pos y11])
          · rw [decide_eq_false y11]
            by_cases y12 : tK B N i = 12
            · rw [decide_eq_true y12]
              exact law 1 (by omega) y12 (by unfold lline; rw [if_neg y2, if_neg y8, if_neg y9, if_neg y10, if_neg y11, if_pos y12])
            · rw [decide_eq_false y12]
              exact ct190a 2 (by omega) rfl t (fun h1 f1 m1 => ⟨rfl, H.2.1 2 i h1 (by unfold lline; rw [if_neg y2, if_neg y8, if_neg y9, if_neg y10, if_neg y11, if_neg y12]) (frB f1) m1⟩)
