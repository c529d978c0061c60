/-! Calls: sides, best by the class. -/
theorem se_at.u92 {E : mv_E} {h : mv_H} {A : Nat → Int32} {k : Nat} {x : Int32} (s : se_at E h A) : se_at E (mv_sI h 92 k x) A := by
  refine ⟨?_, ⟨?_, fun p hp => ?_⟩, fun t ht => ?_⟩
  · rw [mx_RsI]; exact s.1.fz (mx_fzat (b := 92)) (fun a k q => mv_bne (by unfold cr_reg at q; omega))
  · rw [mx_InE (by omega)]; exact s.2.1.1
  · rw [mx_InE (by omega)]; exact s.2.1.2 p hp
  · rw [mx_InE (by omega), mx_InE (by omega)]; exact s.2.2 t ht
theorem InvS.u92 {E : mv_E} {h : mv_H} {V : vw} {k : Nat} {x : Int32} (i : InvS E h V) : InvS E (mv_sI h 92 k x) V := ⟨i.1.fz (mx_fzat (b := 92)) (fun a k q => mv_bne (by omega)), i.2.u92⟩
theorem InvS.u95 {E : mv_E} {h : mv_H} {V : vw} {a k : Nat} {x : Int32} (ha : a = 95 ∨ a = 96) (i : InvS E h V) : InvS E (mv_sI h a k x) V := ⟨i.1.fz (mx_fzat (b := a)) (fun b k q => mv_bne (by omega)), i.2.fz (mx_fzat (b := a)) (fun b k q => mv_bne (by unfold cr_reg at q; omega))⟩
theorem fCl.sI {h0 h : mv_H} {a k : Nat} {x : Int32} (f : fCl h0 h) (ha : 50 ≤ a ∧ a < 148) : fCl h0 (mv_sI h a k x) := fun b j q => ⟨by rw [mx_InE (by omega)]; exact (f b j q).1, (f b j q).2⟩
def FT (h : mv_H) (A : Nat → Int32) (j : Nat) : Prop := ∀ s, s < j → sp_sub s (sp_hold A) → mv_I h 92 s = sp_fate A s
theorem cs63 {E : mv_E} {D k n : Nat} {h0 h : mv_H} {Q : mv_Q} {V : vw} {x : Int32} (i : InvS E h V) (f : fCl h0 h) (m : InvM V) (e : x = nI (sp_hold (vA V))) (H : ∀ h', InvS E h' V → fCl h0 h' → FT h' (vA V) 256 → Q none h') : mv_VE E (D + 4) k n 63 0 [some (.ref 87), some (.int x), none, none] [] h Q := by
  subst e
  have p2 := m.p2
  have hh := m.1.1.hold
  apply sg63_0
  refine mx_loop (P := fun j => ∀ h1, InvS E h1 V → fCl h0 h1 → FT h1 (vA V) j → mv_VE E (D + 4) k n 63 2 [some (.ref 87), some (.int (nI (sp_hold (vA V)))), some (.int (nI j)), none] [] h1 Q) (sp_hold (vA V) + 1) ?_ ?_ h i f (fun s hs => by omega)
  · intro h1 i1 f1 t1
    apply sg63_2
    refine mx_ltT (sp_hold (vA V)) (sp_hold (vA V) + 1) (by omega) (H h1 i1 f1 (fun s _ hs => t1 s (by have := sp_sub_le hs; omega) hs)) (by omega)
  · intro j hj ih h1 i1 f1 t1
    have i8 : (true && mv_in (nI j) 256) = true := mx_inT j (by omega) (by omega)
    apply sg63_2
    rw [nI_clamp (n := j) (by omega), nI_1]
    refine mx_ltF (sp_hold (vA V)) j (by omega) (mx_ltT j 256 (by omega) ?_ (by omega)) (by omega)
    refine mx_if (fun q => ?_) (fun q => ?_)
    · rw [mx_sub0 (by omega)] at q
      have hjP : j < 2 ^ sp_P (vA V) := sp_sub_lt q hh.2
      refine ct59 j i1.2 m.ok m.1.1.vb hjP rfl (fun h2 r2 s2 => ⟨_, rfl, ?_⟩)
      refine ct57 j s2 m.ok m.1.1.vb hjP rfl (fun h3 r3 s3 => ⟨_, rfl, ?_⟩)
      have i3 : InvS E h3 V := (i1.s5 r2 s2).s5 r3 s3
      have f3 : fCl h0 h3 := f1.tr (r2.fC5.tr r3.fC5)
      have e92 : mv_I h3 92 = mv_I h1 92 := (r3.I 92 (fun _ => rfl)).trans (r2.I 92 (fun _ => rfl))
      have fa := sp_fate_is (A := vA V) (s := j) (by omega)
      have fin : ∀ x, x = sp_fate (vA V) j → mv_VE E (D + 4) k n 63 2 [some (.ref 87), some (.int (nI (sp_hold (vA V)))), some (.int (nI (j + 1))), none] [] (mv_sI h3 92 j x) Q := by
        intro x hx
        refine ih _ i3.u92 (f3.sI (by omega)) (fun s hs hsub => ?_)
        rw [mx_upI, e92]
        by_cases c : s = j
        · rw [if_pos ⟨rfl, c⟩, c]; exact hx
        · rw [if_neg (fun d => c d.2)]; exact t1 s (by omega) hsub
      refine mx_ifB _ (fun z => ?_) (fun z => ?_)
      · rw [z, cond_false] at fa
        exact mv_gdI i8 (fin _ fa.symm)
      · rw [z, cond_true] at fa
        have wl := sp_week_le (vA V) j
        refine mx_eq (sp_week (vA V) j) j (fun w => ?_) (fun w => ?_) (by omega) (by omega)
        · rw [if_pos w] at fa
          exact mv_gdI i8 (fin _ fa.symm)
        · rw [if_neg w] at fa
          rw [nI_clamp (n := sp_week (vA V) j) (by omega), e92, t1 (sp_week (vA V) j) (by omega) (fun l hl => q l (sp_week_sub _ _ l hl))]
          exact mv_gdI (mx_inT (sp_week (vA V) j) (by omega) (by omega)) (mv_gdI i8 (fin _ fa.symm))
    · rw [mx_sub0 (by omega)] at q
      refine ih h1 i1 f1 (fun s hs hsub => ?_)
      rcases (by omega : s < j ∨ s = j) with c | c
      · exact t1 s c hsub
      · rw [c] at hsub; exact absurd hsub q
def tbc (on : Bool) : Nat := cond on 96 95
/-- what comes of it, by the class -/
theorem ct94 {E : mv_E} {D k n : Nat} {h : mv_H} {Q : mv_Q} {A : Nat → Int32} {x y : Int32} (S X : Nat) (on : Bool) (hX : X < 256) (hF : mv_I h 92 X = sp_fate A X) (hT : (sp_stl A X).2.2 = false → mv_I h (tbc (!on)) (sp_stl A X).1 = sp_W A S (sp_stl A X).1 (!on)) (e1 : x = nI X) (e2 : y = nI (!on).toNat) (H : Q (some (.int (sp_byF (sp_W A S) A X on))) h) : mv_VE E (D + 1) k n 94 0 [some (.ref 94), some (.int x), some (.int y), none] [] h Q := by
  subst e1; subst e2
  have yl : (sp_stl A X).1 < 256 := sp_sub_lt (P := 8) (sp_stl_sub hX) hX
  apply sg94_0
  apply sg64_0
  rw [mx_255 hX, nI_clamp (n := X) (by omega), hF]
  refine mv_gdI (mx_inT X hX (by omega)) ⟨_, rfl, ?_⟩
  unfold sp_fate
  unfold sp_byF at H
  cases z : (sp_stl A X).2.2 with
  | true =>
    rw [z, cond_true] at H
    rw [cond_true, if_pos (by decide), mx_on]
    cases on <;> exact H
  | false =>
    rw [z, cond_false] at H
    have hT := hT z
    rw [cond_false, if_neg (nI_pos (by omega)), mx_on, nI_clamp (n := (sp_stl A X).1) (by omega)]
    have iy : (true && mv_in (nI (sp_stl A X).1) 256) = true := mx_inT _ yl (by omega)
    cases on with
    | false =>
      have hT : mv_I h 96 (sp_stl A X).1 = _ := hT
      exact mv_gdI iy (by rw [hT]; exact H)
    | true =>
      have hT : mv_I h 95 (sp_stl A X).1 = _ := hT
      exact mv_gdI iy (by rw [hT]; exact H)
def TBL (h : mv_H) (A : Nat → Int32) (S j : Nat) : Prop := ∀ s, s < j → sp_sub s (sp_hold A) → ∀ on, mv_I h (tbc on) s = sp_W A S s on
theorem TBL.at {h : mv_H} {A : Nat → Int32} {S j X : Nat} (t : TBL h A S j) (on : Bool) (hX : X < j) (h256 : X < 256) (hs : sp_sub X (sp_hold A)) : mv_I h (tbc on) (sp_stl A X).1 = sp_W A S (sp_stl A X).1 on := by
  have sb := sp_stl_sub (A := A) h256
  exact t _ (by have := sp_sub_le sb; omega) (fun l hl => hs l (sb l hl)) on
theorem sp_wo_lt {H p : Nat} (hp : H.testBit p = true) : mx_wo H (2 ^ p) < H := by
  have h1 := sp_sub_le (mx_wo_sub H (2 ^ p))
  have h2 : mx_wo H (2 ^ p) ≠ H := fun c => by
    have e : (mx_wo H (2 ^ p)).testBit p = false := by rw [mx_wo_bit, Nat.testBit_two_pow_self, Bool.not_true, Bool.and_false]
    rw [c, hp] at e; cases e
  omega
theorem ct93 {E : mv_E} {D k n : Nat} {h : mv_H} {Q : mv_Q} {A : Nat → Int32} {x y : Int32} (S set own : Nat) (hs : sp_sub set (sp_hold A)) (h256 : set < 256) (ho : sp_sub own set) (F : FT h A 256) (T : TBL h A S set) (e1 : x = nI set) (e2 : y = nI own) (H : Q (some (.int (sp_fo (fun p => sp_byF (sp_W A S) A (mx_wo set (2 ^ p)) true) own true 1 8))) h) : mv_VE E (D + 2) k n 93 0 [some (.ref 94), some (.int x), some (.int y), none, none] [] h Q := by
  subst e1; subst e2
  have ol : own < 256 := sp_sub_lt (P := 8) ho h256
  apply sg93_0
  refine mx_loop (P := fun j => mv_VE E (D + 2) k n 93 5 [some (.ref 94), some (.int (nI set)), some (.int (nI own)), some (.int (sp_fo (fun p => sp_byF (sp_W A S) A (mx_wo set (2 ^ p)) true) own true 1 j)), some (.int (nI j))] [] h Q) 8 ?_ ?_
  · apply sg93_5
    exact mx_ltF 8 8 (Nat.le_refl _) H (by omega)
  · intro j hj ih
    rw [sp_fo_s] at ih
    apply sg93_5
    rw [nI_1]
    refine mx_ltT j 8 hj ?_ (by omega)
    refine mx_ifb (own.testBit j) (mx_bit0 (by omega) (by omega)) (fun b => ?_) (fun b => ?_)
    · rw [b, cond_false] at ih; exact ih
    · rw [b, cond_true] at ih
      have hx : mx_wo set (2 ^ j) < set := sp_wo_lt (ho j b)
      have hsx : sp_sub (mx_wo set (2 ^ j)) (sp_hold A) := fun l hl => hs l (mx_wo_sub _ _ l hl)
      rw [mx_1shl (by omega), mx_andn]
      exact ct94 S (mx_wo set (2 ^ j)) true (by omega) (F _ (by omega) hsx) (fun _ => T.at false hx (by omega) hsx) rfl rfl ⟨_, rfl, ih⟩
theorem ct95 {E : mv_E} {D k n : Nat} {h : mv_H} {Q : mv_Q} {A : Nat → Int32} {x y : Int32} (S set own : Nat) (hs : sp_sub set (sp_hold A)) (h256 : set < 256) (ho : sp_sub own set) (F : FT h A 256) (T : TBL h A S set) (e1 : x = nI set) (e2 : y = nI own) (H : Q (some (.int (sp_fo (fun p => sp_byF (sp_W A S) A (mx_wo set (2 ^ p)) false) own false (-1) 8))) h) : mv_VE E (D + 2) k n 95 0 [some (.ref 94), some (.int x), some (.int y), none, none] [] h Q := by
  subst e1; subst e2
  have ol : own < 256 := sp_sub_lt (P := 8) ho h256
  apply sg95_0
  refine mx_loop (P := fun j => mv_VE E (D + 2) k n 95 5 [some (.ref 94), some (.int (nI set)), some (.int (nI own)), some (.int (sp_fo (fun p => sp_byF (sp_W A S) A (mx_wo set (2 ^ p)) false) own false (-1) j)), some (.int (nI j))] [] h Q) 8 ?_ ?_
  · apply sg95_5
    exact mx_ltF 8 8 (Nat.le_refl _) H (by omega)
  · intro j hj ih
    rw [sp_fo_s] at ih
    apply sg95_5
    rw [nI_1]
    refine mx_ltT j 8 hj ?_ (by omega)
    refine mx_ifb (own.testBit j) (mx_bit0 (by omega) (by omega)) (fun b => ?_) (fun b => ?_)
    · rw [b, cond_false] at ih; exact ih
    · rw [b, cond_true] at ih
      have hx : mx_wo set (2 ^ j) < set := sp_wo_lt (ho j b)
      have hsx : sp_sub (mx_wo set (2 ^ j)) (sp_hold A) := fun l hl => hs l (mx_wo_sub _ _ l hl)
      rw [mx_1shl (by omega), mx_andn]
      exact ct94 S (mx_wo set (2 ^ j)) false (by omega) (F _ (by omega) hsx) (fun _ => T.at true hx (by omega) hsx) rfl rfl ⟨_, rfl, ih⟩
theorem FT.u {h : mv_H} {A : Nat → Int32} {a k j : Nat} {x : Int32} (t : FT h A j) (ha : a = 95 ∨ a = 96) : FT (mv_sI h a k x) A j := fun s hs hsub => by rw [mx_InE (by omega)]; exact t s hs hsub
theorem TBL.u {h : mv_H} {A : Nat → Int32} {S a k : Nat} {x : Int32} (t : TBL h A S k) : TBL (mv_sI h a k x) A S k := fun s hs hsub on => by rw [mx_upI, if_neg (by omega)]; exact t s hs hsub on
theorem ct92 {E : mv_E} {D k n : Nat} {h : mv_H} {Q : mv_Q} {A : Nat → Int32} {x y z : Int32} (S set : Nat) (p8 : sp_P A ≤ 8) (hh : sp_hold A < 2 ^ sp_P A) (hs : sp_sub set (sp_hold A)) (h0 : set ≠ 0) (F : FT h A 256) (T : TBL h A S set) (e1 : x = nI set) (e2 : y = nI (set &&& S)) (e3 : z = nI (mx_wo set S)) (H : ∀ v w, v = sp_W A S set false → w = sp_W A S set true → Q none (mv_sI (mv_sI h 95 set v) 96 set w) ∧ Q none (mv_sI (mv_sI h 96 set w) 95 set v)) : mv_VE E (D + 3) k n 92 0 [some (.ref 94), some (.int x), some (.int y), some (.int z)] [] h Q := by
  subst e1; subst e2; subst e3
  have p2 := mx_p2 p8
  have hP : set < 2 ^ sp_P A := sp_sub_lt hs hh
  have h256 : set < 256 := by omega
  have i8 : (true && mv_in (nI set) 256) = true := mx_inT set h256 (by omega)
  have o1 : sp_own S set false = set &&& S := rfl
  have o2 : sp_own S set true = mx_wo set S := rfl
  have al : set &&& S < 256 := Nat.lt_of_le_of_lt Nat.and_le_left h256
  have wl : mx_wo set S < 256 := mx_wo_lt (n := 8) h256
  have sY : sp_sub (sp_stl A set).1 set := sp_stl_sub h256
  have yle := sp_sub_le sY
  obtain ⟨H1, H2⟩ := H _ _ rfl rfl
  have c93 : mx_wo set S ≠ 0 → sp_fo (fun p => sp_byF (sp_W A S) A (mx_wo set (2 ^ p)) true) (mx_wo set S) true 1 8 = sp_W A S set true := fun c => by
    rw [sp_W_c p8 hP h0 (by rw [o2]; exact c), o2]; rfl
  have c95 : set &&& S ≠ 0 → sp_fo (fun p => sp_byF (sp_W A S) A (mx_wo set (2 ^ p)) false) (set &&& S) false (-1) 8 = sp_W A S set false := fun c => by
    rw [sp_W_c p8 hP h0 (by rw [o1]; exact c), o1]; rfl
  apply sg92_0
  rw [nI_clamp (n := set) (by omega)]
  refine mx_eq (set &&& S) 0 (fun q => ?_) (fun q => ?_) (by omega) (by omega)
  · have w0 : mx_wo set S ≠ 0 := fun c => h0 (by
      apply Nat.eq_of_testBit_eq
      intro j
      have a1 : (set &&& S).testBit j = false := by rw [q, Nat.zero_testBit]
      have a2 : (mx_wo set S).testBit j = false := by rw [c, Nat.zero_testBit]
      rw [Nat.testBit_and] at a1
      rw [mx_wo_bit] at a2
      rw [Nat.zero_testBit]
      cases z : set.testBit j with
      | false => rfl
      | true =>
        rw [z] at a1 a2
        cases r : S.testBit j <;> rw [r] at a1 a2
        · cases a2
        · cases a1)
    refine ct93 S set (mx_wo set S) hs h256 (mx_wo_sub _ _) F T rfl rfl ⟨_, rfl, mv_gdI i8 ?_⟩
    rw [c93 w0]
    refine ct94 (A := A) S set false h256 ((F.u (Or.inr rfl)) set h256 hs) (fun _ => ?_) rfl rfl ⟨_, rfl, mv_gdI i8 ?_⟩
    · show mv_I (mv_sI h 96 set (sp_W A S set true)) 96 (sp_stl A set).1 = sp_W A S (sp_stl A set).1 true
      rw [mx_upI]
      by_cases c : (sp_stl A set).1 = set
      · rw [if_pos ⟨rfl, c⟩, c]
      · rw [if_neg (fun d => c d.2)]
        exact T _ (by omega) (fun l hl => hs l (sY l hl)) true
    · rw [← sp_W_no h256 h0 (o1.trans q)]
      exact H2
  · refine ct95 S set (set &&& S) hs h256 (fun l hl => by rw [Nat.testBit_and, Bool.and_eq_true] at hl; exact hl.1) F T rfl rfl ⟨_, rfl, mv_gdI i8 ?_⟩
    rw [c95 q]
    refine mx_eq (mx_wo set S) 0 (fun w => ?_) (fun w => ?_) (by omega) (by omega)
    · refine ct94 (A := A) S set true h256 ((F.u (Or.inl rfl)) set h256 hs) (fun _ => ?_) rfl rfl ⟨_, rfl, mv_gdI i8 ?_⟩
      · show mv_I (mv_sI h 95 set (sp_W A S set false)) 95 (sp_stl A set).1 = sp_W A S (sp_stl A set).1 false
        rw [mx_upI]
        by_cases c : (sp_stl A set).1 = set
        · rw [if_pos ⟨rfl, c⟩, c]
        · rw [if_neg (fun d => c d.2)]
          exact T _ (by omega) (fun l hl => hs l (sY l hl)) false
      · rw [← sp_W_no h256 h0 (o2.trans w)]
        exact H1
    · refine ct93 S set (mx_wo set S) hs h256 (mx_wo_sub _ _) (F.u (Or.inl rfl)) T.u rfl rfl ⟨_, rfl, mv_gdI i8 ?_⟩
      rw [c93 w]
      exact H1
theorem cs91 {E : mv_E} {D k n : Nat} {h0 h : mv_H} {Q : mv_Q} {V : vw} {x y : Int32} (S : Nat) (i : InvS E h V) (f : fCl h0 h) (m : InvM V) (F : FT h (vA V) 256) (e : x = nI (sp_hold (vA V))) (e2 : y = nI S) (H : ∀ h', InvS E h' V → fCl h0 h' → FT h' (vA V) 256 → TBL h' (vA V) S 256 → Q none h') : mv_VE E (D + 4) k n 91 0 [some (.ref 94), some (.int x), some (.int y), none] [] h Q := by
  subst e; subst e2
  have p2 := m.p2
  have hh := m.1.1.hold
  apply sg91_0
  have i0 : InvS E (mv_sI (mv_sI h 95 0 0) 96 0 0) V := (i.u95 (Or.inl rfl)).u95 (Or.inr rfl)
  have f0 : fCl h0 (mv_sI (mv_sI h 95 0 0) 96 0 0) := (f.sI (by omega)).sI (by omega)
  have F0 : FT (mv_sI (mv_sI h 95 0 0) 96 0 0) (vA V) 256 := (F.u (Or.inl rfl)).u (Or.inr rfl)
  have T0 : TBL (mv_sI (mv_sI h 95 0 0) 96 0 0) (vA V) S 1 := fun s hs hsub on => by
    rw [show s = 0 by omega, sp_W0]
    cases on with
    | false => show mv_I (mv_sI (mv_sI h 95 0 0) 96 0 0) 95 0 = 0; rw [mx_InE (by omega), mx_Iss]
    | true => show mv_I (mv_sI (mv_sI h 95 0 0) 96 0 0) 96 0 = 0; rw [mx_Iss]
  generalize mv_sI (mv_sI h 95 0 0) 96 0 0 = hh0 at i0 f0 F0 T0
  refine mx_loopI (P := fun j => ∀ h1, InvS E h1 V → fCl h0 h1 → FT h1 (vA V) 256 → TBL h1 (vA V) S j → mv_VE E (D + 4) k n 91 16 [some (.ref 94), some (.int (nI (sp_hold (vA V)))), some (.int (nI S)), some (.int (nI j))] [] h1 Q) 1 (sp_hold (vA V) + 1) (by omega) ?_ ?_ hh0 i0 f0 F0 T0
  · intro h1 i1 f1 F1 T1
    apply sg91_16
    exact mx_ltT (sp_hold (vA V)) (sp_hold (vA V) + 1) (by omega) (H h1 i1 f1 F1 (fun s _ hs on => T1 s (by have := sp_sub_le hs; omega) hs on)) (by omega)
  · intro j hj0 hj ih h1 i1 f1 F1 T1
    apply sg91_16
    rw [nI_1, mx_and, mx_andn]
    refine mx_ltF (sp_hold (vA V)) j (by omega) (mx_ltT j 256 (by omega) ?_ (by omega)) (by omega)
    rw [← mx_andn]
    refine mx_if (fun q => ?_) (fun q => ?_)
    · rw [mx_sub0 (by omega)] at q
      refine ct92 S j m.p8 hh.2 q (by omega) F1 T1 rfl rfl (by rw [mx_andn]) (fun v w hv hw => ⟨⟨rfl, ?_⟩, ⟨rfl, ?_⟩⟩)
      · refine ih _ ((i1.u95 (Or.inl rfl)).u95 (Or.inr rfl)) ((f1.sI (by omega)).sI (by omega)) ((F1.u (Or.inl rfl)).u (Or.inr rfl)) (fun s hs hsub on => ?_)
        by_cases c : s = j
        · rw [c]
          cases on with
          | false => show mv_I (mv_sI (mv_sI h1 95 j v) 96 j w) 95 j = _; rw [mx_InE (by omega), mx_Iss, hv]
          | true => show mv_I (mv_sI (mv_sI h1 95 j v) 96 j w) 96 j = _; rw [mx_Iss, hw]
        · rw [mx_upI, if_neg (fun d => c d.2), mx_upI, if_neg (fun d => c d.2)]; exact T1 s (by omega) hsub on
      · refine ih _ ((i1.u95 (Or.inr rfl)).u95 (Or.inl rfl)) ((f1.sI (by omega)).sI (by omega)) ((F1.u (Or.inr rfl)).u (Or.inl rfl)) (fun s hs hsub on => ?_)
        by_cases c : s = j
        · rw [c]
          cases on with
          | false => show mv_I (mv_sI (mv_sI h1 96 j w) 95 j v) 95 j = _; rw [mx_Iss, hv]
          | true => show mv_I (mv_sI (mv_sI h1 96 j w) 95 j v) 96 j = _; rw [mx_InE (by omega), mx_Iss, hw]
        · rw [mx_upI, if_neg (fun d => c d.2), mx_upI, if_neg (fun d => c d.2)]; exact T1 s (by omega) hsub on
    · rw [mx_sub0 (by omega)] at q
      refine ih h1 i1 f1 F1 (fun s hs hsub on => ?_)
      rcases (by omega : s < j ∨ s = j) with c | c
      · exact T1 s c hsub on
      · rw [c] at hsub; exact absurd hsub q
theorem cc164 {E : mv_E} {D k n : Nat} {h : mv_H} {Q : mv_Q} {V : vw} {x : Int32} (i : InvC E h V) (m : InvM V) (H : ∀ h', InvC E h' V → (sp_no5 (vA V) x = 0 → InvS E h' V) → fCl h h' → Q (some (.int (sp_no5 (vA V) x))) h') : mv_VE E (D + 5) k n 164 0 [some (.ref 50), some (.int x)] [] h Q := by
  have hh := m.1.1.hold
  apply sg164_0
  unfold sp_no5 at H
  refine cc107 i.1 m ⟨_, rfl, mx_ifB _ (fun z => ?_) (fun z => ?_)⟩
  · rw [z, cond_false] at H; exact H h i (fun c => absurd c (by decide)) fCl.rf
  · rw [z, cond_true] at H
    refine cc108 (sp_hold (vA V)) i m hh.2 (i.1.1.2.1.1.trans hh.1) (fun h1 i1 f1 => ⟨_, rfl, ?_⟩)
    have H := H h1 (i1.C m) (fun _ => i1) f1
    cases w : sp_float (vA V) (sp_hold (vA V)) with
    | false => rw [w] at H; rw [if_neg (by decide)]; exact H
    | true => rw [w] at H; rw [if_pos (by rfl)]; exact H
theorem cc163 {E : mv_E} {D k n : Nat} {h : mv_H} {Q : mv_Q} {V : vw} {x : Int32} (i : InvC E h V) (m : InvM V) (H : ∀ h', InvC E h' V → fCl h h' → Q (some (.int (v_sides V x))) h') : mv_VE E (D + 6) k n 163 0 [some (.ref 50), some (.int x), none] [] h Q := by
  have p2 := m.p2
  have hh := m.1.1.hold
  apply sg163_0
  unfold v_sides at H
  refine cc164 i m (fun h1 i1 s1 f1 => ⟨_, rfl, mx_if (fun q => ?_) (fun q => ?_)⟩)
  · rw [if_pos q] at H
    have s2 := s1 q
    obtain ⟨S, hS, rfl⟩ := sp_no50 m.ok q
    rw [nI_clamp (by omega)] at H
    refine cs63 s2 f1 m (s2.hold m) (fun h2 i2 f2 F2 => ⟨rfl, ?_⟩)
    refine cs91 S i2 f2 m F2 (i2.hold m) rfl (fun h3 i3 f3 F3 T3' => ⟨rfl, ?_⟩)
    apply sg96_0
    rw [i3.hold m, mx_255 (by omega), nI_clamp (by omega)]
    refine mv_gdI (mx_inT (sp_hold (vA V)) (by omega) (by omega)) ⟨_, rfl, ?_⟩
    have e : mv_I h3 95 (sp_hold (vA V)) = _ := T3' (sp_hold (vA V)) (by omega) (fun _ q => q) false
    rw [e]
    exact H h3 (i3.C m) f3
  · rw [if_neg q] at H; exact H h1 i1 f1
theorem cc165 {E : mv_E} {D k n : Nat} {h : mv_H} {Q : mv_Q} {V : vw} {x : Int32} (i : InvC E h V) (m : InvM V) (H : ∀ h', InvC E h' V → fCl h h' → Q (some (.int (v_best V x))) h') : mv_VE E (D + 6) k n 165 0 [some (.ref 50), some (.int x), none] [] h Q := by
  have p2 := m.p2
  have hh := m.1.1.hold
  apply sg165_0
  unfold v_best at H
  refine cc164 i m (fun h1 i1 s1 f1 => ⟨_, rfl, mx_if (fun q => ?_) (fun q => ?_)⟩)
  · rw [if_pos q] at H
    have s2 := s1 q
    obtain ⟨S, hS, rfl⟩ := sp_no50 m.ok q
    rw [nI_clamp (by omega)] at H
    refine cs63 s2 f1 m (s2.hold m) (fun h2 i2 f2 F2 => ⟨rfl, ?_⟩)
    refine cs91 S i2 f2 m F2 (i2.hold m) rfl (fun h3 i3 f3 F3 T3' => ⟨rfl, ?_⟩)
    have H := H h3 (i3.C m) f3
    rw [i3.hold m]
    apply sg97_0
    have al : sp_hold (vA V) &&& S < 256 := Nat.lt_of_le_of_lt Nat.and_le_left (by omega)
    have e95 : mv_I h3 95 (sp_hold (vA V)) = sp_W (vA V) S (sp_hold (vA V)) false := T3' (sp_hold (vA V)) (by omega) (fun _ q => q) false
    have key : ∀ g j, j + g = 8 → Q (some (.int (mx_find (sp_bf (vA V) S) g j))) h3 → mv_VE E (D + 5) 0 0 97 2 [some (.ref 94), some (.int (nI (sp_hold (vA V)))), some (.int (nI S)), some (.int (nI j)), none] [] h3 (fun v h5 => ∃ r6, v = some (.int r6) ∧ Q (some (.int r6)) h5) := by
      intro g
      induction g with
      | zero =>
        intro j hj K
        rw [show D + 5 = D + 3 + 2 by omega]
        apply sg97_2
        exact mx_ltF j 8 (by omega) ⟨_, rfl, K⟩ (by omega)
      | succ g ih =>
        intro j hj K
        unfold mx_find at K
        rw [show D + 5 = D + 3 + 2 by omega]
        apply sg97_2
        rw [mx_and, mx_1shl (by omega), mx_andn, nI_1]
        refine mx_ltT j 8 (by omega) ?_ (by omega)
        refine mx_ifb ((sp_hold (vA V) &&& S).testBit j) (mx_andb al (by omega)) (fun b => ?_) (fun b => ?_)
        · have e : ¬ sp_bf (vA V) S j = true := by unfold sp_bf; rw [b, Bool.false_and]; decide
          rw [if_neg e] at K
          exact ih (j + 1) (by omega) K
        · have hb : (sp_hold (vA V)).testBit j = true := by
            rw [Nat.testBit_and, Bool.and_eq_true] at b; exact b.1
          have hx := sp_wo_lt hb
          refine ct94 (A := vA V) S (mx_wo (sp_hold (vA V)) (2 ^ j)) false (by omega) (F3 _ (by omega) (mx_wo_sub _ _)) (fun _ => T3'.at true (by omega) (by omega) (mx_wo_sub _ _)) rfl rfl ⟨_, rfl, ?_⟩
          apply sg96_0
          rw [mx_255 (by omega), nI_clamp (n := sp_hold (vA V)) (by omega), e95]
          refine mv_gdI (mx_inT (sp_hold (vA V)) (by omega) (by omega)) ⟨_, rfl, mx_if (fun w => ?_) (fun w => ?_)⟩
          · have e : sp_bf (vA V) S j = true := by unfold sp_bf; rw [b, decide_eq_true w]; rfl
            rw [if_pos e] at K; exact ⟨_, rfl, K⟩
          · have e : ¬ sp_bf (vA V) S j = true := by unfold sp_bf; rw [b, decide_eq_false w]; decide
            rw [if_neg e] at K; exact ih (j + 1) (by omega) K
    exact key 8 0 (by omega) H
  · rw [if_neg q] at H; exact H h1 i1 f1
