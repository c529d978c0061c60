/-! Settling: both ways are one. Calls: settles, when, sinks, steady. -/
theorem fM.A {V : vw} {h h' : mv_H} (f : fM V h h') : mv_I h' 149 = vA V := by rw [← f.2]; rfl
theorem fM.s3 {V : vw} {h h' h'' : mv_H} (a : fM V h h') (b : mx_fr mx_s3 h' h'') : fM V h h'' := by
  refine ⟨a.1.tr (b.z.to (fun x k q => ?_)), ?_⟩
  · unfold mx_s3
    rw [mv_bne (fun c => by rw [c] at q; cases q), mv_bne (fun c => by rw [c] at q; cases q), mv_bne (a := 148) (fun c => by rw [c] at q; cases q)]
    rfl
  · rw [← a.2]
    unfold vw_of
    rw [b.I 149 (fun _ => rfl), b.I 150 (fun _ => rfl), b.I 151 (fun _ => rfl), b.2.2.1 148 5 rfl, b.2.2.1 148 13 rfl, b.2.2.1 148 14 rfl, b.I 162 (fun _ => rfl), b.I 163 (fun _ => rfl), b.2.2.2.1]
theorem InvM.ok {V : vw} (m : InvM V) : sp_ok (vA V) := m.1.1.1
theorem InvM.p8 {V : vw} (m : InvM V) : sp_P (vA V) ≤ 8 := m.1.1.1.2.1
theorem InvM.p2 {V : vw} (m : InvM V) : 2 ^ sp_P (vA V) ≤ 256 := mx_p2 m.p8
theorem cw220 {E : mv_E} {D k n : Nat} {h0 h : mv_H} {Q : mv_Q} {V : vw} {x : Int32} (s : Nat) (f : fM V h0 h) (m : InvM V) (hs : s < 256) (e : x = nI s) (H : ∀ h', fM V h0 h' → Q (some (.int (nI (sp_float (vA V) s).toNat))) h') : mv_VE E (D + 3) k n 220 0 [some (.ref 148), some (.int x), none, none] [] h Q :=
  ct220 s (by rw [f.A]; exact m.ok) hs e (fun h' g => by have := H h' (f.s2 g); rw [f.A]; exact this)
theorem cw229 {E : mv_E} {D k n : Nat} {h0 h : mv_H} {Q : mv_Q} {V : vw} {x : Int32} (s : Nat) (f : fM V h0 h) (m : InvM V) (hs : s < 256) (e : x = nI s) (H : ∀ h', fM V h0 h' → Q (some (.int (nI (sp_week (vA V) s)))) h') : mv_VE E (D + 3) k n 229 0 [some (.ref 148), some (.int x), none, none] [] h Q :=
  ct229 s (by rw [f.A]; exact m.ok) hs e (fun h' g => by have := H h' (f.s2 g); rw [f.A]; exact this)
theorem cw249 {E : mv_E} {D k n : Nat} {h0 h : mv_H} {Q : mv_Q} {V : vw} {x : Int32} (s : Nat) (f : fM V h0 h) (m : InvM V) (hs : s < 256) (e : x = nI s) (H : ∀ h', fM V h0 h' → mv_I h' 148 21 = nI (sp_stl (vA V) s).2.1 → mv_I h' 148 22 = nI (sp_stl (vA V) s).2.2.toNat → Q (some (.int (nI (sp_stl (vA V) s).1))) h') : mv_VE E (D + 4) k n 249 0 [some (.ref 148), some (.int x), none, none] [] h Q :=
  ct249 s (by rw [f.A]; exact m.ok) hs e (fun h' g a b => by rw [f.A] at a b ⊢; exact H h' (f.s3 g) a b)
theorem cw219 {h0 h : mv_H} {V : vw} (f : fM V h0 h) (m : InvM V) : pf219 h = nI (2 ^ sp_P (vA V) - 1) := mx_219 (by rw [f.A]; exact m.ok.1) m.p8
theorem cs57 {E : mv_E} {D k n : Nat} {h0 h : mv_H} {Q : mv_Q} {V : vw} {x : Int32} (s : Nat) (i : InvS E h V) (f : fCl h0 h) (m : InvM V) (hs : s < 2 ^ sp_P (vA V)) (e : x = nI s) (H : ∀ h', InvS E h' V → fCl h0 h' → Q (some (.int (nI (sp_float (vA V) s).toNat))) h') : mv_VE E (D + 3) k n 57 0 [some (.ref 87), some (.int x), none] [] h Q :=
  ct57 s i.2 m.ok m.1.1.vb hs e (fun h' g t => H h' (i.s5 g t) (f.tr g.fC5))
theorem cs59 {E : mv_E} {D k n : Nat} {h0 h : mv_H} {Q : mv_Q} {V : vw} {x : Int32} (s : Nat) (i : InvS E h V) (f : fCl h0 h) (m : InvM V) (hs : s < 2 ^ sp_P (vA V)) (e : x = nI s) (H : ∀ h', InvS E h' V → fCl h0 h' → Q (some (.int (nI (sp_week (vA V) s)))) h') : mv_VE E (D + 3) k n 59 0 [some (.ref 87), some (.int x), none, none, none] [] h Q :=
  ct59 s i.2 m.ok m.1.1.vb hs e (fun h' g t => H h' (i.s5 g t) (f.tr g.fC5))
/-- so many weeks -/
def sp_it (A : Nat → Int32) (s : Nat) : Nat → Nat := mx_fold (fun _ a => sp_week A a) s
theorem sp_it_s (A : Nat → Int32) (s i : Nat) : sp_it A s (i + 1) = sp_week A (sp_it A s i) := rfl
theorem sp_it_f (A : Nat → Int32) (s : Nat) : ∀ i, sp_it A (sp_week A s) i = sp_it A s (i + 1)
  | 0 => rfl
  | i + 1 => by rw [sp_it_s, sp_it_f A s i, ← sp_it_s]
theorem sp_it_sub (A : Nat → Int32) (s : Nat) : ∀ i, sp_sub (sp_it A s i) s
  | 0 => fun _ q => q
  | i + 1 => fun j hj => sp_it_sub A s i j (sp_week_sub A _ j (by rw [← sp_it_s]; exact hj))
theorem sp_it_lt {A : Nat → Int32} {s P : Nat} (hs : s < 2 ^ P) (i : Nat) : sp_it A s i < 2 ^ P := sp_sub_lt (sp_it_sub A s i) hs
theorem sp_it_fix {A : Nat → Int32} {s n : Nat} (h : sp_week A (sp_it A s n) = sp_it A s n) : ∀ i, n ≤ i → sp_it A s i = sp_it A s n
  | 0, hi => by rw [show n = 0 by omega]
  | i + 1, hi => by
    rcases (by omega : n = i + 1 ∨ n ≤ i) with q | q
    · rw [q]
    · rw [sp_it_s, sp_it_fix h i q, h]
theorem sp_settle_is (A : Nat → Int32) : ∀ f s w b, s < 256 → sp_bits s < f → ∃ n, n ≤ sp_bits s ∧ (sp_settle A f s w b).1 = sp_it A s n ∧ (sp_settle A f s w b).2.1 = w + n ∧ ((sp_settle A f s w b).2.2 = true ↔ b = true ∨ ∃ i, 1 ≤ i ∧ i ≤ n ∧ sp_float A (sp_it A s i) = false) ∧ sp_week A (sp_it A s n) = sp_it A s n ∧ ∀ i, i < n → sp_week A (sp_it A s i) ≠ sp_it A s i := by
  intro f
  induction f with
  | zero => intro s w b _ hf; omega
  | succ f ih =>
    intro s w b hs hf
    unfold sp_settle
    by_cases q : sp_week A s = s
    · rw [if_pos q]
      refine ⟨0, by omega, rfl, rfl, ⟨fun z => Or.inl z, fun z => ?_⟩, q, fun i hi => by omega⟩
      rcases z with z | ⟨i, h1, h2, -⟩
      · exact z
      · omega
    · rw [if_neg q]
      have hl := sp_week_le A s
      have hb := sp_bits_lt (sp_week_sub A s) q (by omega) hs
      obtain ⟨n, a1, a2, a3, a4, a5, a6⟩ := ih (sp_week A s) (w + 1) (b || !sp_float A (sp_week A s)) (by omega) (by omega)
      refine ⟨n + 1, by omega, ?_, ?_, ?_, ?_, ?_⟩
      · rw [a2, sp_it_f]
      · rw [a3]; omega
      · rw [a4]
        constructor
        · rintro (z | ⟨i, h1, h2, h3⟩)
          · rw [Bool.or_eq_true, Bool.not_eq_true'] at z
            rcases z with z | z
            · exact Or.inl z
            · exact Or.inr ⟨1, by omega, by omega, z⟩
          · exact Or.inr ⟨i + 1, by omega, by omega, by rw [← sp_it_f]; exact h3⟩
        · rintro (z | ⟨i, h1, h2, h3⟩)
          · exact Or.inl (by rw [z]; rfl)
          · rcases (by omega : i = 1 ∨ 2 ≤ i) with c | c
            · subst c
              exact Or.inl (by rw [Bool.or_eq_true, Bool.not_eq_true']; exact Or.inr h3)
            · refine Or.inr ⟨i - 1, by omega, by omega, ?_⟩
              rw [sp_it_f, show i - 1 + 1 = i by omega]; exact h3
      · rw [sp_it_f] at a5; exact a5
      · intro i hi
        rcases (by omega : i = 0 ∨ 1 ≤ i) with c | c
        · subst c; exact q
        · have := a6 (i - 1) (by omega)
          rw [sp_it_f, show i - 1 + 1 = i by omega] at this
          exact this
theorem sp_stl_is {A : Nat → Int32} {s : Nat} (hs : s < 256) : ∃ n, n ≤ 8 ∧ (sp_stl A s).1 = sp_it A s n ∧ (sp_stl A s).2.1 = n ∧ ((sp_stl A s).2.2 = true ↔ ∃ i, i ≤ n ∧ sp_float A (sp_it A s i) = false) ∧ sp_week A (sp_it A s n) = sp_it A s n ∧ ∀ i, i < n → sp_week A (sp_it A s i) ≠ sp_it A s i := by
  have hb := sp_bits_le s
  obtain ⟨n, a1, a2, a3, a4, a5, a6⟩ := sp_settle_is A 256 s 0 (!sp_float A s) hs (by omega)
  refine ⟨n, by omega, a2, by rw [← Nat.zero_add n]; exact a3, ?_, a5, a6⟩
  refine a4.trans ⟨?_, ?_⟩
  · rintro (z | ⟨i, h1, h2, h3⟩)
    · exact ⟨0, by omega, by rw [Bool.not_eq_true'] at z; exact z⟩
    · exact ⟨i, h2, h3⟩
  · rintro ⟨i, h1, h2⟩
    rcases (by omega : i = 0 ∨ 1 ≤ i) with c | c
    · subst c; exact Or.inl (by rw [Bool.not_eq_true']; exact h2)
    · exact Or.inr ⟨i, c, h1, h2⟩
theorem sp_stl8 {A : Nat → Int32} {s : Nat} (hs : s < 256) : (sp_stl A s).1 = sp_it A s 8 := by
  obtain ⟨n, a1, a2, -, -, a5, -⟩ := sp_stl_is (A := A) hs
  rw [a2, sp_it_fix a5 8 a1]
theorem sp_stl_sunk {A : Nat → Int32} {s : Nat} (hs : s < 256) : (sp_stl A s).2.2 = true ↔ ∃ i, i ≤ 8 ∧ sp_float A (sp_it A s i) = false := by
  obtain ⟨n, a1, a2, -, a4, a5, -⟩ := sp_stl_is (A := A) hs
  refine a4.trans ⟨fun ⟨i, h1, h2⟩ => ⟨i, by omega, h2⟩, fun ⟨i, h1, h2⟩ => ?_⟩
  rcases (by omega : i ≤ n ∨ n ≤ i) with c | c
  · exact ⟨i, c, h2⟩
  · exact ⟨n, Nat.le_refl _, by rw [← sp_it_fix a5 i c]; exact h2⟩
def mx_find (c : Nat → Bool) : Nat → Nat → Int32
  | 0, _ => -1
  | f + 1, i => if c i = true then nI i else mx_find c f (i + 1)
theorem cs60 {E : mv_E} {D k n : Nat} {h0 h : mv_H} {Q : mv_Q} {V : vw} {x : Int32} (s : Nat) (i : InvS E h V) (f : fCl h0 h) (m : InvM V) (hs : s < 2 ^ sp_P (vA V)) (e : x = nI s) (H : ∀ h', InvS E h' V → fCl h0 h' → Q (some (.int (nI (sp_it (vA V) s 8)))) h') : mv_VE E (D + 4) k n 60 0 [some (.ref 87), some (.int x), none, none] [] h Q := by
  subst e
  apply sg60_0
  refine mx_loop (P := fun j => ∀ h', InvS E h' V → fCl h0 h' → mv_VE E (D + 4) k n 60 4 [some (.ref 87), none, some (.int (nI (sp_it (vA V) s j))), some (.int (nI j))] [] h' Q) 8 ?_ ?_ h i f
  · intro h' i' f'
    apply sg60_4
    exact mx_ltF 8 8 (Nat.le_refl _) (H h' i' f') (by omega)
  · intro j hj ih h' i' f'
    apply sg60_4
    refine mx_ltT j 8 hj ?_ (by omega)
    refine cs59 _ i' f' m (sp_it_lt hs j) rfl (fun h2 i2 f2 => ⟨_, rfl, ?_⟩)
    rw [nI_1, ← sp_it_s]
    exact ih h2 i2 f2
theorem cs61 {E : mv_E} {D k n : Nat} {h0 h : mv_H} {Q : mv_Q} {V : vw} {x : Int32} (s : Nat) (i : InvS E h V) (f : fCl h0 h) (m : InvM V) (hs : s < 2 ^ sp_P (vA V)) (e : x = nI s) (H : ∀ h', InvS E h' V → fCl h0 h' → Q (some (.int (nI (sp_stl (vA V) s).2.1))) h') : mv_VE E (D + 4) k n 61 0 [some (.ref 87), some (.int x), none, none] [] h Q := by
  subst e
  have p2 := m.p2
  obtain ⟨N, a1, -, a3, -, a5, a6⟩ := sp_stl_is (A := vA V) (s := s) (by omega)
  rw [a3] at H
  apply sg61_0
  refine mx_loop (P := fun j => ∀ h', InvS E h' V → fCl h0 h' → mv_VE E (D + 4) k n 61 4 [some (.ref 87), none, some (.int (nI j)), some (.int (nI (sp_it (vA V) s j)))] [] h' Q) N ?_ ?_ h i f
  · intro h' i' f'
    apply sg61_4
    refine mx_lt N 8 (fun q => ?_) (fun q => H h' i' f') (by omega) (by omega)
    refine cs59 _ i' f' m (sp_it_lt hs N) rfl (fun h2 i2 f2 => ⟨_, rfl, ?_⟩)
    rw [if_pos (by rw [a5])]
    exact H h2 i2 f2
  · intro j hj ih h' i' f'
    have l1 := sp_it_lt (A := vA V) hs j
    have l2 := sp_it_lt (A := vA V) hs (j + 1)
    apply sg61_4
    refine mx_ltT j 8 (by omega) ?_ (by omega)
    refine cs59 _ i' f' m (sp_it_lt hs j) rfl (fun h2 i2 f2 => ⟨_, rfl, ?_⟩)
    refine mx_eqF (sp_week (vA V) (sp_it (vA V) s j)) (sp_it (vA V) s j) (a6 j hj) ?_ (by rw [← sp_it_s]; omega) (by omega)
    refine cs59 _ i2 f2 m (sp_it_lt hs j) rfl (fun h3 i3 f3 => ⟨_, rfl, ?_⟩)
    rw [nI_1, ← sp_it_s]
    exact ih h3 i3 f3
def sp_snk (A : Nat → Int32) (s : Nat) : Int32 := mx_find (fun i => !sp_float A (sp_it A s i)) 9 0
theorem cs62 {E : mv_E} {D k n : Nat} {h0 h : mv_H} {Q : mv_Q} {V : vw} {x : Int32} (s : Nat) (i : InvS E h V) (f : fCl h0 h) (m : InvM V) (hs : s < 2 ^ sp_P (vA V)) (e : x = nI s) (H : ∀ h', InvS E h' V → fCl h0 h' → Q (some (.int (sp_snk (vA V) s))) h') : mv_VE E (D + 4) k n 62 0 [some (.ref 87), some (.int x), none, none] [] h Q := by
  subst e
  apply sg62_0
  have key : ∀ g j, j + g = 9 → ∀ h', InvS E h' V → fCl h0 h' → (∀ h', InvS E h' V → fCl h0 h' → Q (some (.int (mx_find (fun i => !sp_float (vA V) (sp_it (vA V) s i)) g j))) h') → mv_VE E (D + 4) k n 62 4 [some (.ref 87), none, some (.int (nI (sp_it (vA V) s j))), some (.int (nI j))] [] h' Q := by
    intro g
    induction g with
    | zero =>
      intro j hj h' i' f' H
      apply sg62_4
      exact mx_ltT 8 j (by omega) (H h' i' f') (by omega)
    | succ g ih =>
      intro j hj h' i' f' H
      unfold mx_find at H
      apply sg62_4
      refine mx_ltF 8 j (by omega) ?_ (by omega)
      refine cs57 _ i' f' m (sp_it_lt hs j) rfl (fun h2 i2 f2 => ⟨_, rfl, ?_⟩)
      cases z : sp_float (vA V) (sp_it (vA V) s j) with
      | false =>
        rw [if_pos (by rfl)]
        have hH := H h2 i2 f2
        rw [z, if_pos (by rfl)] at hH
        exact hH
      | true =>
        rw [if_neg (by decide)]
        refine cs59 _ i2 f2 m (sp_it_lt hs j) rfl (fun h3 i3 f3 => ⟨_, rfl, ?_⟩)
        rw [nI_1, ← sp_it_s]
        refine ih (j + 1) (by omega) h3 i3 f3 (fun h4 i4 f4 => ?_)
        have hH := H h4 i4 f4
        rw [z, if_neg (by decide)] at hH
        exact hH
  exact key 9 0 rfl h i f H
-- sinks
theorem cc130 {E : mv_E} {D k n : Nat} {h : mv_H} {Q : mv_Q} {V : vw} (i : InvC E h V) (m : InvM V) (H : ∀ h', InvC E h' V → fCl h h' → Q (some (.int (sp_snk (vA V) (sp_hold (vA V))))) h') : mv_VE E (D + 5) k n 130 0 [some (.ref 50)] [] h Q := by
  apply sg130_0
  refine cc51 i m rfl (fun h1 f1 s1 => ⟨rfl, ?_⟩)
  exact cs62 (sp_hold (vA V)) s1 f1.fC6 m m.1.1.hold.2 (s1.1.1.2.1.1.trans m.1.1.hold.1) (fun h2 i2 f2 => ⟨_, rfl, H h2 (i2.C m) f2⟩)
theorem cm251 {E : mv_E} {D k n : Nat} {h : mv_H} {Q : mv_Q} {V : vw} (e : vw_of h = V) (m : InvM V) (H : ∀ h', fM V h h' → Q (some (.int (sp_snk (vA V) (sp_hold (vA V))))) h') : mv_VE E (D + 4) k n 251 0 [some (.ref 148), none, none] [] h Q := by
  subst e
  have p2 := m.p2
  have hh : mv_I h 149 65 = nI (sp_hold (vA (vw_of h))) ∧ _ := m.1.1.hold
  apply sg251_0
  have key : ∀ g j, j + g = 9 → ∀ h', fM (vw_of h) h h' → (∀ h', fM (vw_of h) h h' → Q (some (.int (mx_find (fun i => !sp_float (vA (vw_of h)) (sp_it (vA (vw_of h)) (sp_hold (vA (vw_of h))) i)) g j))) h') → mv_VE E (D + 4) k n 251 15 [some (.ref 148), some (.int (nI (sp_it (vA (vw_of h)) (sp_hold (vA (vw_of h))) j))), some (.int (nI j))] [] h' Q := by
    intro g
    induction g with
    | zero =>
      intro j hj h' f' H
      apply sg251_15
      exact mx_ltT 8 j (by omega) (H h' f') (by omega)
    | succ g ih =>
      intro j hj h' f' H
      have hl := sp_it_lt (A := vA (vw_of h)) hh.2 j
      unfold mx_find at H
      apply sg251_15
      refine mx_ltF 8 j (by omega) ?_ (by omega)
      refine cw220 _ f' m (by omega) rfl (fun h2 f2 => ⟨_, rfl, ?_⟩)
      cases z : sp_float (vA (vw_of h)) (sp_it (vA (vw_of h)) (sp_hold (vA (vw_of h))) j) with
      | false =>
        rw [if_pos (by rfl)]
        have hH := H h2 f2
        rw [z, if_pos (by rfl)] at hH
        exact hH
      | true =>
        rw [if_neg (by decide)]
        refine cw229 _ f2 m (by omega) rfl (fun h3 f3 => ⟨_, rfl, ?_⟩)
        rw [nI_1, ← sp_it_s]
        refine ih (j + 1) (by omega) h3 f3 (fun h4 f4 => ?_)
        have hH := H h4 f4
        rw [z, if_neg (by decide)] at hH
        exact hH
  rw [hh.1]
  exact key 9 0 rfl _ fM0 H
-- settles
def v_settles (V : vw) (x y : Int32) : Int32 := if y = 0 ∨ y = 1 then cond (sn (vA V) x) (if y = 0 then nI (sp_stl (vA V) x.toNatClampNeg).1 else nI (sp_stl (vA V) x.toNatClampNeg).2.1) (-3) else -2
theorem mx_128 (y : Int32) : pf128 y = decide (y = 0 ∨ y = 1) := by
  unfold pf128
  by_cases q : y = 0
  · rw [if_pos q, decide_eq_true (Or.inl q)]
  · rw [if_neg q]
    by_cases r : y = 1
    · rw [if_pos r, decide_eq_true (Or.inr r)]
    · rw [if_neg r, decide_eq_false (fun c => c.elim q r)]
theorem mx_w01 (y : Int32) : pf182 y.toInt64 0 1 = decide (y = 0 ∨ y = 1) := by
  have w := mx_wi (x := y) (L := 0) (H := 1) 0 1 rfl rfl
  rw [w]
  by_cases q : y = 0 ∨ y = 1
  · rw [decide_eq_true q]
    rcases q with rfl | rfl <;> decide
  · rw [decide_eq_false q]
    cases z : (!decide (y < 0) && !decide (1 < y)) with
    | false => rfl
    | true =>
      exfalso
      simp only [Bool.and_eq_true, Bool.not_eq_true', decide_eq_false_iff_not] at z
      obtain ⟨j, hj, rfl⟩ := nI_of z.1
      have z2 := z.2
      have : ¬ 1 < j := fun c => z2 (show nI 1 < nI j from (nI_ltI (by omega) hj).mpr c)
      rcases (by omega : j = 0 ∨ j = 1) with rfl | rfl
      · exact q (Or.inl rfl)
      · exact q (Or.inr rfl)
theorem cc127 {E : mv_E} {D k n : Nat} {h : mv_H} {Q : mv_Q} {V : vw} {x y : Int32} (i : InvC E h V) (m : InvM V) (H : ∀ h', InvC E h' V → fCl h h' → Q (some (.int (v_settles V x y))) h') : mv_VE E (D + 5) k n 127 0 [some (.ref 50), some (.int x), some (.int y)] [] h Q := by
  have p2 := m.p2
  apply sg127_0
  unfold v_settles at H
  refine mx_cdb _ (mx_128 y) (fun q => ?_) (fun q => ?_)
  · have q := of_decide_eq_true q
    rw [if_pos q] at H
    refine cc107 i.1 m ⟨_, rfl, ?_⟩
    cases z : sn (vA V) x with
    | false => rw [if_pos (by rfl)]; rw [z] at H; exact H h i fCl.rf
    | true =>
      rw [if_neg (by decide)]
      rw [z, cond_true] at H
      obtain ⟨s, hs, rfl⟩ := snT m.ok z
      rw [nI_clamp (by omega)] at H
      refine cc51 i m rfl (fun h1 f1 s1 => ⟨rfl, ?_⟩)
      refine mx_if (fun r => ?_) (fun r => ?_)
      · rw [if_pos r, sp_stl8 (by omega)] at H
        exact cs60 s s1 f1.fC6 m hs rfl (fun h2 i2 f2 => ⟨_, rfl, H h2 (i2.C m) f2⟩)
      · rw [if_neg r] at H
        exact cs61 s s1 f1.fC6 m hs rfl (fun h2 i2 f2 => ⟨_, rfl, H h2 (i2.C m) f2⟩)
  · have q := of_decide_eq_false q
    rw [if_neg q] at H
    exact H h i fCl.rf
theorem cm248 {E : mv_E} {D k n : Nat} {h : mv_H} {Q : mv_Q} {V : vw} {x y : Int32} (e : vw_of h = V) (m : InvM V) (H : ∀ h', fM V h h' → Q (some (.int (v_settles V x y))) h') : mv_VE E (D + 5) k n 248 0 [some (.ref 148), some (.int x), some (.int y), none] [] h Q := by
  subst e
  have p2 := m.p2
  have e1 : pf218 (mv_sI h 148 0 0) x = sn (vA (vw_of h)) x := sn_m (h := mv_sI h 148 0 0) m.ok
  apply sg248_0
  unfold v_settles at H
  refine mx_cdb _ (mx_w01 y) (fun q => ?_) (fun q => ?_)
  · have q := of_decide_eq_true q
    rw [if_pos q] at H
    refine mx_cdb _ e1 (fun z => ?_) (fun z => ?_)
    · rw [z, cond_true] at H
      obtain ⟨s, hs, rfl⟩ := snT m.ok z
      rw [nI_clamp (by omega)] at H
      refine cw249 s fM0 m (by omega) rfl (fun h2 f2 a b => ⟨_, rfl, ?_⟩)
      have hH := H h2 f2
      refine mx_if (fun r => ?_) (fun r => ?_)
      · rw [if_pos r] at hH; exact hH
      · rw [if_neg r] at hH; rw [a]; exact hH
    · rw [z] at H; exact H _ fM0
  · have q := of_decide_eq_false q
    rw [if_neg q] at H
    exact H _ fM0
