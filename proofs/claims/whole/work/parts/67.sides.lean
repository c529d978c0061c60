/-! Calls: sides, best. -/
-- the model
def mk_ok (h : mv_H) (A : Nat → Int32) (S : Nat) : Prop := ∀ H (on : Bool), H < 2 ^ sp_P A → mv_I h 159 (256 * on.toNat + H) = 0 ∨ (mv_I h 159 (256 * on.toNat + H) = 1 ∧ mv_I h 158 (256 * on.toNat + H) = sp_W A S H on)
theorem mk_ok.fr {h h' : mv_H} {A : Nat → Int32} {S : Nat} (m : mk_ok h A S) (e1 : mv_I h' 158 = mv_I h 158) (e2 : mv_I h' 159 = mv_I h 159) : mk_ok h' A S := by
  intro H on hH
  rw [e1, e2]; exact m H on hH
theorem mx_on (on : Bool) (A B : Prop) : (if nI on.toNat = 0 then A else B) ↔ cond on B A := by cases on <;> exact Iff.rfl
theorem cw288 {E : mv_E} {h0 : mv_H} {V : vw} (S : Nat) (m : InvM V) (hS : S < 2 ^ sp_P (vA V)) : ∀ g H on D k n h (Q : mv_Q), sp_mu S H on < g → H < 2 ^ sp_P (vA V) → 2 * g + 6 ≤ D → fM V h0 h → mk_ok h (vA V) S → (∀ h', fM V h0 h' → mk_ok h' (vA V) S → Q (some (.int (sp_W (vA V) S H on))) h') → mv_VE E D k n 288 0 [some (.ref 148), some (.int (nI H)), some (.int (nI S)), some (.int (nI on.toNat)), none, none, none, none, none] [] h Q := by
  have p8 := m.p8
  have p2 := m.p2
  intro g
  induction g with
  | zero => intro H on D k n h Q hg; omega
  | succ g ih =>
    intro H on D k n h Q hg hH hD f mk K
    obtain ⟨D1, rfl⟩ : ∃ D1, D = D1 + 6 := ⟨D - 6, by omega⟩
    have hb1 := mx_tn on
    -- what follows when one has let go
    have hb : ∀ X (hX : X < 2 ^ sp_P (vA V)), sp_mu S (sp_stl (vA V) X).1 (!on) < g → ∀ (D2 : Nat) h1 (Q' : mv_Q), 2 * g + 6 ≤ D2 → fM V h0 h1 → mk_ok h1 (vA V) S → (∀ h', fM V h0 h' → mk_ok h' (vA V) S → Q' (some (.int (sp_byF (sp_W (vA V) S) (vA V) X on))) h') → mv_VE E D2 0 0 249 0 [some (.ref 148), some (.int (nI X)), none, none] [] h1 (fun v h1 => ∃ r2, v = some (.int r2) ∧ if mv_I h1 148 22 = 0 then (mv_VE E D2 0 0 288 0 [some (.ref 148), some (.int r2), some (.int (nI S)), some (.int (1 - nI on.toNat)), none, none, none, none, none] [] h1 (fun v h3 => ∃ r4, v = some (.int r4) ∧ Q' (some (.int r4)) h3)) else (if nI on.toNat = 0 then (Q' (some (.int (-1))) h1) else (Q' (some (.int 1)) h1))) := by
      intro X hX hm D2 h1 Q' hD2 f1 mk1 K'
      obtain ⟨D3, rfl⟩ : ∃ D3, D2 = D3 + 4 := ⟨D2 - 4, by omega⟩
      refine ct249 X (by rw [f1.A]; exact m.ok) (by omega) rfl (fun h2 fr2 e21 e22 => ⟨_, rfl, ?_⟩)
      have f2 := f1.s3 fr2
      have mk2 : mk_ok h2 (vA V) S := mk1.fr (fr2.I 158 (fun _ => rfl)) (fr2.I 159 (fun _ => rfl))
      rw [f1.A] at e22 ⊢
      rw [e22]
      unfold sp_byF at K'
      refine mx_ifB _ (fun z => ?_) (fun z => ?_)
      · rw [z, cond_false] at K'
        have eo : (1 : Int32) - nI on.toNat = nI (!on).toNat := by cases on <;> rfl
        rw [eo]
        have hy : (sp_stl (vA V) X).1 < 2 ^ sp_P (vA V) := sp_sub_lt (sp_stl_sub (by omega)) hX
        exact ih _ (!on) (D3 + 4) 0 0 h2 _ hm hy (by omega) f2 mk2 (fun h' a b => ⟨_, rfl, K' h' a b⟩)
      · rw [z, cond_true] at K'
        have K' := K' h2 f2 mk2
        rw [mx_on]
        cases on with
        | false => exact K'
        | true => exact K'
    have hb9 : ∀ p, p < 8 → sp_mu S (sp_stl (vA V) (mx_wo H (2 ^ p))).1 (!on) < g → ∀ (D2 : Nat) h1 (Q' : mv_Q), 2 * g + 7 ≤ D2 → fM V h0 h1 → mk_ok h1 (vA V) S → (∀ h', fM V h0 h' → mk_ok h' (vA V) S → Q' (some (.int (sp_byF (sp_W (vA V) S) (vA V) (mx_wo H (2 ^ p)) on))) h') → mv_VE E D2 0 0 289 0 [some (.ref 148), some (.int (nI H)), some (.int (nI S)), some (.int (nI on.toNat)), some (.int (nI p)), none] [] h1 Q' := by
      intro p hp hm D2 h1 Q' hD2 f1 mk1 K'
      obtain ⟨D3, rfl⟩ : ∃ D3, D2 = D3 + 6 := ⟨D2 - 6, by omega⟩
      apply sg289_0
      rw [if_neg (mx_m1n (by omega)), mx_1shl (by omega), mx_andn]
      exact hb _ (mx_wo_lt hH) hm _ h1 _ (by omega) f1 mk1 K'
    -- the loop over people
    have lp : ∀ (own : Nat) (b0 : Int32), own = sp_own S H on → sp_fo (fun p => sp_byF (sp_W (vA V) S) (vA V) (mx_wo H (2 ^ p)) on) own on b0 (sp_P (vA V)) = sp_W (vA V) S H on → ∀ h1, fM V h0 h1 → mk_ok h1 (vA V) S → mv_VE E (D1 + 6) k n 288 79 [some (.ref 148), some (.int (nI H)), some (.int (nI S)), some (.int (nI on.toNat)), some (.int (nI (256 * on.toNat + H))), some (.int (nI own)), some (.int b0), some (.int 0), none] [] h1 Q := by
      intro own b0 ho hv
      have hol : own < 2 ^ sp_P (vA V) := by rw [ho]; exact sp_sub_lt (sp_own_sub S H on) hH
      refine mx_loop (P := fun j => ∀ h1, fM V h0 h1 → mk_ok h1 (vA V) S → mv_VE E (D1 + 6) k n 288 79 [some (.ref 148), some (.int (nI H)), some (.int (nI S)), some (.int (nI on.toNat)), some (.int (nI (256 * on.toNat + H))), some (.int (nI own)), some (.int (sp_fo (fun p => sp_byF (sp_W (vA V) S) (vA V) (mx_wo H (2 ^ p)) on) own on b0 j)), some (.int (nI j)), none] [] h1 Q) (sp_P (vA V)) ?_ ?_
      · intro h1 f1 mk1
        apply sg288_79
        rw [f1.A, m.ok.1, hv, nI_clamp (n := 256 * on.toNat + H) (by omega)]
        have i5 : (true && mv_in (nI (256 * on.toNat + H)) 512) = true := mx_inT (256 * on.toNat + H) (by omega) (by omega)
        refine mx_ltF (sp_P (vA V)) (sp_P (vA V)) (Nat.le_refl _) (mv_gdI i5 (mv_gdI i5 (K _ ((f1.sc (a := 159) rfl (by omega)).sc (a := 158) rfl (by omega)) ?_))) (by omega)
        intro H' on' hH'
        rw [mx_InE (show (159 : Nat) ≠ 158 by omega), mx_upI, mx_upI]
        by_cases c : 256 * on'.toNat + H' = 256 * on.toNat + H
        · have c1 : H' = H ∧ on' = on := by
            have := mx_tn on'
            have e : on'.toNat = on.toNat := by omega
            exact ⟨by omega, mx_tninj e⟩
          rw [if_pos ⟨rfl, c⟩, if_pos ⟨rfl, c⟩, c1.1, c1.2]
          exact Or.inr ⟨rfl, rfl⟩
        · rw [if_neg (fun d => c d.2), if_neg (fun d => c d.2), mx_InE (show (158 : Nat) ≠ 159 by omega)]
          exact mk1 H' on' hH'
      · intro j hj ihj h1 f1 mk1
        have es := sp_fo_s (fun p => sp_byF (sp_W (vA V) S) (vA V) (mx_wo H (2 ^ p)) on) own on b0 j
        rw [es] at ihj
        apply sg288_79
        rw [f1.A, m.ok.1, nI_1]
        refine mx_ltT j (sp_P (vA V)) hj ?_ (by omega)
        refine mx_cdb (own.testBit j) (mx_isIn (by omega) (by omega)) (fun b => ?_) (fun b => ?_)
        · rw [b, cond_true] at ihj
          have hm : sp_mu S (sp_stl (vA V) (mx_wo H (2 ^ j))).1 (!on) < g := by
            have := sp_mu_go (A := vA V) (S := S) (H := H) (p := j) (on := on) (by omega) (by rw [← ho]; exact b)
            omega
          refine hb9 j (by omega) hm _ h1 _ (by omega) f1 mk1 (fun h2 f2 mk2 => ⟨_, rfl, ?_⟩)
          have ihj := ihj h2 f2 mk2
          unfold sp_bst at ihj
          rw [mx_on]
          cases on with
          | false =>
            rw [cond_false] at ihj ⊢
            by_cases c : sp_fo (fun p => sp_byF (sp_W (vA V) S) (vA V) (mx_wo H (2 ^ p)) false) own false b0 j < sp_byF (sp_W (vA V) S) (vA V) (mx_wo H (2 ^ j)) false
            · rw [if_pos c] at ihj ⊢; exact ihj
            · rw [if_neg c] at ihj ⊢; exact ihj
          | true =>
            rw [cond_true] at ihj ⊢
            by_cases c : sp_byF (sp_W (vA V) S) (vA V) (mx_wo H (2 ^ j)) true < sp_fo (fun p => sp_byF (sp_W (vA V) S) (vA V) (mx_wo H (2 ^ p)) true) own true b0 j
            · rw [if_pos c] at ihj ⊢; exact ihj
            · rw [if_neg c] at ihj ⊢; exact ihj
        · rw [b, cond_false] at ihj
          exact ihj h1 f1 mk1
    have pass : H ≠ 0 → sp_own S H on = 0 → ∀ (Q' : mv_Q), (∀ h', fM V h0 h' → mk_ok h' (vA V) S → Q' (some (.int (sp_W (vA V) S H on))) h') → mv_VE E (D1 + 5) 0 0 289 0 [some (.ref 148), some (.int (nI H)), some (.int (nI S)), some (.int (nI on.toNat)), some (.int (-1)), none] [] h Q' := by
      intro h0' ho Q' K'
      have hm : sp_mu S (sp_stl (vA V) H).1 (!on) < g := by
        have := sp_mu_no (A := vA V) (S := S) (H := H) (on := on) (by omega) h0' ho
        omega
      rw [show D1 + 5 = (D1 - 1) + 6 by omega]
      apply sg289_0
      rw [if_pos rfl]
      rw [sp_W_no (by omega) h0' ho] at K'
      exact hb H hH hm _ h _ (by omega) f mk K'
    have foz : ∀ (v : Nat → Int32) (b0 : Int32) i, sp_fo v 0 on b0 i = b0 := by
      intro v b0 i
      induction i with
      | zero => rw [sp_fo_0]
      | succ i ih => rw [sp_fo_s, Nat.zero_testBit, cond_false, ih]
    have i5 : (true && mv_in (nI (256 * on.toNat + H)) 512) = true := mx_inT (256 * on.toNat + H) (by omega) (by omega)
    apply sg288_0
    rw [show (256 : Int32) * nI on.toNat = nI (256 * on.toNat) from pk_mul 256 _, nI_add, nI_clamp (n := 256 * on.toNat + H) (by omega), mx_and, mx_andn]
    refine mx_eq H 0 (fun q => ?_) (fun q => ?_) (by omega) (by omega)
    · rw [q, sp_W0] at K; exact K h f mk
    refine mv_gdI i5 (mx_if (fun q1 => ?_) (fun q1 => ?_))
    · cases on with
      | false =>
        have eo : sp_own S H false = H &&& S := rfl
        refine mx_T rfl ?_
        have al : H &&& S < 2 ^ sp_P (vA V) := Nat.lt_of_le_of_lt Nat.and_le_left hH
        refine mx_eq (H &&& S) 0 (fun w => ?_) (fun w => ?_) (by omega) (by omega)
        · refine pass q (eo.trans w) _ (fun h1 f1 mk1 => ⟨_, rfl, ?_⟩)
          rw [w]
          exact lp 0 _ (by rw [eo, w]) (foz _ _ _) h1 f1 mk1
        · refine mx_T rfl ?_
          exact lp (H &&& S) (-2) eo.symm (by rw [sp_W_go (by omega) q (by rw [eo]; exact w)]; rfl) h f mk
      | true =>
        have eo : sp_own S H true = mx_wo H S := rfl
        refine mx_F (by decide) ?_
        have al : mx_wo H S < 2 ^ sp_P (vA V) := mx_wo_lt hH
        refine mx_eq (mx_wo H S) 0 (fun w => ?_) (fun w => ?_) (by omega) (by omega)
        · refine pass q (eo.trans w) _ (fun h1 f1 mk1 => ⟨_, rfl, ?_⟩)
          rw [w]
          exact lp 0 _ (by rw [eo, w]) (foz _ _ _) h1 f1 mk1
        · refine mx_F (by decide) ?_
          exact lp (mx_wo H S) 2 eo.symm (by rw [sp_W_go (by omega) q (by rw [eo]; exact w)]; rfl) h f mk
    · rcases mk H on hH with c | ⟨c1, c2⟩
      · exact absurd c q1
      · rw [c2]; exact mv_gdI i5 (K h f mk)
theorem cw289 {E : mv_E} {D k n : Nat} {h0 h : mv_H} {Q : mv_Q} {V : vw} {x1 x2 : Int32} (S H p : Nat) (m : InvM V) (hS : S < 2 ^ sp_P (vA V)) (hH : H < 2 ^ sp_P (vA V)) (hp : p < sp_P (vA V)) (f : fM V h0 h) (mk : mk_ok h (vA V) S) (e1 : x1 = nI H) (e2 : x2 = nI p) (K : ∀ h', fM V h0 h' → mk_ok h' (vA V) S → Q (some (.int (sp_byF (sp_W (vA V) S) (vA V) (mx_wo H (2 ^ p)) false))) h') : mv_VE E (D + 60) k n 289 0 [some (.ref 148), some (.int x1), some (.int (nI S)), some (.int 0), some (.int x2), none] [] h Q := by
  subst e1; subst e2
  have p8 := m.p8
  have p2 := m.p2
  have hX : mx_wo H (2 ^ p) < 2 ^ sp_P (vA V) := mx_wo_lt hH
  rw [show D + 60 = D + 54 + 6 by omega]
  apply sg289_0
  rw [if_neg (mx_m1n (by omega)), mx_1shl (by omega), mx_andn, show D + 54 + 5 = D + 55 + 4 by omega]
  refine ct249 (mx_wo H (2 ^ p)) (by rw [f.A]; exact m.ok) (by omega) rfl (fun h2 fr2 e21 e22 => ⟨_, rfl, ?_⟩)
  have f2 := f.s3 fr2
  have mk2 : mk_ok h2 (vA V) S := mk.fr (fr2.I 158 (fun _ => rfl)) (fr2.I 159 (fun _ => rfl))
  rw [f.A] at e22 ⊢
  rw [e22]
  unfold sp_byF at K
  refine mx_ifB _ (fun z => ?_) (fun z => ?_)
  · rw [z, cond_false] at K
    have hy : (sp_stl (vA V) (mx_wo H (2 ^ p))).1 < 2 ^ sp_P (vA V) := sp_sub_lt (sp_stl_sub (by omega)) hX
    exact cw288 S m hS 18 _ true _ 0 0 h2 _ (sp_mu17 _ _ _) hy (by omega) f2 mk2 (fun h' a b => ⟨_, rfl, K h' a b⟩)
  · rw [z, cond_true] at K
    exact mx_T rfl (K h2 f2 mk2)
theorem cw286 {E : mv_E} {D k n : Nat} {h0 h : mv_H} {Q : mv_Q} {V : vw} {x : Int32} (f : fM V h0 h) (m : InvM V) (K : ∀ h', fM V h0 h' → Q (some (.int (sp_no5 (vA V) x))) h') : mv_VE E (D + 4) k n 286 0 [some (.ref 148), some (.int x)] [] h Q := by
  have e1 : pf218 h x = sn (vA V) x := by rw [sn_m (by rw [f.A]; exact m.ok), f.A]
  have hh := m.1.1.hold
  have p2 := m.p2
  apply sg286_0
  unfold sp_no5 at K
  refine mx_cdb _ e1 (fun z => ?_) (fun z => ?_)
  · rw [z, cond_true] at K
    refine cw220 (sp_hold (vA V)) f m (by omega) (by rw [f.A]; exact hh.1) (fun h1 f1 => ⟨_, rfl, ?_⟩)
    refine mx_ifB _ (fun w => ?_) (fun w => ?_)
    · rw [w] at K; exact K h1 f1
    · rw [w] at K; exact K h1 f1
  · rw [z] at K; exact K h f
theorem cw287 {E : mv_E} {D k n : Nat} {h0 h : mv_H} {Q : mv_Q} {V : vw} (S : Nat) (f : fM V h0 h) (m : InvM V) (hS : S < 2 ^ sp_P (vA V)) (K : ∀ h', fM V h0 h' → mk_ok h' (vA V) S → Q (some (.int (sp_W (vA V) S (sp_hold (vA V)) false))) h') : mv_VE E (D + 60) k n 287 0 [some (.ref 148), some (.int (nI S)), none] [] h Q := by
  have hh := m.1.1.hold
  have p2 := m.p2
  rw [show D + 60 = D + 54 + 6 by omega]
  apply sg287_0
  refine mx_loop (P := fun j => ∀ h1, fM V h0 h1 → (∀ l, l < j → mv_I h1 159 l = 0) → mv_VE E (D + 54 + 6) k n 287 2 [some (.ref 148), some (.int (nI S)), some (.int (nI j))] [] h1 Q) 512 ?_ ?_ h f (fun l hl => by omega)
  · intro h1 f1 z1
    apply sg287_2
    rw [f1.A, hh.1]
    refine mx_ltF 512 512 (Nat.le_refl _) ?_ (by omega)
    refine cw288 S m hS 18 (sp_hold (vA V)) false _ 0 0 h1 _ (sp_mu17 _ _ _) hh.2 (by omega) f1 (fun H on hH => Or.inl (z1 _ (by have := mx_tn on; omega))) (fun h' a b => ⟨_, rfl, K h' a b⟩)
  · intro j hj ih h1 f1 z1
    apply sg287_2
    rw [nI_clamp (n := j) (by omega), nI_1]
    refine mx_ltT j 512 hj (mv_gdI (mx_inT j (by omega) (by omega)) (ih _ (f1.sc (a := 159) rfl (by omega)) (fun l hl => ?_))) (by omega)
    rw [mx_upI]
    by_cases c : l = j
    · rw [if_pos ⟨rfl, c⟩]; rfl
    · rw [if_neg (fun d => c d.2)]; exact z1 l (by omega)
theorem cm285 {E : mv_E} {D k n : Nat} {h : mv_H} {Q : mv_Q} {V : vw} {x : Int32} (e : vw_of h = V) (m : InvM V) (H : ∀ h', fM V h h' → Q (some (.int (v_sides V x))) h') : mv_VE E (D + 61) k n 285 0 [some (.ref 148), some (.int x), none] [] h Q := by
  have f0 := fM.of e
  have p2 := m.p2
  rw [show D + 61 = D + 54 + 7 by omega]
  apply sg285_0
  unfold v_sides at H
  rw [show D + 54 + 6 = D + 56 + 4 by omega]
  refine cw286 f0 m (fun h1 f1 => ⟨_, rfl, mx_if (fun q => ?_) (fun q => ?_)⟩)
  · rw [if_pos q] at H
    obtain ⟨S, hS, rfl⟩ := sp_no50 m.ok q
    rw [nI_clamp (by omega)] at H
    rw [show D + 56 + 4 = D + 60 by omega]
    exact cw287 S f1 m hS (fun h' a b => ⟨_, rfl, H h' a⟩)
  · rw [if_neg q] at H; exact H h1 f1
theorem cm290 {E : mv_E} {D k n : Nat} {h : mv_H} {Q : mv_Q} {V : vw} {x : Int32} (e : vw_of h = V) (m : InvM V) (H : ∀ h', fM V h h' → Q (some (.int (v_best V x))) h') : mv_VE E (D + 61) k n 290 0 [some (.ref 148), some (.int x), none, none, none] [] h Q := by
  have f0 := fM.of e
  have p2 := m.p2
  have p8 := m.p8
  have hh := m.1.1.hold
  rw [show D + 61 = D + 54 + 7 by omega]
  apply sg290_0
  unfold v_best at H
  rw [show D + 54 + 6 = D + 56 + 4 by omega]
  refine cw286 f0 m (fun h1 f1 => ⟨_, rfl, mx_if (fun q => ?_) (fun q => ?_)⟩)
  · rw [if_pos q] at H
    obtain ⟨S, hS, rfl⟩ := sp_no50 m.ok q
    rw [nI_clamp (by omega)] at H
    rw [show D + 56 + 4 = D + 60 by omega]
    refine cw287 S f1 m hS (fun h2 f2 mk2 => ⟨_, rfl, ?_⟩)
    have key : ∀ g j h3, j + g = sp_P (vA V) → fM V h h3 → mk_ok h3 (vA V) S → (∀ h', fM V h h' → Q (some (.int (mx_find (sp_bf (vA V) S) (8 - j) j))) h') → mv_VE E (D + 54 + 7) k n 290 26 [some (.ref 148), some (.int (nI S)), none, some (.int (sp_W (vA V) S (sp_hold (vA V)) false)), some (.int (nI j))] [] h3 Q := by
      intro g
      induction g with
      | zero =>
        intro j h3 hj f3 mk3 K
        have z : mx_find (sp_bf (vA V) S) (8 - j) j = -1 := (mx_find_ne _ _ (by omega)).mpr (fun l h1 h2 => by
          unfold sp_bf
          rw [Nat.testBit_and, Nat.testBit_lt_two_pow (Nat.lt_of_lt_of_le hh.2 (Nat.pow_le_pow_right (by omega) (by omega)))]; rfl)
        rw [z] at K
        apply sg290_26
        rw [f3.A, m.ok.1]
        exact mx_ltF j (sp_P (vA V)) (by omega) (K h3 f3) (by omega)
      | succ g ih =>
        intro j h3 hj f3 mk3 K
        obtain ⟨r, hr⟩ : ∃ r, 8 - j = r + 1 := ⟨8 - j - 1, by omega⟩
        have K2 := K
        rw [hr] at K2
        unfold mx_find at K2
        rw [show r = 8 - (j + 1) by omega] at K2
        apply sg290_26
        rw [f3.A, m.ok.1, hh.1, mx_and, nI_1]
        refine mx_ltT j (sp_P (vA V)) (by omega) ?_ (by omega)
        have ec : S &&& sp_hold (vA V) = sp_hold (vA V) &&& S := Nat.and_comm _ _
        rw [ec]
        have al : sp_hold (vA V) &&& S < 2 ^ sp_P (vA V) := Nat.lt_of_le_of_lt Nat.and_le_left hh.2
        refine mx_cdb ((sp_hold (vA V) &&& S).testBit j) (mx_isIn (by omega) (by omega)) (fun b => ?_) (fun b => ?_)
        · rw [show D + 54 + 6 = D + 60 by omega]
          refine cw289 S (sp_hold (vA V)) j m hS hh.2 (by omega) f3 mk3 rfl rfl (fun h4 f4 mk4 => ⟨_, rfl, ?_⟩)
          refine mx_if (fun w => ?_) (fun w => ?_)
          · have e : sp_bf (vA V) S j = true := by unfold sp_bf; rw [b, decide_eq_true w]; rfl
            rw [if_pos e] at K2; exact K2 h4 f4
          · have e : ¬ sp_bf (vA V) S j = true := by unfold sp_bf; rw [b, decide_eq_false w]; decide
            rw [if_neg e] at K2; exact ih (j + 1) h4 (by omega) f4 mk4 K2
        · have e : ¬ sp_bf (vA V) S j = true := by unfold sp_bf; rw [b, Bool.false_and]; decide
          rw [if_neg e] at K2; exact ih (j + 1) h3 (by omega) f3 mk3 K2
    exact key (sp_P (vA V)) 0 h2 (by omega) f2 mk2 H
  · rw [if_neg q] at H; exact H h1 f1
