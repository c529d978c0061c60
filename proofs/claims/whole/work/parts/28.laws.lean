/-! Laws: rows of codes, what they reckon; the frame of what only looks. -/
def mx_fr (S : Nat → Nat → Bool) (h h' : mv_H) : Prop := h'.1 = h.1 ∧ h'.2.1 = h.2.1 ∧ (∀ a k, S a k = false → mv_I h' a k = mv_I h a k) ∧ mv_J h' = mv_J h ∧ mv_R h' = mv_R h
theorem mx_fr.rf {S : Nat → Nat → Bool} {h : mv_H} : mx_fr S h h := ⟨rfl, rfl, fun _ _ _ => rfl, rfl, rfl⟩
theorem mx_fr.tr {S : Nat → Nat → Bool} {h h' h'' : mv_H} (a : mx_fr S h h') (b : mx_fr S h' h'') : mx_fr S h h'' := ⟨b.1.trans a.1, b.2.1.trans a.2.1, fun x y z => (b.2.2.1 x y z).trans (a.2.2.1 x y z), b.2.2.2.1.trans a.2.2.2.1, b.2.2.2.2.trans a.2.2.2.2⟩
theorem mx_fr.I {S : Nat → Nat → Bool} {h h' : mv_H} (f : mx_fr S h h') (a : Nat) (hS : ∀ k, S a k = false) : mv_I h' a = mv_I h a := funext fun k => f.2.2.1 a k (hS k)
theorem mx_fr.K {S : Nat → Nat → Bool} {h h' : mv_H} (f : mx_fr S h h') (E : mv_E) (a : Nat) : mv_KE E h' a = mv_KE E h a := by
  show mv_KT _ _ _ = mv_KT _ _ _
  unfold mv_KT
  rw [f.2.1]
theorem mx_fr.R {S : Nat → Nat → Bool} {h h' : mv_H} (f : mx_fr S h h') (E : mv_E) (a k : Nat) : mv_RE E h' a k = mv_RE E h a k := by
  have : h'.2.2.2.2 = h.2.2.2.2 := f.2.2.2.2
  show mv_RT _ _ _ _ = mv_RT _ _ _ _
  unfold mv_RT
  rw [this]
theorem mx_fr.to {S T : Nat → Nat → Bool} {h h' : mv_H} (f : mx_fr S h h') (hS : ∀ a k, T a k = false → S a k = false) : mx_fr T h h' := ⟨f.1, f.2.1, fun a k q => f.2.2.1 a k (hS a k q), f.2.2.2⟩
theorem mx_upI {h : mv_H} {a k b j : Nat} {x : Int32} : mv_I (mv_sI h a k x) b j = if b = a ∧ j = k then x else mv_I h b j := by
  show mv_up _ a k x b j = _
  unfold mv_up
  by_cases q : b = a
  · subst q
    rw [mv_beq]
    by_cases r : j = k
    · subst r; rw [mv_beq, if_pos ⟨rfl, rfl⟩]; rfl
    · rw [mv_bne r, if_neg (fun c => r c.2)]; rfl
  · rw [mv_bne q, if_neg (fun c => q c.1)]; rfl
theorem mx_fr.sI {S : Nat → Nat → Bool} {h : mv_H} {a k : Nat} {x : Int32} (hS : S a k = true) : mx_fr S h (mv_sI h a k x) := by
  refine ⟨rfl, rfl, fun b j q => ?_, rfl, rfl⟩
  rw [mx_upI, if_neg (fun c => by rw [c.1, c.2, hS] at q; cases q)]
def sp_okw (l j : Nat) : Bool := decide (j ≤ 3) || (decide (l = 0) && decide (j ≤ 6)) || (decide (l = 1) && decide (j = 7))
def sp_ck (l c : Nat) (ty : List Bool) : Option (List Bool) :=
  if c < 1000 ∨ (1000 ≤ c ∧ sp_okw l (c - 1000) = true) then (if ty.length < 64 then some (false :: ty) else none)
  else if c = 3006 then (match ty with
    | true :: r => some (true :: r)
    | _ => none)
  else if 3000 ≤ c ∧ c ≤ 3002 then (match ty with
    | false :: false :: r => some (false :: r)
    | _ => none)
  else if 3003 ≤ c ∧ c ≤ 3005 then (match ty with
    | false :: false :: r => some (true :: r)
    | _ => none)
  else if c = 3007 ∨ c = 3008 then (match ty with
    | true :: true :: r => some (true :: r)
    | _ => none)
  else none
theorem sp_ckE {l c : Nat} {ty t2 : List Bool} (h : sp_ck l c ty = some t2) :
    (c < 1000 ∧ ty.length < 64 ∧ t2 = false :: ty) ∨ (∃ j, c = 1000 + j ∧ j < 8 ∧ sp_okw l j = true ∧ ty.length < 64 ∧ t2 = false :: ty) ∨ (c = 3006 ∧ ∃ r, ty = true :: r ∧ t2 = true :: r) ∨
    ((3000 ≤ c ∧ c ≤ 3002) ∧ ∃ r, ty = false :: false :: r ∧ t2 = false :: r) ∨ ((3003 ≤ c ∧ c ≤ 3005) ∧ ∃ r, ty = false :: false :: r ∧ t2 = true :: r) ∨ ((c = 3007 ∨ c = 3008) ∧ ∃ r, ty = true :: true :: r ∧ t2 = true :: r) := by
  unfold sp_ck at h
  split at h
  · rename_i q
    split at h
    · rename_i q2
      cases h
      rcases q with q | q
      · exact Or.inl ⟨q, q2, rfl⟩
      · refine Or.inr (Or.inl ⟨c - 1000, by omega, ?_, q.2, q2, rfl⟩)
        have := q.2
        unfold sp_okw at this
        simp only [Bool.or_eq_true, Bool.and_eq_true, decide_eq_true_eq] at this
        omega
    · cases h
  · split at h
    · rename_i q
      split at h
      · cases h; exact Or.inr (Or.inr (Or.inl ⟨q, _, rfl, rfl⟩))
      · cases h
    · split at h
      · rename_i q
        split at h
        · cases h; exact Or.inr (Or.inr (Or.inr (Or.inl ⟨q, _, rfl, rfl⟩)))
        · cases h
      · split at h
        · rename_i q
          split at h
          · cases h; exact Or.inr (Or.inr (Or.inr (Or.inr (Or.inl ⟨q, _, rfl, rfl⟩))))
          · cases h
        · split at h
          · rename_i q
            split at h
            · cases h; exact Or.inr (Or.inr (Or.inr (Or.inr (Or.inr ⟨q, _, rfl, rfl⟩))))
            · cases h
          · cases h
def sp_cks (l : Nat) (C : Nat → Nat) : Nat → Option (List Bool) := mx_fold (fun i o => o.bind (sp_ck l (C i))) (some [])
theorem sp_cksE {l : Nat} {C : Nat → Nat} {i : Nat} {t : List Bool} (h : sp_cks l C (i + 1) = some t) : ∃ t', sp_cks l C i = some t' ∧ sp_ck l (C i) t' = some t := Option.bind_eq_some_iff.mp h
theorem sp_cks_le {l : Nat} {C : Nat → Nat} {N : Nat} {t : List Bool} (h : sp_cks l C N = some t) : ∀ j, j ≤ N → ∃ t', sp_cks l C (N - j) = some t' := by
  intro j
  induction j with
  | zero => intro _; exact ⟨t, h⟩
  | succ j ih =>
    intro hj
    obtain ⟨t', q⟩ := ih (by omega)
    rw [show N - j = N - (j + 1) + 1 by omega] at q
    obtain ⟨t2, q2, -⟩ := sp_cksE q
    exact ⟨t2, q2⟩
def sp_st (w : Nat → Int32) (c : Nat) (st : List Int32) : List Int32 :=
  if c < 1000 then nI c :: st
  else if c < 3000 then w (c - 1000) :: st
  else if c = 3006 then (match st with
    | a :: r => (1 - a) :: r
    | _ => [])
  else match st with
    | b :: a :: r => pf216 (nI c) a b :: r
    | _ => []
def sp_run (w : Nat → Int32) (C : Nat → Nat) : Nat → List Int32 := mx_fold (fun i st => sp_st w (C i) st) []
def sp_ans (w : Nat → Int32) (C : Nat → Nat) (N : Nat) : Bool := match sp_run w C N with
  | [x] => decide (x = 1)
  | _ => false
def sp_rep (f : Nat → Int32) : List Int32 → Prop
  | [] => True
  | x :: r => f r.length = x ∧ sp_rep f r
theorem sp_rep_of {f g : Nat → Int32} : ∀ (r : List Int32), (∀ j, j < r.length → g j = f j) → sp_rep f r → sp_rep g r
  | [], _, _ => True.intro
  | x :: r, h, q => ⟨(h _ (by simp)).trans q.1, sp_rep_of r (fun j hj => h j (by rw [List.length_cons]; omega)) q.2⟩
theorem sp_st_len {w : Nat → Int32} {l c : Nat} {ty t2 : List Bool} {st : List Int32} (h : sp_ck l c ty = some t2) (hl : st.length = ty.length) : (sp_st w c st).length = t2.length := by
  unfold sp_st
  rcases sp_ckE h with ⟨h1, -, rfl⟩ | ⟨j, h1, hj, -, -, rfl⟩ | ⟨h1, r, rfl, rfl⟩ | ⟨h1, r, rfl, rfl⟩ | ⟨h1, r, rfl, rfl⟩ | ⟨h1, r, rfl, rfl⟩
  · rw [if_pos h1]; simp [hl]
  · rw [if_neg (by omega), if_pos (by omega)]; simp [hl]
  · rw [if_neg (by omega), if_neg (by omega), if_pos h1]
    match st, hl with
    | [], hl => simp at hl
    | a :: s, hl => simpa using hl
  all_goals
    rw [if_neg (by omega), if_neg (by omega), if_neg (by omega)]
    match st, hl with
    | [], hl => simp at hl
    | [_], hl => simp at hl
    | a :: b :: s, hl => simpa using hl
theorem sp_run_len {w : Nat → Int32} {l : Nat} {C : Nat → Nat} : ∀ (i : Nat) (t : List Bool), sp_cks l C i = some t → (sp_run w C i).length = t.length
  | 0, t, h => by cases h; rfl
  | i + 1, t, h => by
    obtain ⟨t', h1, h2⟩ := sp_cksE h
    exact sp_st_len h2 (sp_run_len i t' h1)
theorem sp_cks_64 {l : Nat} {C : Nat → Nat} : ∀ (i : Nat) (t : List Bool), sp_cks l C i = some t → t.length ≤ 64
  | 0, t, h => by cases h; simp
  | i + 1, t, h => by
    obtain ⟨t', h1, h2⟩ := sp_cksE h
    have := sp_cks_64 i t' h1
    rcases sp_ckE h2 with ⟨-, h1, rfl⟩ | ⟨j, -, -, -, h1, rfl⟩ | ⟨-, r, rfl, rfl⟩ | ⟨-, r, rfl, rfl⟩ | ⟨-, r, rfl, rfl⟩ | ⟨-, r, rfl, rfl⟩ <;> simp only [List.length_cons] at this ⊢ <;> omega
theorem mx_eqT {x y : Int32} {A B : Prop} (a b : Nat) (q : a = b) (H : A) (hx : x = nI a := by rfl) (hy : y = nI b := by rfl) : if x = y then A else B := by
  subst hx; subst hy; subst q; rw [if_pos rfl]; exact H
theorem mx_eqF {x y : Int32} {A B : Prop} (a b : Nat) (q : a ≠ b) (H : B) (ha : a < 2 ^ 31) (hb : b < 2 ^ 31) (hx : x = nI a := by rfl) (hy : y = nI b := by rfl) : if x = y then A else B := by
  subst hx; subst hy; rw [if_neg (fun c => q ((nI_eq ha hb).mp c))]; exact H
def mx_s1 (a _ : Nat) : Bool := Nat.beq a 153
theorem ct215 {E : mv_E} {D k n : Nat} {h : mv_H} {Q : mv_Q} {x1 : Int32} (l N F : Nat) (C : Nat → Nat) (w : Nat → Int32) (hl : l < 2) (hN : mv_I h 149 (7 + l) = nI N) (hF : mv_I h 149 (5 + l) = nI F) (hFN : F + N ≤ 900) (hC : ∀ i, i < N → mv_I h 149 (188 + F + i) = nI (C i)) (hck : sp_cks l C N = some [true]) (hw : ∀ j, sp_okw l j = true → mv_I h 154 j = w j) (e1 : x1 = nI l) (H : ∀ h', mx_fr mx_s1 h h' → Q (some (.int (nI (sp_ans w C N).toNat))) h') : mv_VE E (D + 1) k n 215 0 [some (.ref 148), some (.int x1), none, none, none] [] h Q := by
  subst e1
  apply sg215_0
  refine mx_loop (P := fun i => ∀ h', mx_fr mx_s1 h h' → sp_rep (mv_I h' 153) (sp_run w C i) → mv_VE E (D + 1) k n 215 4 [some (.ref 148), some (.int (nI l)), some (.int (nI (sp_run w C i).length)), some (.int (nI i)), none] [] h' Q) N ?_ ?_ h mx_fr.rf True.intro
  · intro h' fr rp
    have eA : mv_I h' 149 = mv_I h 149 := fr.I 149 (fun _ => rfl)
    apply sg215_4
    refine mv_gdI (mx_inT (7 + l) (by omega) (by omega) (nI_add 7 l)) ?_
    rw [show (7 : Int32) + nI l = nI (7 + l) from nI_add 7 l, nI_clamp (by omega), eA, hN]
    refine mx_ltF N N (Nat.le_refl _) ?_ (by omega)
    have hlen := sp_run_len (w := w) N _ hck
    have H' := H h' fr
    unfold sp_ans at H'
    generalize sp_run w C N = st at rp hlen H'
    match st, hlen with
    | [x], _ =>
      have : mv_I h' 153 0 = x := rp.1
      rw [this]
      by_cases q : x = 1
      · rw [if_pos q]; simp only [q, decide_true] at H'; exact H'
      · rw [if_neg q]; simp only [q, decide_false] at H'; exact H'
  · intro i hi ih h' fr rp
    have eA : mv_I h' 149 = mv_I h 149 := fr.I 149 (fun _ => rfl)
    have eW : mv_I h' 154 = mv_I h 154 := fr.I 154 (fun _ => rfl)
    obtain ⟨t2, c2⟩ := sp_cks_le hck (N - (i + 1)) (by omega)
    rw [show N - (N - (i + 1)) = i + 1 by omega] at c2
    obtain ⟨ty, c1, c3⟩ := sp_cksE c2
    have hlen := sp_run_len (w := w) i _ c1
    have e2 : sp_run w C (i + 1) = sp_st w (C i) (sp_run w C i) := rfl
    rw [e2] at ih
    generalize sp_run w C i = st at rp hlen ih
    apply sg215_4
    refine mv_gdI (mx_inT (7 + l) (by omega) (by omega) (nI_add 7 l)) ?_
    rw [show (7 : Int32) + nI l = nI (7 + l) from nI_add 7 l, show (5 : Int32) + nI l = nI (5 + l) from nI_add 5 l, nI_clamp (by omega), nI_clamp (by omega), eA, eW, hN, hF, show (188 : Int32) + nI F = nI (188 + F) from nI_add 188 F, nI_add, nI_clamp (by omega), hC i hi, nI_1, nI_1]
    refine mx_ltT i N hi ?_ (by omega)
    refine mv_gdI (mx_inT (5 + l) (by omega) (by omega)) ?_
    refine mv_gdI (mx_inT (188 + F + i) (by omega) (by omega)) ?_
    have st1 : ∀ (x : Int32), st.length < 64 → (∀ h'', mx_fr mx_s1 h h'' → sp_rep (mv_I h'' 153) (x :: st) → mv_VE E (D + 1) k n 215 4 [some (.ref 148), some (.int (nI l)), some (.int (nI (x :: st).length)), some (.int (nI (i + 1))), none] [] h'' Q) → mv_gd (true && mv_in (nI st.length) 900) (mv_VE E (D + 1) k n 215 4 [some (.ref 148), some (.int (nI l)), some (.int (nI (st.length + 1))), some (.int (nI (i + 1))), none] [] (mv_sI h' 153 (nI st.length).toNatClampNeg x) Q) := by
      intro x hx q
      refine mv_gdI (mx_inT st.length (by omega) (by omega)) ?_
      rw [nI_clamp (by omega)]
      refine q _ (fr.tr (mx_fr.sI rfl)) ⟨by rw [mx_upI, if_pos ⟨rfl, rfl⟩], sp_rep_of st (fun j hj => by rw [mx_upI, if_neg (by omega)]) rp⟩
    unfold sp_st at ih
    rcases sp_ckE c3 with ⟨h1, hn, rfl⟩ | ⟨j, h1, hj, hj2, hn, rfl⟩ | ⟨h1, r, rfl, rfl⟩ | h1
    · rw [if_pos h1] at ih
      refine mx_ltT (C i) 3000 (by omega) ?_ (by omega)
      refine mx_ltT (C i) 1000 (by omega) ?_ (by omega)
      exact st1 _ (by omega) ih
    · rw [if_neg (by omega), if_pos (by omega), show C i - 1000 = j by omega] at ih
      refine mx_ltT (C i) 3000 (by omega) ?_ (by omega)
      refine mx_ltF (C i) 1000 (by omega) ?_ (by omega)
      rw [show nI (C i) - (1000 : Int32) = nI (C i - 1000) from pk_sub (b := 1000) (by omega), show C i - 1000 = j by omega]
      refine mv_gdI (mx_inT j (by omega) (by omega)) ?_
      rw [nI_clamp (n := j) (by omega), hw j hj2]
      exact st1 _ (by omega) ih
    · rw [if_neg (by omega), if_neg (by omega), if_pos h1] at ih
      refine mx_ltF (C i) 3000 (by omega) ?_ (by omega)
      refine mx_eqT (C i) 3006 h1 ?_
      match st, hlen, rp, ih with
      | a :: s, hlen, rp, ih =>
        have hs : s.length < 900 := by
          have := sp_cks_64 i _ c1
          simp only [List.length_cons] at hlen this
          omega
        rw [List.length_cons, nI_pred]
        refine mv_gdI (mx_inT s.length (by omega) (by omega)) ?_
        refine mv_gdI (mx_inT s.length (by omega) (by omega)) ?_
        rw [nI_clamp (by omega), rp.1]
        exact ih _ (fr.tr (mx_fr.sI rfl)) ⟨by rw [mx_upI, if_pos ⟨rfl, rfl⟩], sp_rep_of s (fun j hj => by rw [mx_upI, if_neg (by omega)]) rp.2⟩
    · obtain ⟨⟨g1, g2, g3⟩, a, r, b, e3, e4⟩ : (3000 ≤ C i ∧ C i ≤ 3008 ∧ C i ≠ 3006) ∧ ∃ a r b, ty = a :: a :: r ∧ t2 = b :: r := by
        rcases h1 with ⟨h1, r, rfl, rfl⟩ | ⟨h1, r, rfl, rfl⟩ | ⟨h1, r, rfl, rfl⟩
        · exact ⟨by omega, _, _, _, rfl, rfl⟩
        · exact ⟨by omega, _, _, _, rfl, rfl⟩
        · exact ⟨by omega, _, _, _, rfl, rfl⟩
      subst e3; subst e4
      rw [if_neg (by omega), if_neg (by omega), if_neg g3] at ih
      refine mx_ltF (C i) 3000 (by omega) ?_ (by omega)
      refine mx_eqF (C i) 3006 g3 ?_ (by omega) (by omega)
      have := sp_cks_64 i _ c1
      match st, hlen, rp, ih with
      | [x], hlen, rp, ih => simp at hlen
      | x :: y :: s, hlen, rp, ih =>
        have hs : s.length < 900 := by
          simp only [List.length_cons] at hlen this
          omega
        have hs2 : s.length + 1 < 900 := by
          simp only [List.length_cons] at hlen this
          omega
        rw [List.length_cons, List.length_cons, pk_m1, nI_pred]
        refine mv_gdI (mx_inT s.length (by omega) (by omega)) ?_
        refine mv_gdI (mx_inT (s.length + 1) (by omega) (by omega)) ?_
        refine mv_gdI (mx_inT s.length (by omega) (by omega)) ?_
        have r1 : mv_I h' 153 (s.length + 1) = x := rp.1
        have r2 : mv_I h' 153 s.length = y := rp.2.1
        rw [nI_clamp (by omega), nI_clamp (by omega), r1, r2]
        exact ih _ (fr.tr (mx_fr.sI rfl)) ⟨by rw [mx_upI, if_pos ⟨rfl, rfl⟩], sp_rep_of s (fun j hj => by rw [mx_upI, if_neg (by omega)]) rp.2.2⟩
