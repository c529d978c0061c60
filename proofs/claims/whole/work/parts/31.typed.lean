/-! Laws hold numbers within a million and truths; so the class's sums are the model's. -/
def mx_clp (v : Int64) : Int32 := if 0 < lg_cmp v 1000000 then 1000000 else if lg_cmp v (-1000000) < 0 then (-1000000) else v.toInt32
def sp_sm (x : Int32) : Prop := -1000000 ≤ x.toInt ∧ x.toInt ≤ 1000000
theorem mx_clp_sm (v : Int64) : sp_sm (mx_clp v) := by
  unfold mx_clp sp_sm
  by_cases q : 0 < lg_cmp v 1000000
  · rw [if_pos q]; decide
  · rw [if_neg q]
    by_cases r : lg_cmp v (-1000000) < 0
    · rw [if_pos r]; decide
    · rw [if_neg r]
      rw [lg_cmp_gt, Int64.lt_iff_toInt_lt] at q
      rw [lg_cmp_lt, Int64.lt_iff_toInt_lt] at r
      have e1 : (1000000 : Int64).toInt = 1000000 := by decide
      have e2 : (-1000000 : Int64).toInt = -1000000 := by decide
      rw [e1] at q; rw [e2] at r
      rw [Int64.toInt_toInt32, Int.bmod_eq_of_le (by omega) (by omega)]
      omega
theorem mx_add64 {a b : Int32} (ha : sp_sm a) (hb : sp_sm b) : (a + b).toInt64 = a.toInt64 + b.toInt64 := by
  unfold sp_sm at ha hb
  apply Int64.toInt_inj.mp
  rw [Int64.toInt_add, Int32.toInt_toInt64, Int32.toInt_toInt64, Int32.toInt_toInt64, Int32.toInt_add, Int.bmod_eq_of_le (by omega) (by omega), Int.bmod_eq_of_le (by omega) (by omega)]
theorem mx_sub64 {a b : Int32} (ha : sp_sm a) (hb : sp_sm b) : (a - b).toInt64 = a.toInt64 - b.toInt64 := by
  unfold sp_sm at ha hb
  apply Int64.toInt_inj.mp
  rw [Int64.toInt_sub, Int32.toInt_toInt64, Int32.toInt_toInt64, Int32.toInt_toInt64, Int32.toInt_sub, Int.bmod_eq_of_le (by omega) (by omega), Int.bmod_eq_of_le (by omega) (by omega)]
theorem mx_pl (a b : Int32) : pf216 3000 a b = mx_clp (a.toInt64 + b.toInt64) := by
  unfold pf216 mx_clp
  rw [if_neg (by decide), if_neg (by decide), if_neg (by decide), if_neg (by decide), if_neg (by decide), if_neg (by decide), if_pos rfl]
  rfl
theorem mx_mi (a b : Int32) : pf216 3001 a b = mx_clp (a.toInt64 - b.toInt64) := by
  unfold pf216 mx_clp
  rw [if_neg (by decide), if_neg (by decide), if_neg (by decide), if_neg (by decide), if_neg (by decide), if_neg (by decide), if_neg (by decide), if_pos rfl]
  rfl
theorem mx_ti (a b : Int32) : pf216 3002 a b = mx_clp (a.toInt64 * b.toInt64) := by
  unfold pf216 mx_clp
  rw [if_neg (by decide), if_neg (by decide), if_neg (by decide), if_neg (by decide), if_neg (by decide), if_neg (by decide), if_neg (by decide), if_neg (by decide)]
  rfl
theorem mx_cpl (a b : Int32) : pf55 43 a b = mx_clp (a + b).toInt64 := by
  unfold pf55 mx_clp
  rw [if_neg (by decide), if_neg (by decide), if_neg (by decide), if_neg (by decide), if_neg (by decide), if_pos rfl]
theorem mx_cmi (a b : Int32) : pf55 45 a b = mx_clp (a - b).toInt64 := by
  unfold pf55 mx_clp
  rw [if_neg (by decide), if_neg (by decide), if_neg (by decide), if_neg (by decide), if_neg (by decide), if_neg (by decide), if_pos rfl]
theorem mx_cti (a b : Int32) : pf55 42 a b = mx_clp (a.toInt64 * b.toInt64) := by
  unfold pf55 mx_clp
  rw [if_neg (by decide), if_neg (by decide), if_neg (by decide), if_neg (by decide), if_neg (by decide), if_neg (by decide), if_neg (by decide)]
/-- a code of the model, as the class has it -/
def cr_tr (c : Nat) : Nat :=
  if c < 1000 then c else match c with
  | 1000 => 1145
  | 1001 => 1139
  | 1002 => 1132
  | 1003 => 1133
  | 1004 => 1146
  | 1005 => 1147
  | 1006 => 1148
  | 1007 => 1149
  | 3000 => 1043
  | 3001 => 1045
  | 3002 => 1042
  | 3003 => 1061
  | 3004 => 1060
  | 3005 => 1062
  | 3006 => 1142
  | 3007 => 1143
  | 3008 => 1144
  | _ => 0
def sp_tv (t : Bool) (x : Int32) : Prop := match t with
  | true => x = 0 ∨ x = 1
  | false => sp_sm x
def sp_tyd : List Int32 → List Bool → Prop
  | [], [] => True
  | x :: r, t :: ts => sp_tv t x ∧ sp_tyd r ts
  | _, _ => False
theorem sp_opE {c : Nat} {a b : Int32} {ta tb : Bool} (hc : ((3000 ≤ c ∧ c ≤ 3002) ∧ ta = false ∧ tb = false) ∨ ((3003 ≤ c ∧ c ≤ 3005) ∧ ta = false ∧ tb = true) ∨ ((c = 3007 ∨ c = 3008) ∧ ta = true ∧ tb = true)) (ha : sp_tv ta a) (hb : sp_tv ta b) : pf55 (nI (cr_tr c) - 1000) a b = pf216 (nI c) a b ∧ sp_tv tb (pf216 (nI c) a b) := by
  have t01 : ∀ (q : Prop) [Decidable q], sp_tv true (if q then 1 else 0) := by
    intro q _
    by_cases z : q
    · rw [if_pos z]; exact Or.inr rfl
    · rw [if_neg z]; exact Or.inl rfl
  rcases hc with ⟨h, rfl, rfl⟩ | ⟨h, rfl, rfl⟩ | ⟨h, rfl, rfl⟩
  · rcases (by omega : c = 3000 ∨ c = 3001 ∨ c = 3002) with rfl | rfl | rfl
    · rw [show nI (cr_tr 3000) - 1000 = (43 : Int32) by decide, show nI 3000 = (3000 : Int32) from rfl, mx_pl, mx_cpl, mx_add64 ha hb]
      exact ⟨rfl, mx_clp_sm _⟩
    · rw [show nI (cr_tr 3001) - 1000 = (45 : Int32) by decide, show nI 3001 = (3001 : Int32) from rfl, mx_mi, mx_cmi, mx_sub64 ha hb]
      exact ⟨rfl, mx_clp_sm _⟩
    · rw [show nI (cr_tr 3002) - 1000 = (42 : Int32) by decide, show nI 3002 = (3002 : Int32) from rfl, mx_ti, mx_cti]
      exact ⟨rfl, mx_clp_sm _⟩
  · rcases (by omega : c = 3003 ∨ c = 3004 ∨ c = 3005) with rfl | rfl | rfl
    · rw [show nI (cr_tr 3003) - 1000 = (61 : Int32) by decide, show nI 3003 = (3003 : Int32) from rfl]
      have e : pf216 3003 a b = if a = b then 1 else 0 := by unfold pf216; rw [if_pos rfl]
      refine ⟨?_, by rw [e]; exact t01 _⟩
      rw [e]; unfold pf55; rw [if_neg (by decide), if_pos rfl]
    · rw [show nI (cr_tr 3004) - 1000 = (60 : Int32) by decide, show nI 3004 = (3004 : Int32) from rfl]
      have e : pf216 3004 a b = if a < b then 1 else 0 := by unfold pf216; rw [if_neg (by decide), if_pos rfl]
      refine ⟨?_, by rw [e]; exact t01 _⟩
      rw [e]; unfold pf55; rw [if_pos rfl]
    · rw [show nI (cr_tr 3005) - 1000 = (62 : Int32) by decide, show nI 3005 = (3005 : Int32) from rfl]
      have e : pf216 3005 a b = if b < a then 1 else 0 := by unfold pf216; rw [if_neg (by decide), if_neg (by decide), if_pos rfl]
      refine ⟨?_, by rw [e]; exact t01 _⟩
      rw [e]; unfold pf55; rw [if_neg (by decide), if_neg (by decide), if_pos rfl]
  · rcases h with rfl | rfl
    · rw [show nI (cr_tr 3007) - 1000 = (143 : Int32) by decide, show nI 3007 = (3007 : Int32) from rfl]
      have e : pf216 3007 a b = a &&& b := by unfold pf216; rw [if_neg (by decide), if_neg (by decide), if_neg (by decide), if_neg (by decide), if_pos rfl]
      refine ⟨?_, ?_⟩
      · rw [e]; unfold pf55; rw [if_neg (by decide), if_neg (by decide), if_neg (by decide), if_pos rfl]
      · rw [e]; rcases ha with rfl | rfl <;> rcases hb with rfl | rfl <;> (unfold sp_tv; decide)
    · rw [show nI (cr_tr 3008) - 1000 = (144 : Int32) by decide, show nI 3008 = (3008 : Int32) from rfl]
      have e : pf216 3008 a b = a ||| b := by unfold pf216; rw [if_neg (by decide), if_neg (by decide), if_neg (by decide), if_neg (by decide), if_neg (by decide), if_pos rfl]
      refine ⟨?_, ?_⟩
      · rw [e]; unfold pf55; rw [if_neg (by decide), if_neg (by decide), if_neg (by decide), if_neg (by decide), if_pos rfl]
      · rw [e]; rcases ha with rfl | rfl <;> rcases hb with rfl | rfl <;> (unfold sp_tv; decide)
theorem sp_st_ty {w : Nat → Int32} {l c : Nat} {ty t2 : List Bool} {st : List Int32} (hw : ∀ j, sp_okw l j = true → sp_sm (w j)) (h : sp_ck l c ty = some t2) (hl : sp_tyd st ty) : sp_tyd (sp_st w c st) t2 := by
  unfold sp_st
  rcases sp_ckE h with ⟨h1, -, rfl⟩ | ⟨j, h1, hj, hj2, -, rfl⟩ | ⟨h1, r, rfl, rfl⟩ | h1
  · rw [if_pos h1]
    refine ⟨?_, hl⟩
    unfold sp_tv sp_sm
    rw [nI_toInt (by omega)]
    omega
  · rw [if_neg (by omega), if_pos (by omega), show c - 1000 = j by omega]
    exact ⟨hw j hj2, hl⟩
  · rw [if_neg (by omega), if_neg (by omega), if_pos h1]
    match st, hl with
    | a :: s, hl =>
      refine ⟨?_, hl.2⟩
      rcases hl.1 with rfl | rfl
      · exact Or.inr (by decide)
      · exact Or.inl (by decide)
  · obtain ⟨ta, tb, r, e1, e2, hc⟩ : ∃ ta tb r, ty = ta :: ta :: r ∧ t2 = tb :: r ∧ (((3000 ≤ c ∧ c ≤ 3002) ∧ ta = false ∧ tb = false) ∨ ((3003 ≤ c ∧ c ≤ 3005) ∧ ta = false ∧ tb = true) ∨ ((c = 3007 ∨ c = 3008) ∧ ta = true ∧ tb = true)) := by
      rcases h1 with ⟨h1, r, rfl, rfl⟩ | ⟨h1, r, rfl, rfl⟩ | ⟨h1, r, rfl, rfl⟩
      · exact ⟨_, _, _, rfl, rfl, Or.inl ⟨h1, rfl, rfl⟩⟩
      · exact ⟨_, _, _, rfl, rfl, Or.inr (Or.inl ⟨h1, rfl, rfl⟩)⟩
      · exact ⟨_, _, _, rfl, rfl, Or.inr (Or.inr ⟨h1, rfl, rfl⟩)⟩
    subst e1; subst e2
    rw [if_neg (by omega), if_neg (by omega), if_neg (by omega)]
    match st, hl with
    | x :: y :: s, hl => exact ⟨(sp_opE hc hl.2.1 hl.1).2, hl.2.2⟩
    | [_], hl => exact hl.2.elim
theorem sp_run_ty {w : Nat → Int32} {l : Nat} {C : Nat → Nat} (hw : ∀ j, sp_okw l j = true → sp_sm (w j)) : ∀ (i : Nat) (t : List Bool), sp_cks l C i = some t → sp_tyd (sp_run w C i) t
  | 0, t, h => by cases h; exact True.intro
  | i + 1, t, h => by
    obtain ⟨t', h1, h2⟩ := sp_cksE h
    exact sp_st_ty hw h2 (sp_run_ty hw i t' h1)
def mx_s93 (a _ : Nat) : Bool := Nat.beq a 93
def cr_kd (j : Nat) : Nat := cr_tr (1000 + j) - 1000
theorem cr_num : ∀ c, c < 1000 → pf11 (nI c - 1000) = 0 := by decide +kernel
theorem cr_atm : ∀ j, j < 8 → pf11 (nI (cr_tr (1000 + j)) - 1000) = 0 ∧ nI (cr_tr (1000 + j)) - 1000 = nI (cr_kd j) ∧ 1000 ≤ cr_tr (1000 + j) ∧ cr_tr (1000 + j) < 1142 + 8 ∧ cr_tr (1000 + j) ≠ 1142 := by decide +kernel
theorem cr_bin : ∀ c, 3000 ≤ c → c ≤ 3008 → c ≠ 3006 → (0 < pf11 (nI (cr_tr c) - 1000)) ∧ cr_tr c ≠ 1142 ∧ cr_tr c < 2000 := by
  intro c h1 h2 h3
  rcases (by omega : c = 3000 ∨ c = 3001 ∨ c = 3002 ∨ c = 3003 ∨ c = 3004 ∨ c = 3005 ∨ c = 3007 ∨ c = 3008) with rfl | rfl | rfl | rfl | rfl | rfl | rfl | rfl <;> decide
theorem ct54 {E : mv_E} {D k n : Nat} {h : mv_H} {Q : mv_Q} {x1 : Nat} (l N : Nat) (C : Nat → Nat) (w : Nat → Int32) (hK : mv_KE E h x1 = (20, N)) (hx : x1 ≠ 93) (hN : N ≤ 900) (hC : ∀ i, i < N → mv_I h x1 i = nI (cr_tr (C i))) (hck : sp_cks l C N = some [true]) (hw : ∀ j, sp_okw l j = true → pf56 h (nI (cr_kd j)) = w j) (hsm : ∀ j, sp_okw l j = true → sp_sm (w j)) (H : ∀ h', mx_fr mx_s93 h h' → Q (some (.int (nI (sp_ans w C N).toNat))) h') : mv_VE E (D + 1) k n 54 0 [some (.ref 87), some (.ref x1), none, none, none] [] h Q := by
  apply sg54_0
  refine mx_loop (P := fun i => ∀ h', mx_fr mx_s93 h h' → sp_rep (mv_I h' 93) (sp_run w C i) → mv_VE E (D + 1) k n 54 4 [some (.ref 87), some (.ref x1), some (.int (nI (sp_run w C i).length)), some (.int (nI i)), none] [] h' Q) N ?_ ?_ h mx_fr.rf True.intro
  · intro h' fr rp
    apply sg54_4
    rw [fr.K E x1, hK]
    refine mv_gdI rfl ?_
    refine mx_ltF N N (Nat.le_refl _) ?_ (by omega)
    have hlen := sp_run_len (w := w) N _ hck
    have H' := H h' fr
    unfold sp_ans at H'
    generalize sp_run w C N = st at rp hlen H'
    match st, hlen with
    | [x], _ =>
      have : mv_I h' 93 0 = x := rp.1
      rw [this]
      by_cases q : x = 1
      · rw [if_pos q]; simp only [q, decide_true] at H'; exact H'
      · rw [if_neg q]; simp only [q, decide_false] at H'; exact H'
  · intro i hi ih h' fr rp
    obtain ⟨t2, c2⟩ := sp_cks_le hck (N - (i + 1)) (by omega)
    rw [show N - (N - (i + 1)) = i + 1 by omega] at c2
    obtain ⟨ty, c1, c3⟩ := sp_cksE c2
    have hlen := sp_run_len (w := w) i _ c1
    have h64 := sp_cks_64 i _ c1
    have htd := sp_run_ty hsm i _ c1
    have e2 : sp_run w C (i + 1) = sp_st w (C i) (sp_run w C i) := rfl
    have eX : mv_I h' x1 = mv_I h x1 := fr.I x1 (fun _ => mv_bne hx)
    have e87 : mv_I h' 87 = mv_I h 87 := fr.I 87 (fun _ => rfl)
    have e88 : mv_I h' 88 = mv_I h 88 := fr.I 88 (fun _ => rfl)
    have e56 : ∀ z, pf56 h' z = pf56 h z := by intro z; unfold pf56; rw [e87, e88]
    rw [e2] at ih
    generalize sp_run w C i = st at rp hlen ih htd
    apply sg54_4
    rw [fr.K E x1, hK, nI_clamp (n := i) (by omega), eX, hC i hi, nI_1, nI_1]
    refine mv_gdI rfl ?_
    refine mx_ltT i N hi ?_ (by omega)
    refine mv_gdI (mx_inT i hi (by omega)) ?_
    have st1 : ∀ (x : Int32), st.length < 64 → (∀ h'', mx_fr mx_s93 h h'' → sp_rep (mv_I h'' 93) (x :: st) → mv_VE E (D + 1) k n 54 4 [some (.ref 87), some (.ref x1), some (.int (nI (x :: st).length)), some (.int (nI (i + 1))), none] [] h'' Q) → mv_gd (true && mv_in (nI st.length) 64) (mv_VE E (D + 1) k n 54 4 [some (.ref 87), some (.ref x1), some (.int (nI (st.length + 1))), some (.int (nI (i + 1))), none] [] (mv_sI h' 93 (nI st.length).toNatClampNeg x) Q) := by
      intro x hx q
      refine mv_gdI (mx_inT st.length (by omega) (by omega)) ?_
      rw [nI_clamp (by omega)]
      refine q _ (fr.tr (mx_fr.sI rfl)) ⟨by rw [mx_upI, if_pos ⟨rfl, rfl⟩], sp_rep_of st (fun j hj => by rw [mx_upI, if_neg (by omega)]) rp⟩
    unfold sp_st at ih
    rcases sp_ckE c3 with ⟨h1, hn, rfl⟩ | ⟨j, h1, hj, hj2, hn, rfl⟩ | ⟨h1, r, rfl, rfl⟩ | h1
    · rw [if_pos h1] at ih
      have et : cr_tr (C i) = C i := by unfold cr_tr; rw [if_pos h1]
      rw [et]
      refine mx_eqF (C i) 1142 (by omega) ?_ (by omega) (by omega)
      rw [cr_num (C i) h1, if_neg (by decide)]
      refine mx_ltT st.length 64 (by omega) ?_ (by omega)
      refine mx_ltT (C i) 1000 (by omega) ?_ (by omega)
      exact st1 _ (by omega) ih
    · rw [if_neg (by omega), if_pos (by omega), show C i - 1000 = j by omega] at ih
      obtain ⟨a1, a2, a3, a4, a5⟩ := cr_atm j hj
      rw [h1]
      refine mx_eqF (cr_tr (1000 + j)) 1142 a5 ?_ (by omega) (by omega)
      rw [a1, if_neg (by decide)]
      refine mx_ltT st.length 64 (by omega) ?_ (by omega)
      refine mx_ltF (cr_tr (1000 + j)) 1000 a3 ?_ (by omega)
      rw [a2, e56, hw j hj2]
      exact st1 _ (by omega) ih
    · rw [if_neg (by omega), if_neg (by omega), if_pos h1] at ih
      rw [h1]
      refine mx_eqT 1142 1142 rfl ?_
      match st, hlen, rp, ih with
      | a :: s, hlen, rp, ih =>
        have hs : s.length < 64 := by
          simp only [List.length_cons] at hlen h64
          omega
        rw [List.length_cons, nI_pred]
        refine mx_ltT 0 (s.length + 1) (by omega) ?_ (by omega)
        refine mv_gdI (mx_inT s.length (by omega) (by omega)) ?_
        refine mv_gdI (mx_inT s.length (by omega) (by omega)) ?_
        rw [nI_clamp (by omega), rp.1]
        exact ih _ (fr.tr (mx_fr.sI rfl)) ⟨by rw [mx_upI, if_pos ⟨rfl, rfl⟩], sp_rep_of s (fun j hj => by rw [mx_upI, if_neg (by omega)]) rp.2⟩
    · obtain ⟨ta, tb, r, e3, e4, hc⟩ : ∃ ta tb r, ty = ta :: ta :: r ∧ t2 = tb :: r ∧ (((3000 ≤ C i ∧ C i ≤ 3002) ∧ ta = false ∧ tb = false) ∨ ((3003 ≤ C i ∧ C i ≤ 3005) ∧ ta = false ∧ tb = true) ∨ ((C i = 3007 ∨ C i = 3008) ∧ ta = true ∧ tb = true)) := by
        rcases h1 with ⟨h1, r, rfl, rfl⟩ | ⟨h1, r, rfl, rfl⟩ | ⟨h1, r, rfl, rfl⟩
        · exact ⟨_, _, _, rfl, rfl, Or.inl ⟨h1, rfl, rfl⟩⟩
        · exact ⟨_, _, _, rfl, rfl, Or.inr (Or.inl ⟨h1, rfl, rfl⟩)⟩
        · exact ⟨_, _, _, rfl, rfl, Or.inr (Or.inr ⟨h1, rfl, rfl⟩)⟩
      subst e3; subst e4
      rw [if_neg (by omega), if_neg (by omega), if_neg (by omega)] at ih
      obtain ⟨b1, b2, b3⟩ := cr_bin (C i) (by omega) (by omega) (by omega)
      refine mx_eqF (cr_tr (C i)) 1142 b2 ?_ (by omega) (by omega)
      rw [if_pos b1]
      match st, hlen, rp, ih, htd with
      | [x], hlen, rp, ih, htd => simp at hlen
      | x :: y :: s, hlen, rp, ih, htd =>
        have hs2 : s.length + 1 < 64 := by
          simp only [List.length_cons] at hlen h64
          omega
        rw [List.length_cons, List.length_cons, pk_m1, nI_pred]
        refine mx_ltT 1 (s.length + 1 + 1) (by omega) ?_ (by omega)
        refine mv_gdI (mx_inT s.length (by omega) (by omega)) ?_
        refine mv_gdI (mx_inT (s.length + 1) (by omega) (by omega)) ?_
        refine mv_gdI (mx_inT s.length (by omega) (by omega)) ?_
        have r1 : mv_I h' 93 (s.length + 1) = x := rp.1
        have r2 : mv_I h' 93 s.length = y := rp.2.1
        rw [nI_clamp (by omega), nI_clamp (by omega), r1, r2, (sp_opE hc htd.2.1 htd.1).1]
        exact ih _ (fr.tr (mx_fr.sI rfl)) ⟨by rw [mx_upI, if_pos ⟨rfl, rfl⟩], sp_rep_of s (fun j hj => by rw [mx_upI, if_neg (by omega)]) rp.2.2⟩
