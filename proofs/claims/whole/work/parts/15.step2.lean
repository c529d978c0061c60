/-! One instruction: cells. -/
theorem mv_Cx.own {E : mv_E} {m : Nat} {p : Program} {s : State} {mi : MethodId} {args : Array Value} {meth : Method} {c : Code} (X : mv_Cx E m p s mi args meth c) : s.vm.findClass (mv_y m).cls = some mi.cls := X.2.2.2.2.2.1
theorem mv_Cx.wd {E : mv_E} {m : Nat} {p : Program} {s : State} {mi : MethodId} {args : Array Value} {meth : Method} {c : Code} (X : mv_Cx E m p s mi args meth c) : ∀ w ∈ mv_gw, w.before args s = true := X.2.2.2.2.2.2.1
theorem mv_Cx.nm {E : mv_E} {m : Nat} {p : Program} {s : State} {mi : MethodId} {args : Array Value} {meth : Method} {c : Code} (X : mv_Cx E m p s mi args meth c) : meth.name = (mv_y m).name := X.2.2.2.2.2.2.2.1
theorem mv_Cx.bs {E : mv_E} {m : Nat} {p : Program} {s : State} {mi : MethodId} {args : Array Value} {meth : Method} {c : Code} (X : mv_Cx E m p s mi args meth c) : mv_Base E s := X.2.2.2.2.2.2.2.2
theorem mv_Cx.ml {E : mv_E} {m : Nat} {p : Program} {s : State} {mi : MethodId} {args : Array Value} {meth : Method} {c : Code} (X : mv_Cx E m p s mi args meth c) : c.maxLocals = mv_ml m := X.2.2.2.2.1
set_option maxRecDepth 100000 in
theorem mv_okown : ∀ m, m < 324 → mv_On.getD (mv_ow m) "" = (mv_y m).cls := by decide +kernel
set_option maxRecDepth 100000 in
theorem mv_okL1 : ∀ ci, ci < 12 → ∀ k, k < mv_nf ci → mv_pg ((mv_tL.getD ci []).getD k 0) = some (mv_lay ci k) := by decide +kernel
theorem mv_lays {ci : Nat} (hc : ci < 12) : ∀ w ∈ u_ws (mv_C ci) (mv_F ci) (mv_nf ci), w ∈ mv_gw := by
  intro w hw
  obtain ⟨k, hk, rfl⟩ := List.mem_map.mp hw
  exact mv_pg_in (mv_okL1 ci hc k (List.mem_range.mp hk))
theorem mv_bq {a b : Nat} (h : Nat.beq a b = true) : a = b := Nat.eq_of_beq_eq_true h
theorem mv_fl_inv {m q ci f : Nat} (hm : m < 324) (h : mv_fl m q ci f = true) : ci < 12 ∧ f < mv_nf ci ∧ (Cond.fieldLink (mv_y m).cls q (mv_C ci) (mv_F ci f).2.1 (mv_F ci f).2.2.1 ∈ mv_gw ∨ Cond.fieldLinkNest (mv_y m).cls q (mv_C ci) (mv_F ci f).2.1 (mv_F ci f).2.2.1 "RaftHold" ∈ lw_tbl) := by
  obtain ⟨e, he, h⟩ := List.any_eq_true.mp h
  simp only [Bool.and_eq_true] at h
  obtain ⟨h1, h2, h3, h4⟩ := h
  have h1 := mv_bq h1; have h2 := mv_bq h2; have h3 := mv_bq h3; have h4 := mv_bq h4
  subst h2; subst h3; subst h4
  obtain ⟨a1, a2, a3⟩ := mv_okF e he
  refine ⟨a1, a2, ?_⟩
  rw [h1, mv_okown m hm] at a3
  by_cases n : e.2.2.2.2.1 = 1
  · rw [if_pos n, if_pos n] at a3
    exact Or.inr (mv_pk_in a3)
  · rw [if_neg n, if_neg n] at a3
    exact Or.inl (mv_pg_in a3)
theorem mv_fp_inv {m q ci f : Nat} (hm : m < 324) (h : mv_fp m q ci f = true) : ci < 12 ∧ f < mv_nf ci ∧ (((mv_F ci f).2.2.2 = false ∧ (Cond.fieldLink (mv_y m).cls q (mv_C ci) (mv_F ci f).2.1 (mv_F ci f).2.2.1 ∈ mv_gw ∨ Cond.fieldLinkNest (mv_y m).cls q (mv_C ci) (mv_F ci f).2.1 (mv_F ci f).2.2.1 "RaftHold" ∈ lw_tbl)) ∨ ((mv_F ci f).2.2.2 = true ∧ (mv_y m).name = "<init>" ∧ (mv_F ci f).1 = (mv_y m).cls ∧ Cond.fieldLink (mv_y m).cls q (mv_C ci) (mv_F ci f).2.1 (mv_F ci f).2.2.1 ∈ mv_gw)) := by
  obtain ⟨e, he, h⟩ := List.any_eq_true.mp h
  simp only [Bool.and_eq_true] at h
  obtain ⟨h1, h2, h3, h4, h5⟩ := h
  have h1 := mv_bq h1; have h2 := mv_bq h2; have h3 := mv_bq h3; have h4 := mv_bq h4
  subst h2; subst h3; subst h4
  obtain ⟨a1, a2, a3⟩ := mv_okF e he
  refine ⟨a1, a2, ?_⟩
  rw [h1, mv_okown m hm] at a3
  cases hf : (mv_F e.2.2.1 e.2.2.2.1).2.2.2 with
  | false =>
    refine Or.inl ⟨rfl, ?_⟩
    by_cases n : e.2.2.2.2.1 = 1
    · rw [if_pos n, if_pos n] at a3
      exact Or.inr (mv_pk_in a3)
    · rw [if_neg n, if_neg n] at a3
      exact Or.inl (mv_pg_in a3)
  | true =>
    rw [hf] at h5
    simp only [Bool.not_true, Bool.false_or, Bool.and_eq_true, decide_eq_true_eq, Bool.not_eq_true'] at h5
    have n : ¬ e.2.2.2.2.1 = 1 := fun z => by rw [z] at h5; exact absurd h5.1 (by decide)
    rw [if_neg n, if_neg n] at a3
    exact Or.inr ⟨rfl, h5.2.1, h5.2.2, mv_pg_in a3⟩
theorem mv_P1 {D : va_G} {cl : List vw_C} {q : Nat × va_E} {H : Heap} (h : va_at D cl q H) : va_P D cl [q] H := by
  intro k x hx
  cases k with
  | zero => cases hx; exact h
  | succ k => cases hx
theorem mv_obj {E : mv_E} {h : mv_H} {H : Heap} {a ci : Nat} (r : mv_Rep E h H) (hk : (mv_K h a).1 = ci) (hc : ci < 12) : 50 ≤ a ∧ a < h.1 ∧ mv_cell E h a = .inr (ci, (List.range (mv_nf ci)).map (mv_fv E h ci a)) ∧ va_at E.1 mv_cl (mv_sz E + (a - 50), .inr (ci, (List.range (mv_nf ci)).map (mv_fv E h ci a))) H := by
  obtain ⟨a1, a2⟩ := r.lt (a := a) (by omega)
  obtain ⟨g1, g2⟩ := r.2.2.1 a a1 a2
  have e : mv_cell E h a = .inr (ci, (List.range (mv_nf ci)).map (mv_fv E h ci a)) := by
    unfold mv_cell
    rw [if_pos (by omega)]
    rcases g2 with g2 | g2
    · rw [g2.2, hk]
    · omega
  refine ⟨a1, a2, e, ?_⟩
  unfold mv_at at g1
  rw [e] at g1
  exact g1
theorem mv_ary {E : mv_E} {h : mv_H} {H : Heap} {a kd : Nat} (r : mv_Rep E h H) (hk : (mv_K h a).1 = kd) (h1 : 20 ≤ kd) (h2 : kd ≤ 26) : 50 ≤ a ∧ a < h.1 ∧ (mv_K h a).2 < 10001 ∧ va_at E.1 mv_cl (mv_sz E + (a - 50), .inl (mv_cA E kd, (mv_K h a).2, mv_arr E h kd a)) H := by
  obtain ⟨a1, a2⟩ := r.lt (a := a) (by omega)
  obtain ⟨g1, g2⟩ := r.2.2.1 a a1 a2
  have e : mv_cell E h a = .inl (mv_cA E kd, (mv_K h a).2, mv_arr E h kd a) := by
    unfold mv_cell
    rw [if_neg (by omega), hk]
  refine ⟨a1, a2, ?_, ?_⟩
  · rcases g2 with g2 | g2
    · omega
    · exact g2.2.2
  · unfold mv_at at g1
    rw [e] at g1
    exact g1
theorem mv_rfh {E : mv_E} {a : Nat} (h : 50 ≤ a) : mv_v E (.ref a) = .ref (mv_sz E + (a - 50)) := by
  show va_rf (mv_ad E a) = _
  rw [mv_ad_hi h]; rfl
theorem mv_in_vp {i : Int32} {n : Nat} (h : mv_in i n = true) : vp_in i n ∧ i.toNatClampNeg < n := by
  unfold mv_in at h
  simp only [Bool.and_eq_true] at h
  have h1 := Nat.le_of_ble_eq_true h.1
  have h2 := Nat.le_of_ble_eq_true h.2
  have e : i.toInt = (i.toBitVec.toNat : Int) := by
    rw [← Int32.toInt_toBitVec, BitVec.toInt_eq_toNat_of_lt (by omega)]
  have q : 0 ≤ i.toInt ∧ i.toInt < n := by omega
  refine ⟨vp_in_iff.mpr q, ?_⟩
  show i.toInt.toNat < n
  omega
section
variable {E : mv_E} {D k n m pc : Nat} {ls : List (Option Value)} {st : List Value} {h : mv_H} {Q : mv_Q}
theorem mw_get {a q ci f : Nat} (hm : m < 324) (hl : mv_fl m q ci f = true) (hk : (mv_K h a).1 = ci) (hd : decode (mv_cc m) pc = .ok (.getfield q, 3)) (hw : mv_W E D k n m (pc + 3) ls ((if mv_ft ci f = 1 then .ref (mv_R h a f) else .int (mv_I h a f)) :: st) h Q) : mv_W E D k n m pc ls (.ref a :: st) h Q := by
  obtain ⟨hc, hf, hlink⟩ := mv_fl_inv hm hl
  refine mv_go (fun p l e R s mi args below meth c H locs cells slots Z Ls X Y w => ?_) hw
  obtain ⟨a1, a2, -, a3⟩ := mv_obj Y.2.1 hk hc
  have w : W p l e R s mi args below meth c H locs cells slots Z (F0 mi (pc + 3) Ls (mv_fv E h ci a f :: st.map (mv_v E))) := by
    have e : mv_v E (if mv_ft ci f = 1 then .ref (mv_R h a f) else .int (mv_I h a f)) = mv_fv E h ci a f := by unfold mv_fv; split <;> rfl
    rw [← e]; exact w
  show W p l e R s mi args below meth c H locs cells slots Z (F0 mi pc Ls (mv_v E (.ref a) :: st.map (mv_v E)))
  rw [mv_rfh a1]
  have hsame : ∀ x, s.fieldFound? (mv_F ci f).1 (mv_F ci f).2.1 (mv_F ci f).2.2.1 = some x → s.fieldFound? (mv_C ci) (mv_F ci f).2.1 (mv_F ci f).2.2.1 = some x := fun x hx => by rw [(mv_okT ci hc f hf).2.1] at hx; exact hx
  rcases hlink with hl | hl
  · exact va_get (D := E.1) (ci := ci) (C := mv_C ci) (T := mv_F ci) (N := mv_nf ci) (v := mv_fv E h ci a f) X.1 X.2.1 X.wd (mv_lays hc) X.own X.bs.1 (mv_P1 a3) 0 rfl (mv_cl_at hc) f hf (X.wd _ hl) hsame (by simp [hf]) hd w
  · exact va_getN (D := E.1) (ci := ci) (C := mv_C ci) (T := mv_F ci) (N := mv_nf ci) (v := mv_fv E h ci a f) X.1 X.2.1 X.wd (mv_lays hc) X.own X.bs.1 (mv_P1 a3) 0 rfl (mv_cl_at hc) f hf (va_Nw.use rfl (X.bs.2.2.2.2.2.2.2.1 _ hl rfl)) hsame (by simp [hf]) hd w
/-- a field is written -/
theorem mv_put_at {a ci f : Nat} {h1 : mv_H} {H H1 : Heap} {v : Value} (hK : mv_K h1 = mv_K h) (hk : (mv_K h a).1 = ci) (hc : ci < 12) (r : mv_Rep E h H) (hv : mv_fv E h1 ci a f = v) (ho : ∀ j, j ≠ f → mv_fv E h1 ci a j = mv_fv E h ci a j) (hq : va_at E.1 mv_cl (mv_sz E + (a - 50), .inr (ci, ((List.range (mv_nf ci)).map (mv_fv E h ci a)).set f v)) H1) : mv_at E h1 a H1 := by
  obtain ⟨a1, a2, e, -⟩ := mv_obj r hk hc
  have e1 : mv_cell E h1 a = .inr (ci, (List.range (mv_nf ci)).map (mv_fv E h1 ci a)) := by
    unfold mv_cell at e ⊢
    rw [hK]
    rw [if_pos (by omega)] at e ⊢
    have e := Sum.inr.inj e
    have e2 : (mv_K h a).2 = mv_nf ci := by
      have := congrArg (fun q => q.2.length) e
      simpa using this
    rw [e2, hk]
  unfold mv_at
  rw [e1]
  have e3 : (List.range (mv_nf ci)).map (mv_fv E h1 ci a) = ((List.range (mv_nf ci)).map (mv_fv E h ci a)).set f v := by
    apply List.ext_getElem?
    intro j
    rw [List.getElem?_set]
    by_cases hj : f = j
    · subst hj
      rw [if_pos rfl]
      by_cases hl : f < mv_nf ci
      · simp [hl, hv]
      · simp [hl]
    · rw [if_neg hj]
      by_cases hl : j < mv_nf ci
      · simp [hl, ho j (Ne.symm hj)]
      · simp [hl]
  rw [e3]
  exact hq
end
