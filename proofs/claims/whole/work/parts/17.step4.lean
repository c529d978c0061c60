/-! One instruction: what is made, what was there before, library members that are one step. -/
theorem mv_kinds {E : mv_E} {h : mv_H} {H : Heap} (r : mv_Rep E h H) (a : Nat) : (mv_K h a).1 ≤ 26 ∨ (mv_K h a).1 = 99 ∨ (∃ i, i < 23 ∧ a = 1 + i ∧ mv_K h a = (30, 2)) ∨ (∃ i, i < 23 ∧ a = 24 + i ∧ mv_K h a = (31, mv_len.getD i 0)) ∨ (a = 47 ∧ mv_K h a = (32, 9)) ∨ (a = 48 ∧ mv_K h a = (33, mv_sl E)) ∨ (a = 49 ∧ mv_K h a = (34, 0)) := by
  obtain ⟨h1, h2, h3, h4, ⟨b0, b1, b2, b3⟩, b4, b5, b6⟩ := r
  rcases Nat.lt_or_ge a 50 with q | q
  · rcases Nat.lt_or_ge a 1 with q1 | q1
    · right; left; rw [show a = 0 by omega, b0]
    rcases Nat.lt_or_ge a 24 with q2 | q2
    · right; right; left
      refine ⟨a - 1, by omega, by omega, ?_⟩
      have := (b4 (a - 1) (by omega)).1
      rwa [show 1 + (a - 1) = a by omega] at this
    rcases Nat.lt_or_ge a 47 with q3 | q3
    · right; right; right; left
      refine ⟨a - 24, by omega, by omega, ?_⟩
      have := (b4 (a - 24) (by omega)).2.2.2.1
      rwa [show 24 + (a - 24) = a by omega] at this
    rcases (show a = 47 ∨ a = 48 ∨ a = 49 by omega) with rfl | rfl | rfl
    · right; right; right; right; left; exact ⟨rfl, b1⟩
    · right; right; right; right; right; left; exact ⟨rfl, b2⟩
    · right; right; right; right; right; right; exact ⟨rfl, b3⟩
  · rcases Nat.lt_or_ge a h.1 with q1 | q1
    · left
      rcases (h3 a q q1).2 with g | g
      · omega
      · exact g.2.1
    · right; left; rw [h4 a q1]
theorem mv_str {E : mv_E} {h : mv_H} {H : Heap} {a : Nat} (r : mv_Rep E h H) (hk : (mv_K h a).1 = 30) : ∃ i, i < 23 ∧ a = 1 + i := by
  rcases mv_kinds r a with g | g | ⟨i, g1, g2, g⟩ | ⟨i, g1, g2, g⟩ | ⟨g1, g⟩ | ⟨g1, g⟩ | ⟨g1, g⟩ <;> first | exact ⟨i, g1, g2⟩ | omega | (rw [g] at hk; simp at hk)
theorem mv_byts {E : mv_E} {h : mv_H} {H : Heap} {a : Nat} (r : mv_Rep E h H) (hk : (mv_K h a).1 = 31) : ∃ i, i < 23 ∧ a = 24 + i ∧ mv_K h a = (31, mv_len.getD i 0) := by
  rcases mv_kinds r a with g | g | ⟨i, g1, g2, g⟩ | ⟨i, g1, g2, g⟩ | ⟨g1, g⟩ | ⟨g1, g⟩ | ⟨g1, g⟩ <;> first | exact ⟨i, g1, g2, g⟩ | omega | (rw [g] at hk; simp at hk)
theorem mv_ords {E : mv_E} {h : mv_H} {H : Heap} {a : Nat} (r : mv_Rep E h H) (hk : (mv_K h a).1 = 32) : a = 47 ∧ mv_K h a = (32, 9) := by
  rcases mv_kinds r a with g | g | ⟨i, g1, g2, g⟩ | ⟨i, g1, g2, g⟩ | ⟨g1, g⟩ | ⟨g1, g⟩ | ⟨g1, g⟩ <;> first | exact ⟨g1, g⟩ | omega | (rw [g] at hk; simp at hk)
theorem mv_scr {E : mv_E} {h : mv_H} {H : Heap} {a : Nat} (r : mv_Rep E h H) (hk : (mv_K h a).1 = 33) : a = 48 ∧ mv_K h a = (33, mv_sl E) := by
  rcases mv_kinds r a with g | g | ⟨i, g1, g2, g⟩ | ⟨i, g1, g2, g⟩ | ⟨g1, g⟩ | ⟨g1, g⟩ | ⟨g1, g⟩ <;> first | exact ⟨g1, g⟩ | omega | (rw [g] at hk; simp at hk)
theorem mv_rfl {E : mv_E} {a : Nat} (h1 : 1 ≤ a) (h2 : a < 49) : mv_v E (.ref a) = .ref (mv_bk E a) := by
  show va_rf (mv_ad E a) = _
  unfold mv_ad
  rw [if_neg (by omega), if_neg (by omega), if_neg (by omega)]
  rfl
theorem mv_wd_sum {E : mv_E} : ∀ st : List Value, mv_wd st ≤ 99 → ((st.map (mv_v E)).map fun v => v.category).sum = mv_wd st
  | [], _ => rfl
  | v :: r, hw => by
    cases v with
    | int x => simp only [mv_wd] at hw; have := mv_wd_sum (E := E) r (by omega); simp only [List.map_cons, List.sum_cons, this, mv_wd, mv_v_cat]; simp [Value.category]; omega
    | ref x => simp only [mv_wd] at hw; have := mv_wd_sum (E := E) r (by omega); simp only [List.map_cons, List.sum_cons, this, mv_wd, mv_v_cat]; simp [Value.category]; omega
    | long x => simp only [mv_wd] at hw; have := mv_wd_sum (E := E) r (by omega); simp only [List.map_cons, List.sum_cons, this, mv_wd, mv_v_cat]; simp [Value.category]; omega
    | _ => simp [mv_wd] at hw
set_option maxRecDepth 100000 in
theorem mv_okN1 : ∀ ci, ci < 12 → ∃ e ∈ mv_tN, e.1 = ci := by decide +kernel
theorem mv_k3_inv {m q x : Nat} {l : List (Nat × Nat × Nat × Nat)} (h : mv_k3 m q x l = true) : ∃ e ∈ l, e.1 = mv_ow m ∧ e.2.1 = q ∧ e.2.2.1 = x := by
  obtain ⟨e, he, h⟩ := List.any_eq_true.mp h
  simp only [Bool.and_eq_true] at h
  exact ⟨e, he, mv_bq h.1, mv_bq h.2.1, mv_bq h.2.2⟩
theorem mv_okm_inv {m : Nat} (h : mv_okm m = true) : Cond.code (mv_y m) (mv_cc m) (mv_ml m) (mv_rt m) ∈ mv_gw ∧ Cond.initialized (mv_y m).cls ∈ mv_gw ∧ ((mv_y m).cls ≠ "java/lang/invoke/MethodHandle" ∧ (mv_y m).cls ≠ "java/lang/invoke/VarHandle") ∧ mv_ml m ≤ 45 ∧ (plainName (mv_y m).cls = true ∨ m = 307 ∨ m = 308) ∧ (((mv_pl m).2.2.2.2 = 1 ∧ Cond.static (mv_y m) ∈ mv_gw) ∨ (¬ (mv_pl m).2.2.2.2 = 1 ∧ Cond.instanceMethod (mv_y m) ∈ mv_gw ∧ ((mv_y m).name = "<init>" ∨ Cond.selects (mv_y m).cls (mv_y m) (mv_y m) ∈ mv_gw))) := by
  unfold mv_okm at h
  simp only [Bool.and_eq_true, decide_eq_true_eq, Bool.or_eq_true] at h
  obtain ⟨⟨⟨⟨⟨h1, h2⟩, h3⟩, h4⟩, h5⟩, h6⟩ := h
  refine ⟨mv_pg_in h1, mv_pg_in h2, h3, h4, ?_, ?_⟩
  · rcases h5 with (h5 | h5) | h5
    · exact Or.inl h5
    · exact Or.inr (Or.inl (mv_bq h5))
    · exact Or.inr (Or.inr (mv_bq h5))
  · by_cases hs : (mv_pl m).2.2.2.2 = 1
    · rw [if_pos hs, decide_eq_true_eq] at h6
      exact Or.inl ⟨hs, mv_pg_in h6⟩
    · rw [if_neg hs] at h6
      simp only [Bool.and_eq_true, decide_eq_true_eq, Bool.or_eq_true] at h6
      exact Or.inr ⟨hs, mv_pg_in h6.1, h6.2.imp id mv_pg_in⟩
theorem mv_iv_inv {m q c : Nat} (hm : m < 324) (h : mv_iv m q c = true) : c < 324 ∧ (Cond.methodLink (mv_y m).cls q (mv_y c) ∈ mv_gw ∨ Cond.methodLinkNest (mv_y m).cls q (mv_y c) "RaftHold" ∈ lw_tbl) := by
  obtain ⟨e, he, h⟩ := List.any_eq_true.mp h
  simp only [Bool.and_eq_true] at h
  obtain ⟨h1, h2, h3⟩ := h
  have h1 := mv_bq h1; have h2 := mv_bq h2; have h3 := mv_bq h3
  subst h2; subst h3
  obtain ⟨a1, a3⟩ := mv_okM e he
  refine ⟨a1, ?_⟩
  rw [h1, mv_okown m hm] at a3
  by_cases n : e.2.2.2.1 = 1
  · rw [if_pos n, if_pos n] at a3
    exact Or.inr (mv_pk_in a3)
  · rw [if_neg n, if_neg n] at a3
    exact Or.inl (mv_pg_in a3)
section
variable {E : mv_E} {D k n m pc : Nat} {ls : List (Option Value)} {st : List Value} {h : mv_H} {Q : mv_Q}
theorem mw_new {q ci : Nat} (hm : m < 324) (hl : mv_k3 m q ci mv_tC = true) (h1 : 1 ≤ k) (h2 : mv_nf ci ≤ n) (hd : decode (mv_cc m) pc = .ok (.new q, 3)) (hw : mv_W E D (k - 1) (n - mv_nf ci) m (pc + 3) ls (.ref h.1 :: st) (mv_new h ci (mv_nf ci)) Q) : mv_W E D k n m pc ls st h Q := by
  intro p l e R s mi args below meth c H locs cells slots Z mc ms Ls X Y d1 d2 c1 c2 c3 c4 F
  obtain ⟨x, hx, x1, x2, x3⟩ := mv_k3_inv hl
  subst x2; subst x3
  obtain ⟨hc, hcl⟩ := mv_okC x hx
  rw [x1, mv_okown m hm] at hcl
  obtain ⟨y, hy, y1⟩ := mv_okN1 _ hc
  obtain ⟨hin, hini⟩ := mv_okN y hy
  rw [y1] at hin hini
  have hKn := X.bs.1.1 x.2.2.1 _ (mv_cl_at hc)
  have hsz := Y.2.1.2.1
  have h50 := Y.2.1.1
  refine W.newcK X.1 X.2.1 X.own (X.wd _ (mv_pg_in hcl)) (X.wd _ (mv_pg_in hin)) (X.wd _ (mv_pg_in hini)) rfl hd (by omega) (by omega) hKn.2.1 hsz fun H1 kC hkC e1 z1 o1 => ?_
  have w := hw p l e R s mi args below meth c H1 locs (cells + 1) (slots + mv_nf x.2.2.1) Z mc ms Ls X ⟨⟨Nat.le_trans Y.1.1 (by omega), fun x g1 g2 => (o1 x (by have := Y.1.1; omega)).trans (Y.1.2.1 x g1 g2), Y.1.2.2⟩, Y.2.1.grow (Or.inl ⟨hc, rfl⟩) ?_ (by omega) (fun q hq => o1 q (by omega)), Y.2.2.1, Y.2.2.2⟩ d1 d2 (by omega) (by omega) c3 c4 F
  · have e : mv_v E (.ref h.1) = .ref (mv_sz E + (h.1 - 50)) := mv_rfh h50
    have w : W p l _ R s mi args below meth c H1 locs (cells + 1) (slots + mv_nf x.2.2.1) Z (F0 mi (pc + 3) Ls (mv_v E (.ref h.1) :: st.map (mv_v E))) := w
    rw [e] at w
    exact w
  · unfold mv_at
    have ce : mv_cell E (mv_new h x.2.2.1 (mv_nf x.2.2.1)) h.1 = .inr (x.2.2.1, (List.range (mv_nf x.2.2.1)).map (mv_fv E (mv_new h x.2.2.1 (mv_nf x.2.2.1)) x.2.2.1 h.1)) := by
      unfold mv_cell
      have : mv_K (mv_new h x.2.2.1 (mv_nf x.2.2.1)) h.1 = (x.2.2.1, mv_nf x.2.2.1) := by show cond (Nat.beq h.1 h.1) _ _ = _; rw [mv_beq]; rfl
      rw [this, if_pos (by show x.2.2.1 < 20; omega)]
    rw [ce]
    refine ⟨_, mv_cl_at hc, (u_born (mv_fty x.2.2.1) X.wd (mv_lays hc) hKn hkC e1 (fun k hk => (mv_okT _ hc k hk).1)).to (fun j hj => ?_)⟩
    have g := mv_okT _ hc j hj
    have e2 : vp_V ((List.range (mv_nf x.2.2.1)).map (mv_fv E (mv_new h x.2.2.1 (mv_nf x.2.2.1)) x.2.2.1 h.1)) j = mv_fv E (mv_new h x.2.2.1 (mv_nf x.2.2.1)) x.2.2.1 h.1 j := by
      have hj : j < mv_nf x.2.2.1 := hj
      unfold vp_V; simp [hj]
    rw [e2]
    unfold mv_fv
    have eR : mv_R (mv_new h x.2.2.1 (mv_nf x.2.2.1)) h.1 j = 0 := by show mv_row (mv_R h) h.1 (fun _ => 0) h.1 j = 0; rw [mv_row_self]
    have eI : mv_I (mv_new h x.2.2.1 (mv_nf x.2.2.1)) h.1 j = 0 := by show mv_row (mv_I h) h.1 (fun _ => 0) h.1 j = 0; rw [mv_row_self]
    rw [eR, eI]
    rcases g.2.2.1 with g1 | g1 | g1
    · rw [if_neg (by omega)]; unfold mv_fty; rw [g1]; rfl
    · rw [if_pos g1]
      have hn := g.2.2.2 g1
      have e0 : mv_ad E 0 = none := rfl
      rw [e0]
      cases q : mv_fty x.2.2.1 j <;> rw [q] at hn <;> simp [fits] at hn <;> rfl
    · rw [if_neg (by omega)]; unfold mv_fty; rw [g1]; rfl
theorem mw_newarray {a : ArrayType} {x : Int32} (ha : a = .int ∨ a = .byte ∨ a = .long ∨ a = .boolean) (h1 : 1 ≤ k) (hi : mv_in x 10000 = true) (h2 : x.toNatClampNeg ≤ n) (hd : decode (mv_cc m) pc = .ok (.newarray a, 2)) (hw : mv_W E D (k - 1) (n - x.toNatClampNeg) m (pc + 2) ls (.ref h.1 :: st) (mv_new h (mv_ak a) x.toNatClampNeg) Q) : mv_W E D k n m pc ls (.int x :: st) h Q := by
  intro p l e R s mi args below meth c H locs cells slots Z mc ms Ls X Y d1 d2 c1 c2 c3 c4 F
  have hsz := Y.2.1.2.1
  have h50 := Y.2.1.1
  have hN := (mv_in_vp hi).2
  have hn0 : ¬ x < 0 := fun q => (mv_in_vp hi).1 (Or.inl q)
  have hak : 20 ≤ mv_ak a ∧ mv_ak a ≤ 23 ∧ mv_ty (mv_ak a) = newarray.typeOf a ∧ Cond.arrayClass (newarray.typeOf a) ∈ mv_gw ∧ componentBytes (newarray.typeOf a) ≤ 8 := by
    have g := mv_okX.1
    rcases ha with rfl | rfl | rfl | rfl
    · exact ⟨by decide, by decide, rfl, mv_pg_in g.1, by decide⟩
    · exact ⟨by decide, by decide, rfl, mv_pg_in g.2.1, by decide⟩
    · exact ⟨by decide, by decide, rfl, mv_pg_in g.2.2.1, by decide⟩
    · exact ⟨by decide, by decide, rfl, mv_pg_in g.2.2.2, by decide⟩
  obtain ⟨k1, k2, k3, k4, k5⟩ := hak
  have hRA := (X.bs.1.2 _ _ (mv_tys_at (E := E) k1 (by omega))).2
  have hfA : s.vm.findClass ("[" ++ (newarray.typeOf a).toString) = some (mv_cA E (mv_ak a)) := by
    rw [← k3]
    rcases ha with rfl | rfl | rfl | rfl <;> exact hRA
  refine va_newaK X.1 X.2.1 (X.wd _ k4) rfl hd rfl hn0 rfl (by have := Nat.mul_le_mul (Nat.le_of_lt hN) k5; omega) (by omega) (by omega) hsz fun H1 cA e1 z1 o1 hAr hNm => ?_
  have hcA : cA = mv_cA E (mv_ak a) := Option.some.inj (hNm.symm.trans hfA)
  subst hcA
  have w := hw p l e R s mi args below meth c H1 locs (cells + 1) (slots + x.toNatClampNeg) Z mc ms Ls X ⟨⟨Nat.le_trans Y.1.1 (by omega), fun x g1 g2 => (o1 x (by have := Y.1.1; omega)).trans (Y.1.2.1 x g1 g2), Y.1.2.2⟩, Y.2.1.grow (Or.inr ⟨k1, Nat.le_trans k2 (by decide), by show x.toNatClampNeg < 10001; omega⟩) ?_ (by omega) (fun q hq => o1 q (by omega)), Y.2.2.1, Y.2.2.2⟩ d1 d2 (by omega) (by omega) c3 c4 F
  · have e : mv_v E (.ref h.1) = .ref (mv_sz E + (h.1 - 50)) := mv_rfh h50
    have w : W p l _ R s mi args below meth c H1 locs (cells + 1) (slots + x.toNatClampNeg) Z (F0 mi (pc + 2) Ls (mv_v E (.ref h.1) :: st.map (mv_v E))) := w
    rw [e] at w
    exact w
  · unfold mv_at mv_cell
    have eK : mv_K (mv_new h (mv_ak a) x.toNatClampNeg) h.1 = (mv_ak a, x.toNatClampNeg) := by show cond (Nat.beq h.1 h.1) _ _ = _; rw [mv_beq]; rfl
    rw [eK, if_neg (by show ¬ mv_ak a < 20; omega)]
    show H1[mv_sz E + (h.1 - 50)]? = some (vp_cell _ (_, mv_arr E _ (mv_ak a) h.1))
    rw [e1]
    have eI : mv_I (mv_new h (mv_ak a) x.toNatClampNeg) h.1 = fun _ => 0 := by show mv_row _ h.1 _ h.1 = _; rw [mv_row_self]
    have eJ : mv_J (mv_new h (mv_ak a) x.toNatClampNeg) h.1 = fun _ => 0 := by show mv_row _ h.1 _ h.1 = _; rw [mv_row_self]
    unfold mv_arr
    rw [eI, eJ]
    rcases ha with rfl | rfl | rfl | rfl <;> rfl
theorem mw_anew {q kd : Nat} {x : Int32} (hm : m < 324) (hl : mv_k3 m q kd mv_tA = true) (h1 : 1 ≤ k) (hi : mv_in x 10000 = true) (h2 : x.toNatClampNeg ≤ n) (hd : decode (mv_cc m) pc = .ok (.anewarray q, 3)) (hw : mv_W E D (k - 1) (n - x.toNatClampNeg) m (pc + 3) ls (.ref h.1 :: st) (mv_new h kd x.toNatClampNeg) Q) : mv_W E D k n m pc ls (.int x :: st) h Q := by
  intro p l e R s mi args below meth c H locs cells slots Z mc ms Ls X Y d1 d2 c1 c2 c3 c4 F
  have hsz := Y.2.1.2.1
  have h50 := Y.2.1.1
  have hN := (mv_in_vp hi).2
  have hn0 : ¬ x < 0 := fun q => (mv_in_vp hi).1 (Or.inl q)
  obtain ⟨y, hy, y1, y2, y3⟩ := mv_k3_inv hl
  subst y2; subst y3
  obtain ⟨k1, k2, hcl⟩ := mv_okA y hy
  rw [y1, mv_okown m hm] at hcl
  have hty : mv_ty y.2.2.1 = .object (mv_C (mv_el y.2.2.1)) ∧ va_AO (mv_C (mv_el y.2.2.1)) s := by
    have b := X.bs.2.2.2.2.2.2.2.2
    rcases (show y.2.2.1 = 24 ∨ y.2.2.1 = 25 ∨ y.2.2.1 = 26 by omega) with g | g | g <;> rw [g]
    · exact ⟨rfl, b.1⟩
    · exact ⟨rfl, b.2.1⟩
    · exact ⟨rfl, b.2.2⟩
  have ht := mv_tys_at (E := E) (kd := y.2.2.1) (by omega) (by omega)
  rw [hty.1] at ht
  obtain ⟨kA0, comp0, r1, r2, r3, r4⟩ := (X.bs.1.2 _ _ ht).2
  refine W.anew X.1 X.2.1 X.own (X.wd _ (mv_pg_in hcl)) (va_AO.use hty.2) rfl hd rfl hn0 (by show _ * 4 ≤ _; omega) (by omega) (by omega) fun cA kA comp f1 f2 f3 f4 => ?_
  have hcA : cA = mv_cA E y.2.2.1 := Option.some.inj (f1.symm.trans r4)
  subst hcA
  generalize hH1 : H.push ({ cls := mv_cA E y.2.2.1, slots := Array.replicate x.toNatClampNeg .null, vm := .none } : Cell) = H1
  have z1 : H1.size = H.size + 1 := by rw [← hH1, Array.size_push]
  have e1 : H1[H.size]? = some (arrV (mv_cA E y.2.2.1) x.toNatClampNeg (fun _ => .null)) := by rw [← hH1, Array.getElem?_push_size, ← arrV_new]
  have o1 : ∀ q : Nat, q < H.size → H1[q]? = H[q]? := fun q hq => by rw [← hH1, Array.getElem?_push, if_neg (Nat.ne_of_lt hq)]
  have w := hw p l e R s mi args below meth c H1 locs (cells + 1) (slots + x.toNatClampNeg) Z mc ms Ls X ⟨⟨Nat.le_trans Y.1.1 (by omega), fun x g1 g2 => (o1 x (by have := Y.1.1; omega)).trans (Y.1.2.1 x g1 g2), Y.1.2.2⟩, Y.2.1.grow (Or.inr ⟨by show 20 ≤ y.2.2.1; omega, k2, by show x.toNatClampNeg < 10001; omega⟩) ?_ z1 o1, Y.2.2.1, Y.2.2.2⟩ d1 d2 (by omega) (by omega) c3 c4 F
  · have e : mv_v E (.ref h.1) = .ref (mv_sz E + (h.1 - 50)) := mv_rfh h50
    have w : W p l _ R s mi args below meth c H1 locs (cells + 1) (slots + x.toNatClampNeg) Z (F0 mi (pc + 3) Ls (mv_v E (.ref h.1) :: st.map (mv_v E))) := w
    rw [e, ← hsz] at w
    exact w
  · unfold mv_at mv_cell
    have eK : mv_K (mv_new h y.2.2.1 x.toNatClampNeg) h.1 = (y.2.2.1, x.toNatClampNeg) := by show cond (Nat.beq h.1 h.1) _ _ = _; rw [mv_beq]; rfl
    rw [eK, if_neg (by show ¬ y.2.2.1 < 20; omega)]
    show H1[mv_sz E + (h.1 - 50)]? = some (vp_cell _ (_, mv_arr E _ y.2.2.1 h.1))
    rw [← hsz, e1]
    have eR : mv_R (mv_new h y.2.2.1 x.toNatClampNeg) h.1 = fun _ => 0 := by show mv_row _ h.1 _ h.1 = _; rw [mv_row_self]
    unfold mv_arr
    rw [if_neg (by omega), if_pos k1, eR]
    rfl
end
