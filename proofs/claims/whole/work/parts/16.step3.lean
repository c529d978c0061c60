/-! One instruction: cells that are written, made, copied. -/
section
variable {E : mv_E} {D k n m pc : Nat} {ls : List (Option Value)} {st : List Value} {h : mv_H} {Q : mv_Q}
theorem mw_put {a q ci f : Nat} {v : Value} {h1 : mv_H} (hm : m < 324) (hl : mv_fp m q ci f = true) (hk : (mv_K h a).1 = ci) (hna : narrow (mv_fty ci f) (mv_v E v) = mv_v E v) (hfit : fits (mv_fty ci f) (mv_v E v) = true) (hn : h1.1 = h.1) (hK : mv_K h1 = mv_K h) (hv : mv_fv E h1 ci a f = mv_v E v) (ho : ∀ j, j ≠ f → mv_fv E h1 ci a j = mv_fv E h ci a j)
    (hb : ∀ b, b ≠ a → mv_I h1 b = mv_I h b ∧ mv_J h1 b = mv_J h b ∧ mv_R h1 b = mv_R h b) (hd : decode (mv_cc m) pc = .ok (.putfield q, 3)) (hw : mv_W E D k n m (pc + 3) ls st h1 Q) : mv_W E D k n m pc ls (v :: .ref a :: st) h Q := by
  intro p l e R s mi args below meth c H locs cells slots Z mc ms Ls X Y d1 d2 c1 c2 c3 c4 F
  obtain ⟨hc, hf, hcase⟩ := mv_fp_inv hm hl
  obtain ⟨a1, a2, -, a3⟩ := mv_obj Y.2.1 hk hc
  have hA : mv_A E (mv_sz E + (a - 50)) := by unfold mv_A; omega
  show W p l e R s mi args below meth c H locs cells slots Z (F0 mi pc Ls (mv_v E v :: mv_v E (.ref a) :: st.map (mv_v E)))
  rw [mv_rfh a1]
  have fin : ∀ (H1 : Heap) (j : Nat), va_at E.1 mv_cl (mv_sz E + (a - 50), .inr (ci, ((List.range (mv_nf ci)).map (mv_fv E h ci a)).set f (mv_v E v))) H1 → H1.size = H.size → (∀ q : Nat, q ≠ mv_sz E + (a - 50) → H1[q]? = H[q]?) → W p l e R s mi args below meth c H1 (locs ++ [⟨mv_sz E + (a - 50), j⟩]) cells slots Z (F0 mi (pc + 3) Ls (st.map (mv_v E))) := fun H1 j g1 g2 g3 =>
    hw p l e R s mi args below meth c H1 _ cells slots Z mc ms Ls X ⟨Y.1.put g2 g3 hA, Y.2.1.put a1 a2 hn hK hb (mv_put_at hK hk hc Y.2.1 hv ho g1) g2 g3, Y.2.2.1, Y.2.2.2⟩ d1 d2 c1 c2 c3 c4 F
  have hty : ∀ k, k < mv_nf ci → parseFieldDescriptor (mv_F ci k).2.2.1 = some (mv_fty ci k) := fun k hk => (mv_okT ci hc k hk).1
  have hap := va_apart (own := (mv_y m).cls) X.wd (mv_lays hc) (mv_fty ci) hty (mv_okD ci hc) X.bs.1 (mv_cl_at hc)
  obtain ⟨r, e1, cell, q1, q2, q3, q4⟩ := a3
  have hr : r = (mv_C ci, mv_F ci, mv_nf ci) := Option.some.inj (e1.symm.trans (mv_cl_at hc))
  subst hr
  obtain ⟨hS, hfc, kC, hkC, hkind⟩ := X.bs.1.1 ci _ (mv_cl_at hc)
  obtain ⟨cf, kf, fi, fd, hi, hsl⟩ := hS f hf
  have hlay := X.wd _ (mv_lays hc _ (u_in_lay hf))
  have hst := (u_facts hfc hkC (u_lays X.wd (mv_lays hc) hf) hi).1
  have hsame : ∀ x, s.fieldFound? (mv_F ci f).1 (mv_F ci f).2.1 (mv_F ci f).2.2.1 = some x → s.fieldFound? (mv_C ci) (mv_F ci f).2.1 (mv_F ci f).2.2.1 = some x := fun x hx => by rw [(mv_okT ci hc f hf).2.1] at hx; exact hx
  have hlen : f < ((List.range (mv_nf ci)).map (mv_fv E h ci a)).length := by simpa using hf
  unfold u_lay at hlay
  rcases hcase with ⟨hfin, hl | hl⟩ | ⟨hfin, hin2, hdecl, hl⟩
  · rw [if_neg (by rw [hfin]; decide)] at hlay
    have h6 := u_store hfc hkC hkind hlay hi (hty f hf) hna hfit
    refine W.putK X.1 X.2.1 (f := fd) ⟨X.own, X.wd _ hl, ⟨_, _, _, hsame _ hi⟩, hst⟩ (by rw [q2]; exact h6) q1 q3 (by rw [hsl]; exact k2_hasslot (q4 f hf)) rfl rfl hd fun H' e1 e2 e3 => ?_
    rw [hsl] at e1 ⊢
    exact fin H' _ ⟨_, mv_cl_at hc, t_OB.to (V := updV (vp_V _) f (mv_v E v)) ⟨_, e1, q2, q3, t_set q4 hap hf (mv_v E v)⟩ (fun j _ => vp_updV_set hlen (mv_v E v) j)⟩ e2 e3
  · rw [if_neg (by rw [hfin]; decide)] at hlay
    have h6 := u_store hfc hkC hkind hlay hi (hty f hf) hna hfit
    refine va_WputK X.1 X.2.1 (f := fd) X.own (va_Nw.use rfl (X.bs.2.2.2.2.2.2.2.1 _ hl rfl)) (hsame _ hi) hst (by rw [q2]; exact h6) q1 q3 (by rw [hsl]; exact k2_hasslot (q4 f hf)) rfl rfl hd fun H' e1 e2 e3 => ?_
    rw [hsl] at e1 ⊢
    exact fin H' _ ⟨_, mv_cl_at hc, t_OB.to (V := updV (vp_V _) f (mv_v E v)) ⟨_, e1, q2, q3, t_set q4 hap hf (mv_v E v)⟩ (fun j _ => vp_updV_set hlen (mv_v E v) j)⟩ e2 e3
  · rw [if_pos hfin] at hlay
    have hcf : mi.cls = cf := by
      obtain ⟨_, _, c', _, _, _, -, -, hf', -, -, -, hown2, -⟩ := Cond.laysFinal_spec hlay
      have e1 : c' = cf := by have := hi.symm.trans hf'; simp at this; exact this.1.symm
      rw [hdecl] at hown2
      rw [← e1]; exact Option.some.inj (X.own.symm.trans hown2)
    have h6 := u_fits hfc hkC hkind (Or.inr hlay) hi (hty f hf) hna hfit
    refine W.putFinK X.1 X.2.1 X.own (X.wd _ hl) (hsame _ hi) hst hcf (X.nm.trans hin2) (by rw [q2]; exact h6) q1 q3 (by rw [hsl]; exact k2_hasslot (q4 f hf)) rfl rfl hd fun H' e1 e2 e3 => ?_
    rw [hsl] at e1 ⊢
    exact fin H' _ ⟨_, mv_cl_at hc, t_OB.to (V := updV (vp_V _) f (mv_v E v)) ⟨_, e1, q2, q3, t_set q4 hap hf (mv_v E v)⟩ (fun j _ => vp_updV_set hlen (mv_v E v) j)⟩ e2 e3
theorem mv_sI_ne {a f : Nat} {x : Int32} : ∀ b, b ≠ a → mv_I (mv_sI h a f x) b = mv_I h b ∧ mv_J (mv_sI h a f x) b = mv_J h b ∧ mv_R (mv_sI h a f x) b = mv_R h b := fun b hb => ⟨mv_up_ne hb, rfl, rfl⟩
theorem mv_sJ_ne {a f : Nat} {x : Int64} : ∀ b, b ≠ a → mv_I (mv_sJ h a f x) b = mv_I h b ∧ mv_J (mv_sJ h a f x) b = mv_J h b ∧ mv_R (mv_sJ h a f x) b = mv_R h b := fun b hb => ⟨rfl, mv_up_ne hb, rfl⟩
theorem mv_sR_ne {a f x : Nat} : ∀ b, b ≠ a → mv_I (mv_sR h a f x) b = mv_I h b ∧ mv_J (mv_sR h a f x) b = mv_J h b ∧ mv_R (mv_sR h a f x) b = mv_R h b := fun b hb => ⟨rfl, rfl, mv_up_ne hb⟩
theorem mv_cp_ne {a c x y z : Nat} : ∀ b, b ≠ c → mv_I (mv_cp h a c x y z) b = mv_I h b ∧ mv_J (mv_cp h a c x y z) b = mv_J h b ∧ mv_R (mv_cp h a c x y z) b = mv_R h b := fun b hb => ⟨mv_row_ne hb, rfl, rfl⟩
theorem mv_sI_at (a f : Nat) (x : Int32) : mv_I (mv_sI h a f x) a = fun j => if j = f then x else mv_I h a j := mv_up_row
theorem mv_sJ_at (a f : Nat) (x : Int64) : mv_J (mv_sJ h a f x) a = fun j => if j = f then x else mv_J h a j := mv_up_row
theorem mv_sR_at (a f x : Nat) : mv_R (mv_sR h a f x) a = fun j => if j = f then x else mv_R h a j := mv_up_row
theorem mw_puti {a q ci f : Nat} {x : Int32} (hm : m < 324) (hl : mv_fp m q ci f = true) (hk : (mv_K h a).1 = ci) (ht : mv_ft ci f = 0 ∨ (mv_ft ci f = 2 ∧ (x = 0 ∨ x = 1))) (hd : decode (mv_cc m) pc = .ok (.putfield q, 3)) (hw : mv_W E D k n m (pc + 3) ls st (mv_sI h a f x) Q) : mv_W E D k n m pc ls (.int x :: .ref a :: st) h Q := by
  have hty : (mv_fty ci f = .int ∨ (mv_fty ci f = .boolean ∧ (x = 0 ∨ x = 1))) ∧ mv_ft ci f ≠ 1 := by
    rcases ht with ht | ⟨ht, hx⟩
    · exact ⟨Or.inl (by unfold mv_fty; rw [ht]; rfl), by omega⟩
    · exact ⟨Or.inr ⟨by unfold mv_fty; rw [ht]; rfl, hx⟩, by omega⟩
  refine mw_put (v := .int x) (h1 := mv_sI h a f x) hm hl hk ?_ ?_ rfl rfl ?_ ?_ mv_sI_ne hd hw
  · rcases hty.1 with e | ⟨e, rfl | rfl⟩ <;> rw [e] <;> rfl
  · rcases hty.1 with e | ⟨e, rfl | rfl⟩ <;> rw [e] <;> rfl
  · unfold mv_fv; rw [if_neg hty.2, mv_sI_at]; simp [mv_v]
  · intro j hj; unfold mv_fv; rw [mv_sI_at]; simp only [if_neg hj]; rfl
theorem mw_putr {a b q ci f : Nat} (hm : m < 324) (hl : mv_fp m q ci f = true) (hk : (mv_K h a).1 = ci) (ht : mv_ft ci f = 1) (hd : decode (mv_cc m) pc = .ok (.putfield q, 3)) (hw : mv_W E D k n m (pc + 3) ls st (mv_sR h a f b) Q) : mv_W E D k n m pc ls (.ref b :: .ref a :: st) h Q := by
  obtain ⟨hc, hf, -⟩ := mv_fp_inv hm hl
  have hn := (mv_okT ci hc f hf).2.2.2 ht
  have hr : (∃ z, mv_fty ci f = .object z) ∨ ∃ z, mv_fty ci f = .array z := by
    cases e : mv_fty ci f <;> rw [e] at hn <;> simp [fits] at hn
    · exact Or.inl ⟨_, rfl⟩
    · exact Or.inr ⟨_, rfl⟩
  refine mw_put (v := .ref b) (h1 := mv_sR h a f b) hm hl hk ?_ ?_ rfl rfl ?_ ?_ mv_sR_ne hd hw
  · show narrow (mv_fty ci f) (va_rf (mv_ad E b)) = va_rf (mv_ad E b)
    rcases hr with ⟨z, e⟩ | ⟨z, e⟩ <;> rw [e] <;> cases mv_ad E b <;> rfl
  · show fits (mv_fty ci f) (va_rf (mv_ad E b)) = true
    rcases hr with ⟨z, e⟩ | ⟨z, e⟩ <;> rw [e] <;> cases mv_ad E b <;> rfl
  · unfold mv_fv; rw [if_pos ht, mv_sR_at]; simp [mv_v]
  · intro j hj; unfold mv_fv; rw [mv_sR_at]; simp only [if_neg hj]; rfl
/-- an array's cell behind a write -/
theorem mv_ary_at {a kd : Nat} {h1 : mv_H} {H1 : Heap} (hK : mv_K h1 = mv_K h) (hk : (mv_K h a).1 = kd) (h20 : 20 ≤ kd) (hq : H1[mv_sz E + (a - 50)]? = some (vp_cell (mv_cA E kd) ((mv_K h a).2, mv_arr E h1 kd a))) : mv_at E h1 a H1 := by
  unfold mv_at mv_cell
  rw [hK, if_neg (by omega), hk]
  exact hq
theorem mw_iaload {a : Nat} {i : Int32} (hk : (mv_K h a).1 = 20) (hi : mv_in i (mv_K h a).2 = true) (hd : decode (mv_cc m) pc = .ok (.iaload, 1)) (hw : mv_W E D k n m (pc + 1) ls (.int (mv_I h a i.toNatClampNeg) :: st) h Q) : mv_W E D k n m pc ls (.int i :: .ref a :: st) h Q := by
  refine mv_go (fun p l e R s mi args below meth c H locs cells slots Z Ls X Y w => ?_) hw
  obtain ⟨a1, a2, -, a3⟩ := mv_ary Y.2.1 hk (by decide) (by decide)
  show W p l e R s mi args below meth c H locs cells slots Z (F0 mi pc Ls (.int i :: mv_v E (.ref a) :: st.map (mv_v E)))
  rw [mv_rfh a1]
  exact va_iald (D := E.1) (cA := mv_cA E 20) (f := mv_I h a) X.1 X.2.1 X.bs.1 (mv_P1 a3) 0 0 rfl (mv_tys_at (kd := 20) (by decide) (by decide)) (mv_in_vp hi).1 hd w
theorem mw_baload {a kd : Nat} {i : Int32} (hk : (mv_K h a).1 = kd) (hkd : kd = 21 ∨ kd = 23) (hi : mv_in i (mv_K h a).2 = true) (hd : decode (mv_cc m) pc = .ok (.baload, 1)) (hw : mv_W E D k n m (pc + 1) ls (.int (mv_I h a i.toNatClampNeg) :: st) h Q) : mv_W E D k n m pc ls (.int i :: .ref a :: st) h Q := by
  refine mv_go (fun p l e R s mi args below meth c H locs cells slots Z Ls X Y w => ?_) hw
  obtain ⟨a1, a2, -, a3⟩ := mv_ary Y.2.1 hk (by omega) (by omega)
  show W p l e R s mi args below meth c H locs cells slots Z (F0 mi pc Ls (.int i :: mv_v E (.ref a) :: st.map (mv_v E)))
  rw [mv_rfh a1]
  rcases hkd with rfl | rfl
  · exact va_bald (D := E.1) (cA := mv_cA E 21) (f := mv_I h a) X.1 X.2.1 X.bs.1 (mv_P1 a3) 0 1 rfl (mv_tys_at (kd := 21) (by decide) (by decide)) (mv_in_vp hi).1 hd w
  · exact va_zald (D := E.1) (cA := mv_cA E 23) (f := mv_I h a) X.1 X.2.1 X.bs.1 (mv_P1 a3) 0 3 rfl (mv_tys_at (kd := 23) (by decide) (by decide)) (mv_in_vp hi).1 hd w
theorem mw_laload {a : Nat} {i : Int32} (hk : (mv_K h a).1 = 22) (hi : mv_in i (mv_K h a).2 = true) (hd : decode (mv_cc m) pc = .ok (.laload, 1)) (hw : mv_W E D k n m (pc + 1) ls (.long (mv_J h a i.toNatClampNeg) :: st) h Q) : mv_W E D k n m pc ls (.int i :: .ref a :: st) h Q := by
  refine mv_go (fun p l e R s mi args below meth c H locs cells slots Z Ls X Y w => ?_) hw
  obtain ⟨a1, a2, -, a3⟩ := mv_ary Y.2.1 hk (by decide) (by decide)
  show W p l e R s mi args below meth c H locs cells slots Z (F0 mi pc Ls (.int i :: mv_v E (.ref a) :: st.map (mv_v E)))
  rw [mv_rfh a1]
  exact va_lald (D := E.1) (cA := mv_cA E 22) (f := mv_J h a) X.1 X.2.1 X.bs.1 (mv_P1 a3) 0 2 rfl (mv_tys_at (kd := 22) (by decide) (by decide)) (mv_in_vp hi).1 hd w
theorem mw_aaload {a kd : Nat} {i : Int32} (hk : (mv_K h a).1 = kd) (h1 : 24 ≤ kd) (h2 : kd ≤ 26) (hi : mv_in i (mv_K h a).2 = true) (hd : decode (mv_cc m) pc = .ok (.aaload, 1)) (hw : mv_W E D k n m (pc + 1) ls (.ref (mv_R h a i.toNatClampNeg) :: st) h Q) : mv_W E D k n m pc ls (.int i :: .ref a :: st) h Q := by
  refine mv_go (fun p l e R s mi args below meth c H locs cells slots Z Ls X Y w => ?_) hw
  obtain ⟨a1, a2, -, a3⟩ := mv_ary Y.2.1 hk (by omega) (by omega)
  show W p l e R s mi args below meth c H locs cells slots Z (F0 mi pc Ls (.int i :: mv_v E (.ref a) :: st.map (mv_v E)))
  rw [mv_rfh a1]
  have ht := mv_tys_at (E := E) (kd := kd) (by omega) (by omega)
  have hty : ∃ C, mv_ty kd = .object C := by
    rcases (show kd = 24 ∨ kd = 25 ∨ kd = 26 by omega) with rfl | rfl | rfl <;> exact ⟨_, rfl⟩
  obtain ⟨C, hC⟩ := hty
  rw [hC] at ht
  unfold mv_arr at a3
  rw [if_neg (by omega), if_pos h1] at a3
  exact va_aldq (D := E.1) (cA := mv_cA E kd) (f := fun i => mv_ad E (mv_R h a i)) X.1 X.2.1 X.bs.1 (mv_P1 a3) 0 (kd - 20) rfl ht (mv_in_vp hi).1 hd w
theorem mw_alen {a kd : Nat} (hk : (mv_K h a).1 = kd) (h1 : 20 ≤ kd) (h2 : kd ≤ 26) (hd : decode (mv_cc m) pc = .ok (.arraylength, 1)) (hw : mv_W E D k n m (pc + 1) ls (.int (nI (mv_K h a).2) :: st) h Q) : mv_W E D k n m pc ls (.ref a :: st) h Q := by
  refine mv_go (fun p l e R s mi args below meth c H locs cells slots Z Ls X Y w => ?_) hw
  obtain ⟨a1, a2, -, a3⟩ := mv_ary Y.2.1 hk h1 h2
  show W p l e R s mi args below meth c H locs cells slots Z (F0 mi pc Ls (mv_v E (.ref a) :: st.map (mv_v E)))
  rw [mv_rfh a1]
  exact va_alen (D := E.1) X.1 X.2.1 X.bs.1 (mv_P1 a3) 0 (kd - 20) rfl (mv_tys_at h1 h2) rfl hd w
theorem mw_iastore {a : Nat} {i x : Int32} (hk : (mv_K h a).1 = 20) (hi : mv_in i (mv_K h a).2 = true) (hd : decode (mv_cc m) pc = .ok (.iastore, 1)) (hw : mv_W E D k n m (pc + 1) ls st (mv_sI h a i.toNatClampNeg x) Q) : mv_W E D k n m pc ls (.int x :: .int i :: .ref a :: st) h Q := by
  intro p l e R s mi args below meth c H locs cells slots Z mc ms Ls X Y d1 d2 c1 c2 c3 c4 F
  obtain ⟨a1, a2, -, a3⟩ := mv_ary Y.2.1 hk (by decide) (by decide)
  have hA : mv_A E (mv_sz E + (a - 50)) := by unfold mv_A; omega
  show W p l e R s mi args below meth c H locs cells slots Z (F0 mi pc Ls (.int x :: .int i :: mv_v E (.ref a) :: st.map (mv_v E)))
  rw [mv_rfh a1]
  refine W.iast X.1 X.2.1 a3 ((X.bs.1.2 0 _ (mv_tys_at (kd := 20) (by decide) (by decide))).1 _ (fun j => .int (mv_I h a j))) (fun q => by cases q) (by show ¬ (i < 0 ∨ (arrV _ _ _).slots.size ≤ _); rw [arrV_size]; exact (mv_in_vp hi).1) rfl rfl hd fun H1 e z oq => ?_
  refine hw p l _ R s mi args below meth c H1 _ cells slots Z mc ms Ls X ⟨Y.1.put z oq hA, Y.2.1.put a1 a2 rfl rfl mv_sI_ne (mv_ary_at rfl hk (by decide) ?_) z oq, Y.2.2.1, Y.2.2.2⟩ d1 d2 c1 c2 c3 c4 F
  rw [e]
  show some ((vp_cell _ (_, .inl (mv_I h a))).setSlot _ _) = some (vp_cell _ (_, .inl (mv_I (mv_sI h a i.toNatClampNeg x) a)))
  rw [vp_cell_i, vp_cell_i, arrV_store, mv_sI_at]
  congr 2
  funext q
  unfold updV
  by_cases hq : q = i.toNatClampNeg
  · simp [hq]
  · simp [hq]
theorem mw_bastore {a : Nat} {i x : Int32} (hk : (mv_K h a).1 = 21) (hi : mv_in i (mv_K h a).2 = true) (hd : decode (mv_cc m) pc = .ok (.bastore, 1)) (hw : mv_W E D k n m (pc + 1) ls st (mv_sI h a i.toNatClampNeg x.toInt8.toInt32) Q) : mv_W E D k n m pc ls (.int x :: .int i :: .ref a :: st) h Q := by
  intro p l e R s mi args below meth c H locs cells slots Z mc ms Ls X Y d1 d2 c1 c2 c3 c4 F
  obtain ⟨a1, a2, -, a3⟩ := mv_ary Y.2.1 hk (by decide) (by decide)
  have hA : mv_A E (mv_sz E + (a - 50)) := by unfold mv_A; omega
  show W p l e R s mi args below meth c H locs cells slots Z (F0 mi pc Ls (.int x :: .int i :: mv_v E (.ref a) :: st.map (mv_v E)))
  rw [mv_rfh a1]
  refine W.bast X.1 X.2.1 a3 ((X.bs.1.2 1 _ (mv_tys_at (kd := 21) (by decide) (by decide))).1 _ (fun j => .int (mv_I h a j))) (fun q => by cases q) (by show ¬ (i < 0 ∨ (arrV _ _ _).slots.size ≤ _); rw [arrV_size]; exact (mv_in_vp hi).1) rfl rfl hd fun H1 e z oq => ?_
  refine hw p l _ R s mi args below meth c H1 _ cells slots Z mc ms Ls X ⟨Y.1.put z oq hA, Y.2.1.put a1 a2 rfl rfl mv_sI_ne (mv_ary_at rfl hk (by decide) ?_) z oq, Y.2.2.1, Y.2.2.2⟩ d1 d2 c1 c2 c3 c4 F
  rw [e]
  show some ((vp_cell _ (_, .inl (mv_I h a))).setSlot _ _) = some (vp_cell _ (_, .inl (mv_I (mv_sI h a i.toNatClampNeg x.toInt8.toInt32) a)))
  rw [vp_cell_i, vp_cell_i, arrV_store, mv_sI_at]
  congr 2
  funext q
  unfold updV
  by_cases hq : q = i.toNatClampNeg
  · simp [hq, narrow]
  · simp [hq]
theorem mw_zastore {a : Nat} {i x : Int32} (hk : (mv_K h a).1 = 23) (hi : mv_in i (mv_K h a).2 = true) (hd : decode (mv_cc m) pc = .ok (.bastore, 1)) (hw : mv_W E D k n m (pc + 1) ls st (mv_sI h a i.toNatClampNeg (x &&& 1)) Q) : mv_W E D k n m pc ls (.int x :: .int i :: .ref a :: st) h Q := by
  intro p l e R s mi args below meth c H locs cells slots Z mc ms Ls X Y d1 d2 c1 c2 c3 c4 F
  obtain ⟨a1, a2, -, a3⟩ := mv_ary Y.2.1 hk (by decide) (by decide)
  have hA : mv_A E (mv_sz E + (a - 50)) := by unfold mv_A; omega
  show W p l e R s mi args below meth c H locs cells slots Z (F0 mi pc Ls (.int x :: .int i :: mv_v E (.ref a) :: st.map (mv_v E)))
  rw [mv_rfh a1]
  refine W.zast X.1 X.2.1 a3 ((X.bs.1.2 3 _ (mv_tys_at (kd := 23) (by decide) (by decide))).1 _ (fun j => .int (mv_I h a j))) (fun q => by cases q) (by show ¬ (i < 0 ∨ (arrV _ _ _).slots.size ≤ _); rw [arrV_size]; exact (mv_in_vp hi).1) rfl rfl hd fun H1 e z oq => ?_
  refine hw p l _ R s mi args below meth c H1 _ cells slots Z mc ms Ls X ⟨Y.1.put z oq hA, Y.2.1.put a1 a2 rfl rfl mv_sI_ne (mv_ary_at rfl hk (by decide) ?_) z oq, Y.2.2.1, Y.2.2.2⟩ d1 d2 c1 c2 c3 c4 F
  rw [e]
  show some ((vp_cell _ (_, .inl (mv_I h a))).setSlot _ _) = some (vp_cell _ (_, .inl (mv_I (mv_sI h a i.toNatClampNeg (x &&& 1)) a)))
  rw [vp_cell_i, vp_cell_i, arrV_store, mv_sI_at]
  congr 2
  funext q
  unfold updV
  by_cases hq : q = i.toNatClampNeg
  · simp [hq, narrow]
  · simp [hq]
theorem mw_lastore {a : Nat} {i : Int32} {x : Int64} (hk : (mv_K h a).1 = 22) (hi : mv_in i (mv_K h a).2 = true) (hd : decode (mv_cc m) pc = .ok (.lastore, 1)) (hw : mv_W E D k n m (pc + 1) ls st (mv_sJ h a i.toNatClampNeg x) Q) : mv_W E D k n m pc ls (.long x :: .int i :: .ref a :: st) h Q := by
  intro p l e R s mi args below meth c H locs cells slots Z mc ms Ls X Y d1 d2 c1 c2 c3 c4 F
  obtain ⟨a1, a2, -, a3⟩ := mv_ary Y.2.1 hk (by decide) (by decide)
  have hA : mv_A E (mv_sz E + (a - 50)) := by unfold mv_A; omega
  show W p l e R s mi args below meth c H locs cells slots Z (F0 mi pc Ls (.long x :: .int i :: mv_v E (.ref a) :: st.map (mv_v E)))
  rw [mv_rfh a1]
  refine W.last X.1 X.2.1 a3 ((X.bs.1.2 2 _ (mv_tys_at (kd := 22) (by decide) (by decide))).1 _ (fun j => .long (mv_J h a j))) (fun q => by cases q) (by show ¬ (i < 0 ∨ (arrV _ _ _).slots.size ≤ _); rw [arrV_size]; exact (mv_in_vp hi).1) rfl rfl hd fun H1 e z oq => ?_
  refine hw p l _ R s mi args below meth c H1 _ cells slots Z mc ms Ls X ⟨Y.1.put z oq hA, Y.2.1.put a1 a2 rfl rfl mv_sJ_ne (mv_ary_at rfl hk (by decide) ?_) z oq, Y.2.2.1, Y.2.2.2⟩ d1 d2 c1 c2 c3 c4 F
  rw [e]
  show some ((vp_cell _ (_, .inr (.inl (mv_J h a)))).setSlot _ _) = some (vp_cell _ (_, .inr (.inl (mv_J (mv_sJ h a i.toNatClampNeg x) a))))
  rw [vp_cell_l, vp_cell_l, arrV_store, mv_sJ_at]
  congr 2
  funext q
  unfold updV
  by_cases hq : q = i.toNatClampNeg
  · simp [hq]
  · simp [hq]
theorem mw_aastore {a b kd : Nat} {i : Int32} (hk : (mv_K h a).1 = kd) (h1 : 24 ≤ kd) (h2 : kd ≤ 26) (hi : mv_in i (mv_K h a).2 = true) (hb : (mv_K h b).1 = mv_el kd) (hd : decode (mv_cc m) pc = .ok (.aastore, 1)) (hw : mv_W E D k n m (pc + 1) ls st (mv_sR h a i.toNatClampNeg b) Q) : mv_W E D k n m pc ls (.ref b :: .int i :: .ref a :: st) h Q := by
  intro p l e R s mi args below meth c H locs cells slots Z mc ms Ls X Y d1 d2 c1 c2 c3 c4 F
  obtain ⟨a1, a2, -, a3⟩ := mv_ary Y.2.1 hk (by omega) (by omega)
  have hel : mv_el kd < 12 ∧ mv_ty kd = .object (mv_C (mv_el kd)) := by
    rcases (show kd = 24 ∨ kd = 25 ∨ kd = 26 by omega) with rfl | rfl | rfl <;> exact ⟨by decide, by rfl⟩
  obtain ⟨b1, b2, -, b3⟩ := mv_obj Y.2.1 hb hel.1
  have hA : mv_A E (mv_sz E + (a - 50)) := by unfold mv_A; omega
  show W p l e R s mi args below meth c H locs cells slots Z (F0 mi pc Ls (mv_v E (.ref b) :: .int i :: mv_v E (.ref a) :: st.map (mv_v E)))
  rw [mv_rfh a1, mv_rfh b1]
  have ht := mv_tys_at (E := E) (kd := kd) (by omega) (by omega)
  rw [hel.2] at ht
  have hlt := (mv_in_vp hi).2
  have h0 : ¬ i < 0 := fun q => (mv_in_vp hi).1 (Or.inl q)
  obtain ⟨r', hr', cellV, g1, g2, g3, -⟩ := b3
  have hcls := (X.bs.1.1 (mv_el kd) _ (mv_cl_at hel.1)).2
  obtain ⟨kA, comp, k1, k2, k3, -⟩ := (X.bs.1.2 _ _ ht).2
  have hcomp : comp = E.1.1 (mv_el kd) := Option.some.inj (k3.symm.trans hcls.1)
  subst hcomp
  have hcls0 := hcls
  obtain ⟨-, kC, hkC, -⟩ := hcls
  unfold mv_arr at a3
  rw [if_neg (by omega), if_pos h1] at a3
  refine W.aast X.1 X.2.1 a3 (fun q h => by cases h) (fun h => by cases h) k1 k2 rfl hkC ⟨h0, by show _ < (arrV _ _ _).slots.size; rw [arrV_size]; exact hlt⟩ g1 (fun q h => by rw [g3] at h; cases h) (by rw [g2]; exact hkC) (by rw [g2]; exact va_assign hcls0) rfl rfl hd fun H1 e z oq => ?_
  refine hw p l _ R s mi args below meth c H1 _ cells slots Z mc ms Ls X ⟨Y.1.put z oq hA, Y.2.1.put a1 a2 rfl rfl mv_sR_ne (mv_ary_at rfl hk (by omega) ?_) z oq, Y.2.2.1, Y.2.2.2⟩ d1 d2 c1 c2 c3 c4 F
  rw [e]
  unfold mv_arr
  rw [if_neg (by omega), if_pos h1]
  show some ((vp_cell _ (_, .inr (.inr (.inr (.inr (fun i => mv_ad E (mv_R h a i))))))).setSlot _ _) = _
  rw [vp_cell_q, vp_cell_q, arrV_store, mv_sR_at]
  congr 2
  funext q
  unfold updV
  by_cases hq : q = i.toNatClampNeg
  · simp [hq, mv_ad_hi b1, va_rf]
  · simp [hq]
end
