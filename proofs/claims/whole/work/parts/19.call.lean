/-! A call. -/
set_option maxRecDepth 100000 in
theorem mv_oknp : ∀ c, c < 324 → (parseMethodDescriptor (mv_y c).desc).map (fun d => d.parameters.length) = some (mv_np c) := by decide +kernel
def mv_ws (c : Nat) : List Cond := .code (mv_y c) (mv_cc c) (mv_ml c) (mv_rt c) :: mv_gw
theorem mv_gw_good {w : Cond} (h : w ∈ mv_gw) : w ∈ mv_gw ∧ ((w.onTables && w.keeps) = true ∨ ∃ ty, w = .arrayClass ty) := ⟨h, good_of_word (List.mem_filter.mp h).2⟩
theorem mv_gws {c : Nat} (hc : Cond.code (mv_y c) (mv_cc c) (mv_ml c) (mv_rt c) ∈ mv_gw) : GoodIn mv_gw (mv_ws c) := by
  intro w hw
  rcases List.mem_cons.mp hw with rfl | hw
  · exact mv_gw_good hc
  · exact mv_gw_good hw
def mv_Pc (E : mv_E) (h : mv_H) (av : List Value) : Array Value → State → Prop := fun a U => a = (av.map (mv_v E)).toArray ∧ mv_Base E U ∧ mv_Rep E h U.heap
def mv_Qc (E : mv_E) (Q : mv_Q) : Array Value → State → Outcome → State → Prop := fun _ st o t => (∃ v h', o = .returned (v.map (mv_v E)) ∧ Q v h' ∧ mv_Rep E h' t.heap) ∧ va_F (mv_A E) st t
def mv_gv (v : Option Value) : Prop := match v with
  | none => True
  | some (.int _) => True
  | some (.long _) => True
  | some (.ref _) => True
  | _ => False
theorem mv_pad_prs {E : mv_E} : ∀ (n i : Nat), mv_prs E i (mv_pad n) = [] ∧ (mv_pad n).length = n
  | 0, i => ⟨rfl, rfl⟩
  | n + 1, i => ⟨(mv_pad_prs n (i + 1)).1, by rw [mv_pad, List.length_cons, (mv_pad_prs (E := E) n i).2]⟩
theorem mv_lgc (v : Value) (vs : List Value) : lg_sl (v :: vs) = (if v.category = 2 then [.val v, .second] else [.val v]) ++ lg_sl vs := rfl
theorem mv_ent_ok {E : mv_E} : ∀ (av : List Value) (n i : Nat), mv_wd av ≤ n → n ≤ 99 → (mv_ent n av).length = n ∧ (∀ q ∈ mv_prs E i (mv_ent n av), q ∈ lv_args i (av.map (mv_v E))) ∧ (lg_sl (av.map (mv_v E))).length ≤ n
  | [], n, i, _, _ => by
    refine ⟨?_, fun q hq => ?_, by simp [lg_sl]⟩
    · simp only [mv_ent]; exact (mv_pad_prs (E := E) n 0).2
    · simp only [mv_ent, (mv_pad_prs (E := E) n i).1] at hq; cases hq
  | .int x :: r, n, i, h1, h2 => by
    simp only [mv_wd] at h1
    obtain ⟨k, rfl⟩ : ∃ k, n = k + 1 := ⟨n - 1, by omega⟩
    obtain ⟨g1, g2, g3⟩ := mv_ent_ok (E := E) r k (i + 1) (by omega) (by omega)
    refine ⟨by simp only [mv_ent, List.length_cons, g1], fun q hq => ?_, ?_⟩
    · simp only [mv_ent, mv_prs, List.mem_cons] at hq
      simp only [List.map_cons, lv_args, mv_v_cat, List.mem_cons]
      rcases hq with hq | hq
      · exact Or.inl hq
      · exact Or.inr (by simpa [Value.category] using g2 q hq)
    · rw [List.map_cons, mv_lgc, List.length_append, if_neg (by rw [mv_v_cat]; simp [Value.category]), List.length_singleton]
      omega
  | .ref x :: r, n, i, h1, h2 => by
    simp only [mv_wd] at h1
    obtain ⟨k, rfl⟩ : ∃ k, n = k + 1 := ⟨n - 1, by omega⟩
    obtain ⟨g1, g2, g3⟩ := mv_ent_ok (E := E) r k (i + 1) (by omega) (by omega)
    refine ⟨by simp only [mv_ent, List.length_cons, g1], fun q hq => ?_, ?_⟩
    · simp only [mv_ent, mv_prs, List.mem_cons] at hq
      simp only [List.map_cons, lv_args, mv_v_cat, List.mem_cons]
      rcases hq with hq | hq
      · exact Or.inl hq
      · exact Or.inr (by simpa [Value.category] using g2 q hq)
    · rw [List.map_cons, mv_lgc, List.length_append, if_neg (by rw [mv_v_cat]; simp [Value.category]), List.length_singleton]
      omega
  | .long x :: r, n, i, h1, h2 => by
    simp only [mv_wd] at h1
    obtain ⟨k, rfl⟩ : ∃ k, n = k + 2 := ⟨n - 2, by omega⟩
    obtain ⟨g1, g2, g3⟩ := mv_ent_ok (E := E) r k (i + 2) (by omega) (by omega)
    refine ⟨by simp only [mv_ent, List.length_cons, g1], fun q hq => ?_, ?_⟩
    · simp only [mv_ent, mv_prs, List.mem_cons] at hq
      simp only [List.map_cons, lv_args, mv_v_cat, List.mem_cons]
      rcases hq with hq | hq
      · exact Or.inl hq
      · exact Or.inr (by simpa [Value.category] using g2 q hq)
    · rw [List.map_cons, mv_lgc, List.length_append, if_pos (by rw [mv_v_cat]; simp [Value.category])]
      show 2 + _ ≤ _
      omega
  | .float x :: r, n, i, h1, h2 => by simp only [mv_wd] at h1; omega
  | .double x :: r, n, i, h1, h2 => by simp only [mv_wd] at h1; omega
  | .null :: r, n, i, h1, h2 => by simp only [mv_wd] at h1; omega
  | .retAddr x :: r, n, i, h1, h2 => by simp only [mv_wd] at h1; omega
theorem mv_met {E : mv_E} {c D k n : Nat} {av : List Value} {h : mv_H} {Q : mv_Q} (h1 : 1 ≤ c) (h2 : c < 324) (hp : plainName (mv_y c).cls = true) (hwd : mv_wd av ≤ mv_ml c) (hQ : ∀ v h', Q v h' → mv_gv v) (hw : mv_W E D k n c 0 (mv_ent (mv_ml c) av) [] h Q) (l : Launch) : Met l (mv_y c) (mv_ws c) { frames := D, cells := k, slots := n, locals := 64 * D } (mv_Pc E h av) (mv_Qc E Q) k n (mv_A E) := by
  obtain ⟨-, -, -, h45, -⟩ := mv_okm_inv (mv_okms c h1 h2)
  refine Met.ofW (cc := mv_cc c) (maxL := mv_ml c) (ret := mv_rt c) hp rfl ?_
  intro p e s m args below meth cd s₁ B hml hv
  obtain ⟨rfl, hb, hr⟩ := hv
  have hts := atoms_spec (ws := mv_ws c) B.pre
  have X : mv_Cx E c p s m (av.map (mv_v E)).toArray meth cd := ⟨B.exec, B.bytes, B.returns, B.notSynchronized, hml, findClass_of_methodNamed B.named, fun w hw => hts w (List.mem_cons_of_mem _ hw), (name_of_methodNamed B.named B.method).1, hb⟩
  obtain ⟨g1, g2, g3⟩ := mv_ent_ok (E := E) av (mv_ml c) 0 hwd (by omega)
  have hl := lv_entry (av.map (mv_v E)) (n := mv_ml c) g3
  rw [lg_entry_eq]
  refine hw p l e _ s m _ below meth cd s.heap [] 0 0 _ k n _ X ⟨va_S.rf, hr, mv_has_mono hl g2, g1⟩ (Nat.le_refl _) (Nat.le_refl _) (by omega) (by omega) (Nat.le_refl _) (Nat.le_refl _) ?_
  intro v h' H' locs cells slots pc Ls q hS hRep hc1 hc2 hdec hrok
  refine W.widen hc1 hc2 ?_
  have hgv := hQ v h' q
  cases v with
  | none => exact W.vret B.exec B.bytes (B.returns.trans hrok) (fun t ht _ => ⟨⟨none, h', rfl, q, by rw [ht]; exact hRep⟩, hS.F ht⟩) hS.2.2 hdec
  | some v =>
    cases v with
    | int x =>
      obtain ⟨ty, r1, r2⟩ := hrok
      exact W.zret B.exec B.bytes (B.returns.trans r1) r2 (fun t ht _ => ⟨⟨some (.int x), h', rfl, q, by rw [ht]; exact hRep⟩, hS.F ht⟩) hS.2.2 hdec
    | long x => exact W.lret B.exec B.bytes (B.returns.trans hrok) (fun t ht _ => ⟨⟨some (.long x), h', rfl, q, by rw [ht]; exact hRep⟩, hS.F ht⟩) hS.2.2 hdec
    | ref x =>
      obtain ⟨ty, r1, r2⟩ := hrok
      exact W.aret (v := va_rf (mv_ad E x)) B.exec B.bytes (B.returns.trans r1) r2 (by cases mv_ad E x with | none => exact Or.inl rfl | some a => exact Or.inr ⟨a, rfl⟩) (fun t ht _ => ⟨⟨some (.ref x), h', rfl, q, by rw [ht]; exact hRep⟩, hS.F ht⟩) hS.2.2 hdec
    | _ => exact hgv.elim
theorem mv_back {E : mv_E} {Q : mv_Q} {p : Program} {l : Launch} {e : Env} {R : Room} {s : State} {m : MethodId} {args : Array Value} {below : List Frame} {meth : Method} {c : Code} {H : Heap} {locs : List Loc} {cells slots mc ms pc : Nat} {Z : State → Prop} {Ls : Array Slot} {st0 rest : List Value} {a : Array Value}
    (hr : va_Run p l e R s m args below meth c H locs cells slots mc ms (F0 m pc Ls st0) rest (mv_Qc E Q a) (mv_A E)) (hS : va_S (mv_A E) s.heap H locs)
    (kk : ∀ (v : Option Value) (h' : mv_H) (H1 : Heap) (locs1 : List Loc), Q v h' → mv_Rep E h' H1 → va_S (mv_A E) s.heap H1 locs1 → W p l e R s m args below meth c H1 locs1 (cells + mc) (slots + ms) Z (F0 m (pc + 3) Ls (v.toList.map (mv_v E) ++ rest))) : W p l e R s m args below meth c H locs cells slots Z (F0 m pc Ls st0) := by
  intro T hT X
  obtain ⟨v, st₀, t, T', L, h0, X', hL, e1, e2, ⟨⟨v', h', hv, hq, hrep⟩, hz, hk⟩, st⟩ := hr T hT X
  cases hv
  rw [h0] at hz hk
  obtain ⟨t2, a1, b1⟩ := kk v' h' T'.heap (locs ++ L) hq (by rw [e1]; exact hrep)
    ⟨Nat.le_trans hS.1 (by rw [e1]; exact hz), fun q h1 h2 => by rw [e1, hk q (Nat.lt_of_lt_of_le h1 hS.1) h2]; exact hS.2.1 q h1 h2, fun q hq => by
      rcases List.mem_append.mp hq with h | h
      · exact hS.2.2 q h
      · exact hL q h⟩ T' rfl X'
  refine ⟨t2, st t2 ?_, b1⟩
  have e3 : (v'.map (mv_v E)).toList = v'.toList.map (mv_v E) := by cases v' <;> rfl
  rw [e3]
  exact a1
theorem mv_blind {E : mv_E} {h : mv_H} {av : List Value} : FrameBlind (mv_Pc E h av) := fun a U g mk q => ⟨q.1, q.2.1.to (U := U.calling g mk a) (State.WarmedH.refl U) (Nat.le_refl _) (fun _ _ _ => rfl), q.2.2⟩
theorem mv_pre {E : mv_E} {h : mv_H} {av : List Value} {s : State} {H : Heap} {locs : List Loc} (hb : mv_Base E s) (hS : va_S (mv_A E) s.heap H locs) (hr : mv_Rep E h H) : PreS s H (mv_Pc E h av) (av.map (mv_v E)) := by
  refine ⟨mv_blind, fun U hU hW => ⟨rfl, hb.to hW (by rw [hU]; exact hS.1) (fun q g1 g2 => by rw [hU]; exact hS.2.1 q g1 g2), by rw [hU]; exact hr⟩⟩
section
variable {E : mv_E} {D k n m pc : Nat} {ls : List (Option Value)} {st : List Value} {h : mv_H} {Q Qc : mv_Q} {c q kc nc : Nat} {av rs : List Value}
theorem mw_static (hm : m < 324) (h1 : 1 ≤ c) (h2 : c < 324) (hp : ¬ c = 307 ∧ ¬ c = 308) (hl : mv_iv m q c = true) (hst : (mv_pl c).2.2.2.2 = 1) (hn : av.length = mv_np c) (hwd : mv_wd av ≤ mv_ml c) (hrs : mv_wd rs ≤ 8) (hD : 1 ≤ D) (hkc : kc ≤ k) (hnc : nc ≤ n) (hd : decode (mv_cc m) pc = .ok (.invokestatic q, 3)) (hQ : ∀ v h', Qc v h' → mv_gv v)
    (hcal : mv_W E (D - 1) kc nc c 0 (mv_ent (mv_ml c) av) [] h Qc) (hk : ∀ v h', Qc v h' → mv_W E D (k - kc) (n - nc) m (pc + 3) ls (v.toList ++ rs) h' Q) : mv_W E D k n m pc ls (av.reverse ++ rs) h Q := by
  obtain ⟨o1, o2, o3, o4, o5, o6⟩ := mv_okm_inv (mv_okms c h1 h2)
  have o6 : Cond.static (mv_y c) ∈ mv_gw := by rcases o6 with ⟨-, g⟩ | ⟨g, -⟩; exact g; exact absurd hst g
  have hpl : plainName (mv_y c).cls = true := by rcases o5 with g | g | g; exact g; exact absurd g hp.1; exact absurd g hp.2
  intro p l e R s mi args below meth cd H locs cells slots Z mc ms Ls X Y d1 d2 c1 c2 c3 c4 F
  have hM := mv_met h1 h2 hpl hwd hQ hcal l
  have hst0 : (av.reverse ++ rs).map (mv_v E) = (av.map (mv_v E)).reverse ++ rs.map (mv_v E) := by rw [List.map_append, List.map_reverse]
  rw [hst0]
  have S : CallFix p mi cd (mv_cc m) (mv_ml m) s args mv_gw (mv_y m).cls := ⟨X.1, X.2.1, X.ml, X.own, X.wd⟩
  have hW8 : 2 * (F0 mi pc Ls ((av.map (mv_v E)).reverse ++ rs.map (mv_v E))).monitorRoom + ((rs.map (mv_v E)).map fun v => v.category).sum ≤ 8 := by show 2 * 0 + _ ≤ 8; rw [mv_wd_sum rs (by omega)]; omega
  have hfin : ∀ (v : Option Value) (h' : mv_H) (H1 : Heap) (locs1 : List Loc), Qc v h' → mv_Rep E h' H1 → va_S (mv_A E) s.heap H1 locs1 → W p l e R s mi args below meth cd H1 locs1 (cells + kc) (slots + nc) Z (F0 mi (pc + 3) Ls (v.toList.map (mv_v E) ++ rs.map (mv_v E))) := fun v h' H1 locs1 g1 g2 g3 => by
    rw [← List.map_append]
    exact hk v h' g1 p l e R s mi args below meth cd H1 locs1 (cells + kc) (slots + nc) Z mc ms Ls X ⟨g3, g2, Y.2.2.1, Y.2.2.2⟩ d1 d2 (by omega) (by omega) c3 c4 F
  rcases (mv_iv_inv hm hl).2 with hl | hl
  · exact mv_back (va_runS S hM ⟨callB_of (mv_np c) X.wd (mv_gws o1) rfl rfl rfl (X.wd _ o2) (X.wd _ hl) ⟨o3.1, o3.2, mv_oknp c h2⟩ ⟨by show D - 1 + 1 ≤ _; omega, by show 8 + (mv_ml c + 11) + 64 * (D - 1) ≤ _; omega⟩, X.wd _ o6⟩ (mv_pre X.bs Y.1 Y.2.1) rfl (by rw [List.length_map]; exact hn) Y.2.2.1.1 rfl hW8 hd ⟨by omega, by omega⟩) Y.1 hfin
  · exact mv_back (va_runSN S hM ⟨va_cnB (mv_np c) X.wd (mv_gws o1) rfl rfl rfl (X.bs.2.2.2.2.2.2.2.1 _ hl rfl) (X.wd _ o2) ⟨o3.1, o3.2, mv_oknp c h2⟩ ⟨by show D - 1 + 1 ≤ _; omega, by show 8 + (mv_ml c + 11) + 64 * (D - 1) ≤ _; omega⟩, X.wd _ o6, trivial⟩ (mv_pre X.bs Y.1 Y.2.1) rfl (by rw [List.length_map]; exact hn) Y.2.2.1.1 rfl hW8 hd ⟨by omega, by omega⟩) Y.1 hfin
theorem mw_special {a : Nat} (hm : m < 324) (h1 : 1 ≤ c) (h2 : c < 324) (hp : ¬ c = 307 ∧ ¬ c = 308) (hl : mv_iv m q c = true) (hst : (mv_pl c).2.2.2.2 = 0) (hn : (Value.ref a :: av).length = mv_np c + 1) (hnm : (mv_y c).name = "<init>") (hrt : mv_rt c = none) (ha : 50 ≤ a) (hwd : mv_wd (.ref a :: av) ≤ mv_ml c) (hrs : mv_wd rs ≤ 8) (hD : 1 ≤ D) (hkc : kc ≤ k) (hnc : nc ≤ n) (hd : decode (mv_cc m) pc = .ok (.invokespecial q, 3)) (hQ : ∀ v h', Qc v h' → mv_gv v)
    (hcal : mv_W E (D - 1) kc nc c 0 (mv_ent (mv_ml c) (.ref a :: av)) [] h Qc) (hk : ∀ v h', Qc v h' → mv_W E D (k - kc) (n - nc) m (pc + 3) ls (v.toList ++ rs) h' Q) : mv_W E D k n m pc ls ((Value.ref a :: av).reverse ++ rs) h Q := by
  obtain ⟨o1, o2, o3, o4, o5, o6⟩ := mv_okm_inv (mv_okms c h1 h2)
  have o6 : Cond.instanceMethod (mv_y c) ∈ mv_gw := by rcases o6 with ⟨g, -⟩ | ⟨-, g, -⟩; exact absurd (hst.symm.trans g) (by decide); exact g
  have hpl : plainName (mv_y c).cls = true := by rcases o5 with g | g | g; exact g; exact absurd g hp.1; exact absurd g hp.2
  intro p l e R s mi args below meth cd H locs cells slots Z mc ms Ls X Y d1 d2 c1 c2 c3 c4 F
  have hM := mv_met h1 h2 hpl hwd hQ hcal l
  have hst0 : ((Value.ref a :: av).reverse ++ rs).map (mv_v E) = (av.map (mv_v E)).reverse ++ .ref (mv_sz E + (a - 50)) :: rs.map (mv_v E) := by
    rw [← mv_rfh ha]; simp [List.map_reverse]
  rw [hst0]
  have S : CallFix p mi cd (mv_cc m) (mv_ml m) s args mv_gw (mv_y m).cls := ⟨X.1, X.2.1, X.ml, X.own, X.wd⟩
  have hW8 : 2 * (F0 mi pc Ls ((av.map (mv_v E)).reverse ++ .ref (mv_sz E + (a - 50)) :: rs.map (mv_v E))).monitorRoom + ((rs.map (mv_v E)).map fun v => v.category).sum ≤ 8 := by show 2 * 0 + _ ≤ 8; rw [mv_wd_sum rs (by omega)]; omega
  have hpre : PreS s H (mv_Pc E h (.ref a :: av)) (.ref (mv_sz E + (a - 50)) :: av.map (mv_v E)) := by
    have := mv_pre (av := .ref a :: av) X.bs Y.1 Y.2.1
    rw [List.map_cons, mv_rfh ha] at this
    exact this
  have hfin : ∀ (v : Option Value) (h' : mv_H) (H1 : Heap) (locs1 : List Loc), Qc v h' → mv_Rep E h' H1 → va_S (mv_A E) s.heap H1 locs1 → W p l e R s mi args below meth cd H1 locs1 (cells + kc) (slots + nc) Z (F0 mi (pc + 3) Ls (v.toList.map (mv_v E) ++ rs.map (mv_v E))) := fun v h' H1 locs1 g1 g2 g3 => by
    rw [← List.map_append]
    exact hk v h' g1 p l e R s mi args below meth cd H1 locs1 (cells + kc) (slots + nc) Z mc ms Ls X ⟨g3, g2, Y.2.2.1, Y.2.2.2⟩ d1 d2 (by omega) (by omega) c3 c4 F
  have hws : mv_ws c = Cond.code (mv_y c) (mv_cc c) (mv_ml c) none :: mv_gw := by unfold mv_ws; rw [hrt]
  rcases (mv_iv_inv hm hl).2 with hl | hl
  · exact mv_back (va_runI S hM ⟨callB_of (mv_np c) X.wd (mv_gws o1) hws rfl rfl (X.wd _ o2) (X.wd _ hl) ⟨o3.1, o3.2, mv_oknp c h2⟩ ⟨by show D - 1 + 1 ≤ _; omega, by show 8 + (mv_ml c + 11) + 64 * (D - 1) ≤ _; omega⟩, hnm, X.wd _ o6⟩ hpre rfl (by rw [List.length_map]; simpa using hn) Y.2.2.1.1 rfl hW8 hd ⟨by omega, by omega⟩) Y.1 hfin
  · exact mv_back (va_runIN S hM ⟨va_cnB (mv_np c) X.wd (mv_gws o1) hws rfl rfl (X.bs.2.2.2.2.2.2.2.1 _ hl rfl) (X.wd _ o2) ⟨o3.1, o3.2, mv_oknp c h2⟩ ⟨by show D - 1 + 1 ≤ _; omega, by show 8 + (mv_ml c + 11) + 64 * (D - 1) ≤ _; omega⟩, hnm, X.wd _ o6⟩ hpre rfl (by rw [List.length_map]; simpa using hn) Y.2.2.1.1 rfl hW8 hd ⟨by omega, by omega⟩) Y.1 hfin
theorem mw_virtual {a kd : Nat} (hm : m < 324) (h1 : 1 ≤ c) (h2 : c < 324) (hp : ¬ c = 307 ∧ ¬ c = 308) (hl : mv_iv m q c = true) (hst : (mv_pl c).2.2.2.2 = 0) (hn : (Value.ref a :: av).length = mv_np c + 1) (hnm : ¬ (mv_y c).name = "<init>") (hkd : (mv_K h a).1 = kd) (hkc0 : (kd ≤ 11 ∧ mv_C kd = (mv_y c).cls) ∨ (kd = 30 ∧ "java/lang/String" = (mv_y c).cls)) (hwd : mv_wd (.ref a :: av) ≤ mv_ml c) (hrs : mv_wd rs ≤ 8) (hD : 1 ≤ D) (hkc : kc ≤ k) (hnc : nc ≤ n) (hd : decode (mv_cc m) pc = .ok (.invokevirtual q, 3)) (hQ : ∀ v h', Qc v h' → mv_gv v)
    (hcal : mv_W E (D - 1) kc nc c 0 (mv_ent (mv_ml c) (.ref a :: av)) [] h Qc) (hk : ∀ v h', Qc v h' → mv_W E D (k - kc) (n - nc) m (pc + 3) ls (v.toList ++ rs) h' Q) : mv_W E D k n m pc ls ((Value.ref a :: av).reverse ++ rs) h Q := by
  obtain ⟨o1, o2, o3, o4, o5, o6⟩ := mv_okm_inv (mv_okms c h1 h2)
  obtain ⟨o6, o7⟩ : Cond.instanceMethod (mv_y c) ∈ mv_gw ∧ Cond.selects (mv_y c).cls (mv_y c) (mv_y c) ∈ mv_gw := by
    rcases o6 with ⟨g, -⟩ | ⟨-, g, g2⟩
    · exact absurd (hst.symm.trans g) (by decide)
    · exact ⟨g, g2.resolve_left hnm⟩
  have hpl : plainName (mv_y c).cls = true := by rcases o5 with g | g | g; exact g; exact absurd g hp.1; exact absurd g hp.2
  intro p l e R s mi args below meth cd H locs cells slots Z mc ms Ls X Y d1 d2 c1 c2 c3 c4 F
  have hM := mv_met h1 h2 hpl hwd hQ hcal l
  obtain ⟨b, hb, hrcv⟩ : ∃ b : Nat, mv_v E (.ref a) = .ref b ∧ ∃ cellB : Cell, H[b]? = some cellB ∧ cellB.vm.isStatics = false ∧ s.vm.findClass (mv_y c).cls = some cellB.cls := by
    rcases hkc0 with ⟨g1, g2⟩ | ⟨g1, g2⟩
    · obtain ⟨a1, a2, -, a3⟩ := mv_obj Y.2.1 hkd (by omega)
      refine ⟨_, mv_rfh a1, ?_⟩
      rw [← g2]
      exact va_recv X.bs.1 (mv_P1 a3) (mv_cl_at (show kd < 12 by omega)) (q0 := 0) rfl
    · rw [g1] at hkd
      obtain ⟨i, hi, rfl⟩ := mv_str Y.2.1 hkd
      refine ⟨_, mv_rfl (by omega) (by omega), ?_⟩
      rw [← g2]
      exact vk_recv (i := i) X.bs.2.2.2.2.1 hi Y.1
  have hst0 : ((Value.ref a :: av).reverse ++ rs).map (mv_v E) = (av.map (mv_v E)).reverse ++ .ref b :: rs.map (mv_v E) := by
    rw [← hb]; simp [List.map_reverse]
  rw [hst0]
  have S : CallFix p mi cd (mv_cc m) (mv_ml m) s args mv_gw (mv_y m).cls := ⟨X.1, X.2.1, X.ml, X.own, X.wd⟩
  have hW8 : 2 * (F0 mi pc Ls ((av.map (mv_v E)).reverse ++ .ref b :: rs.map (mv_v E))).monitorRoom + ((rs.map (mv_v E)).map fun v => v.category).sum ≤ 8 := by show 2 * 0 + _ ≤ 8; rw [mv_wd_sum rs (by omega)]; omega
  have hpre : PreV s H (mv_y c).cls b (mv_Pc E h (.ref a :: av)) (av.map (mv_v E)) := by
    have := mv_pre (av := .ref a :: av) X.bs Y.1 Y.2.1
    rw [List.map_cons, hb] at this
    exact ⟨this.1, hrcv, this.2⟩
  have hfin : ∀ (v : Option Value) (h' : mv_H) (H1 : Heap) (locs1 : List Loc), Qc v h' → mv_Rep E h' H1 → va_S (mv_A E) s.heap H1 locs1 → W p l e R s mi args below meth cd H1 locs1 (cells + kc) (slots + nc) Z (F0 mi (pc + 3) Ls (v.toList.map (mv_v E) ++ rs.map (mv_v E))) := fun v h' H1 locs1 g1 g2 g3 => by
    rw [← List.map_append]
    exact hk v h' g1 p l e R s mi args below meth cd H1 locs1 (cells + kc) (slots + nc) Z mc ms Ls X ⟨g3, g2, Y.2.2.1, Y.2.2.2⟩ d1 d2 (by omega) (by omega) c3 c4 F
  rcases (mv_iv_inv hm hl).2 with hl | hl
  · exact mv_back (va_runV S hM ⟨callB_of (mv_np c) X.wd (mv_gws o1) rfl rfl rfl (X.wd _ o2) (X.wd _ hl) ⟨o3.1, o3.2, mv_oknp c h2⟩ ⟨by show D - 1 + 1 ≤ _; omega, by show 8 + (mv_ml c + 11) + 64 * (D - 1) ≤ _; omega⟩, X.wd _ o6, X.wd _ o7⟩ hpre rfl (by rw [List.length_map]; simpa using hn) Y.2.2.1.1 rfl hW8 hd ⟨by omega, by omega⟩) Y.1 hfin
  · exact mv_back (va_runVN S hM ⟨va_cnB (mv_np c) X.wd (mv_gws o1) rfl rfl rfl (X.bs.2.2.2.2.2.2.2.1 _ hl rfl) (X.wd _ o2) ⟨o3.1, o3.2, mv_oknp c h2⟩ ⟨by show D - 1 + 1 ≤ _; omega, by show 8 + (mv_ml c + 11) + 64 * (D - 1) ≤ _; omega⟩, X.wd _ o6, X.wd _ o7⟩ hpre rfl (by rw [List.length_map]; simpa using hn) Y.2.2.1.1 rfl hW8 hd ⟨by omega, by omega⟩) Y.1 hfin
end
