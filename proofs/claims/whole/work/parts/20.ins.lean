/-! Every instruction. -/
def mv_Pok (E : mv_E) (t : mv_T) (P : mv_PT) : Prop := ∀ (D c : Nat) (av : List Value) (h : mv_H) (d : Nat) (r : Bool ⊕ Int32), d ≤ D → P c av h = some (d, r) → mv_V E t D 0 0 c 0 (mv_ent (mv_ml c) av) [] h (fun v h' => h' = h ∧ v = some (.int (match r with | .inl b => cond b 1 0 | .inr x => x)))
theorem mv_kont_gv {r : Nat} {f : List Value → mv_H → Prop} {v : Option Value} {h : mv_H} (hk : mv_kont r f v h) : mv_gv v ∧ f v.toList h := by
  unfold mv_kont at hk
  split at hk
  · obtain ⟨rfl, hk⟩ := hk; exact ⟨trivial, hk⟩
  · obtain ⟨x, rfl, hk⟩ := hk; exact ⟨trivial, hk⟩
  · obtain ⟨x, rfl, hk⟩ := hk; exact ⟨trivial, hk⟩
  · obtain ⟨x, rfl, hk⟩ := hk; exact ⟨trivial, hk⟩
theorem mv_callB_ok {E : mv_E} {t : mv_T} {P : mv_PT} {al : Nat → Option (Nat × Nat)} {D k n m pc nx c r : Nat} {ls : List (Option Value)} {st av rs : List Value} {h : mv_H} {Q : mv_Q} {go : mv_GT} (hP : mv_Pok E t P) (hgo : ∀ k1 n1 pc1 ls1 st1 h1, go k1 n1 pc1 ls1 st1 h1 → mv_V E t D k1 n1 m pc1 ls1 st1 h1 Q) (g : mv_ag t h)
    (hrule : ∀ (kc nc : Nat) (Qc : mv_Q), kc ≤ k → nc ≤ n → 1 ≤ D → (∀ v h', Qc v h' → mv_gv v) → mv_W E (D - 1) kc nc c 0 (mv_ent (mv_ml c) av) [] h Qc → (∀ v h', Qc v h' → mv_W E D (k - kc) (n - nc) m nx ls (v.toList ++ rs) h' (fun v h' => mv_ag t h' ∧ Q v h')) → mv_W E D k n m pc ls st h (fun v h' => mv_ag t h' ∧ Q v h'))
    (hi : mv_callB t (mv_V E t) P mv_ml al D k n c r nx ls av rs h go) : mv_W E D k n m pc ls st h (fun v h' => mv_ag t h' ∧ Q v h') := by
  unfold mv_callB at hi
  split at hi
  · rename_i d b hb
    obtain ⟨g1, hi⟩ := mv_gdE hi
    have g1 := Nat.le_of_ble_eq_true g1
    refine hrule 0 0 _ (Nat.zero_le _) (Nat.zero_le _) (by omega) ?_ (hP (D - 1) c av h d _ (by omega) hb g) ?_
    · rintro v h' ⟨-, -, rfl⟩; trivial
    · rintro v h' ⟨-, rfl, rfl⟩
      cases b
      · exact hgo _ _ _ _ _ _ hi g
      · exact hgo _ _ _ _ _ _ hi g
  · rename_i d x hb
    obtain ⟨g1, hi⟩ := mv_gdE hi
    have g1 := Nat.le_of_ble_eq_true g1
    refine hrule 0 0 _ (Nat.zero_le _) (Nat.zero_le _) (by omega) ?_ (hP (D - 1) c av h d _ (by omega) hb g) ?_
    · rintro v h' ⟨-, -, rfl⟩; trivial
    · rintro v h' ⟨-, rfl, rfl⟩
      exact hgo _ _ _ _ _ _ hi g
  · split at hi
    · rename_i q hq
      obtain ⟨g1, hi⟩ := mv_gdE hi
      simp only [Bool.and_eq_true] at g1
      refine hrule q.1 q.2 _ (Nat.le_of_ble_eq_true g1.1.2) (Nat.le_of_ble_eq_true g1.2) (Nat.le_of_ble_eq_true g1.1.1) ?_ (hi g) ?_
      · rintro v h' ⟨-, hk⟩; exact (mv_kont_gv hk).1
      · rintro v h' ⟨g', hk⟩; exact hgo _ _ _ _ _ _ (mv_kont_gv hk).2 g'
    · obtain ⟨g1, q, hq1, hq2, hi⟩ := mv_gdE hi
      refine hrule q.1 q.2 _ hq1 hq2 (Nat.le_of_ble_eq_true g1) ?_ (hi g) ?_
      · rintro v h' ⟨-, hk⟩; exact (mv_kont_gv hk).1
      · rintro v h' ⟨g', hk⟩; exact hgo _ _ _ _ _ _ (mv_kont_gv hk).2 g'
theorem mv_rcv_inv {t : mv_T} {h : mv_H} {av : List Value} {kd : Nat} (hr : mv_rcv t h av kd = true) (g : mv_ag t h) : ∃ a av', av = .ref a :: av' ∧ (mv_K h a).1 = kd := by
  unfold mv_rcv at hr
  split at hr
  · rename_i a r
    rw [g.K] at hr
    exact ⟨a, r, rfl, mv_bq hr⟩
  · cases hr
theorem mv_take (st : List Value) (j : Nat) : ((st.take j).reverse).reverse ++ st.drop j = st := by rw [List.reverse_reverse, List.take_append_drop]
section
variable {E : mv_E} {D k n m pc : Nat} {ls : List (Option Value)} {h : mv_H} {Q : mv_Q}
theorem mw_ret {v : Option Value} (hd : decode (mv_cc m) pc = .ok (mv_ri v, 1)) (hr : mv_rok m v) (hq : Q v h) : mv_W E D k n m pc ls v.toList h Q := by
  intro p l e R s mi args below meth c H locs cells slots Z mc ms Ls X Y d1 d2 c1 c2 c3 c4 F
  exact F v h H locs cells slots pc Ls hq Y.1 Y.2.1 (by omega) (by omega) hd hr
end
set_option maxRecDepth 100000 in
theorem mv_rtc3a : ∀ m, m < 324 → mv_rtc m = 3 → mv_rt m = some (.object "RaftHold$Raft") ∨ mv_rt m = some (.array .int) := by decide +kernel
theorem mv_rtc3 {m : Nat} (hm : m < 324) (h : mv_rtc m = 3) : ∃ ty, mv_rt m = some ty ∧ ((∃ n, ty = .object n) ∨ ∃ t, ty = .array t) := by
  rcases mv_rtc3a m hm h with e | e
  · exact ⟨_, e, Or.inl ⟨_, rfl⟩⟩
  · exact ⟨_, e, Or.inr ⟨_, rfl⟩⟩
theorem mv_nar7 {x : Int32} {ty : FieldType} (h : mv_in x 128 = true) (ht : ty = .byte ∨ ty = .char) : narrow ty (.int x) = .int x := by
  have h2 := (mv_in_vp h).2
  obtain ⟨j, hj, rfl⟩ := vp_in_of (mv_in_vp h).1 (by decide)
  have : ∀ j, j < 128 → narrow .byte (.int (nI j)) = .int (nI j) ∧ narrow .char (.int (nI j)) = .int (nI j) := by decide +kernel
  rcases ht with rfl | rfl
  · exact (this j hj).1
  · exact (this j hj).2
theorem mv_special_lo {E : mv_E} {D k n m pc a kd : Nat} {ls : List (Option Value)} {st : List Value} {h : mv_H} {Q : mv_Q} (hk : (mv_K h a).1 = kd) (h1 : kd ≤ 11) (ha : a < 50) : mv_W E D k n m pc ls st h Q := by
  intro p l e R s mi args below meth c H locs cells slots Z mc ms Ls X Y d1 d2 c1 c2 c3 c4 F
  have := (Y.2.1.lt (a := a) (by omega)).1
  omega
set_option maxHeartbeats 4000000 in
set_option maxRecDepth 100000 in
theorem mv_ins_ok {E : mv_E} {t : mv_T} {P : mv_PT} {al : Nat → Option (Nat × Nat)} {D k n m pc len : Nat} {ls : List (Option Value)} {st : List Value} {h : mv_H} {Q : mv_Q} {go : mv_GT} (hP : mv_Pok E t P) (hm : m < 324) (r i : Instr) (hd : decode (mv_cc m) pc = .ok (i, len)) (hlk : mv_lk m pc i len r = true)
    (hgo : ∀ k1 n1 pc1 ls1 st1 h1, go k1 n1 pc1 ls1 st1 h1 → mv_V E t D k1 n1 m pc1 ls1 st1 h1 Q) (hi : mv_ins mv_O t (mv_V E t) P mv_ml al D k n r (pc + len) ls st h Q go) : mv_V E t D k n m pc ls st h Q := by
  intro g
  cases r
  case iload j =>
    simp only [mv_ins] at hi
    simp only [mv_lk, Bool.and_eq_true] at hlk
    obtain ⟨-, hlk⟩ := hlk
    split at hi
    · rename_i x hx
      split at hlk
      · simp only [Bool.and_eq_true] at hlk
        obtain ⟨e1, e2⟩ := hlk
        obtain rfl := mv_bq e1; obtain rfl := mv_bq e2
        exact mw_iload hx hd (hgo _ _ _ _ _ _ hi g)
      · simp only [Bool.and_eq_true] at hlk
        obtain ⟨e1, e2⟩ := hlk
        obtain rfl := mv_bq e1; obtain rfl := mv_bq e2
        exact mw_iload_n hx hd (hgo _ _ _ _ _ _ hi g)
      · cases hlk
    · exact hi.elim
  case lload j =>
    simp only [mv_ins] at hi
    simp only [mv_lk, Bool.and_eq_true] at hlk
    obtain ⟨-, hlk⟩ := hlk
    split at hi
    · rename_i x hx
      split at hlk
      · simp only [Bool.and_eq_true] at hlk
        obtain ⟨e1, e2⟩ := hlk
        obtain rfl := mv_bq e1; obtain rfl := mv_bq e2
        exact mw_lload hx hd (hgo _ _ _ _ _ _ hi g)
      · simp only [Bool.and_eq_true] at hlk
        obtain ⟨e1, e2⟩ := hlk
        obtain rfl := mv_bq e1; obtain rfl := mv_bq e2
        exact mw_lload_n hx hd (hgo _ _ _ _ _ _ hi g)
      · cases hlk
    · exact hi.elim
  case aload j =>
    simp only [mv_ins] at hi
    simp only [mv_lk, Bool.and_eq_true] at hlk
    obtain ⟨-, hlk⟩ := hlk
    split at hi
    · rename_i x hx
      split at hlk
      · simp only [Bool.and_eq_true] at hlk
        obtain ⟨e1, e2⟩ := hlk
        obtain rfl := mv_bq e1; obtain rfl := mv_bq e2
        exact mw_aload hx hd (hgo _ _ _ _ _ _ hi g)
      · simp only [Bool.and_eq_true] at hlk
        obtain ⟨e1, e2⟩ := hlk
        obtain rfl := mv_bq e1; obtain rfl := mv_bq e2
        exact mw_aload_n hx hd (hgo _ _ _ _ _ _ hi g)
      · cases hlk
    · exact hi.elim
  case istore j =>
    simp only [mv_ins] at hi
    simp only [mv_lk, Bool.and_eq_true] at hlk
    obtain ⟨hj, hlk⟩ := hlk
    have hj := Nat.le_of_ble_eq_true hj
    split at hi
    · split at hlk
      · simp only [Bool.and_eq_true] at hlk
        obtain ⟨e1, e2⟩ := hlk
        obtain rfl := mv_bq e1; obtain rfl := mv_bq e2
        exact mw_istore hj hd (hgo _ _ _ _ _ _ hi g)
      · simp only [Bool.and_eq_true] at hlk
        obtain ⟨e1, e2⟩ := hlk
        obtain rfl := mv_bq e1; obtain rfl := mv_bq e2
        exact mw_istore_n hj hd (hgo _ _ _ _ _ _ hi g)
      · cases hlk
    · exact hi.elim
  case lstore j =>
    simp only [mv_ins] at hi
    simp only [mv_lk, Bool.and_eq_true] at hlk
    obtain ⟨hj, hlk⟩ := hlk
    have hj := Nat.le_of_ble_eq_true hj
    split at hi
    · split at hlk
      · simp only [Bool.and_eq_true] at hlk
        obtain ⟨e1, e2⟩ := hlk
        obtain rfl := mv_bq e1; obtain rfl := mv_bq e2
        exact mw_lstore hj hd (hgo _ _ _ _ _ _ hi g)
      · simp only [Bool.and_eq_true] at hlk
        obtain ⟨e1, e2⟩ := hlk
        obtain rfl := mv_bq e1; obtain rfl := mv_bq e2
        exact mw_lstore_n hj hd (hgo _ _ _ _ _ _ hi g)
      · cases hlk
    · exact hi.elim
  case astore j =>
    simp only [mv_ins] at hi
    simp only [mv_lk, Bool.and_eq_true] at hlk
    obtain ⟨hj, hlk⟩ := hlk
    have hj := Nat.le_of_ble_eq_true hj
    split at hi
    · split at hlk
      · simp only [Bool.and_eq_true] at hlk
        obtain ⟨e1, e2⟩ := hlk
        obtain rfl := mv_bq e1; obtain rfl := mv_bq e2
        exact mw_astore hj hd (hgo _ _ _ _ _ _ hi g)
      · simp only [Bool.and_eq_true] at hlk
        obtain ⟨e1, e2⟩ := hlk
        obtain rfl := mv_bq e1; obtain rfl := mv_bq e2
        exact mw_astore_n hj hd (hgo _ _ _ _ _ _ hi g)
      · cases hlk
    · exact hi.elim
  case iconst v =>
    simp only [mv_ins] at hi
    simp only [mv_lk] at hlk
    split at hlk
    · simp only [Bool.and_eq_true, decide_eq_true_eq] at hlk
      obtain ⟨e1, e2⟩ := hlk
      obtain rfl := mv_bq e2
      exact mw_iconst e1 hd (hgo _ _ _ _ _ _ hi g)
    · simp only [Bool.and_eq_true, decide_eq_true_eq] at hlk
      obtain ⟨e1, e2⟩ := hlk
      obtain rfl := mv_bq e2
      exact mw_bipush e1 hd (hgo _ _ _ _ _ _ hi g)
    · simp only [Bool.and_eq_true, decide_eq_true_eq] at hlk
      obtain ⟨e1, e2⟩ := hlk
      obtain rfl := mv_bq e2
      exact mw_sipush e1 hd (hgo _ _ _ _ _ _ hi g)
    · rw [Bool.and_eq_true] at hlk
      obtain ⟨e1, e2⟩ := hlk
      obtain rfl := mv_bq e2
      exact mw_ldci hm e1 hd (hgo _ _ _ _ _ _ hi g)
    · rw [Bool.and_eq_true] at hlk
      obtain ⟨e1, e2⟩ := hlk
      obtain rfl := mv_bq e2
      exact mw_ldcw hm e1 hd (hgo _ _ _ _ _ _ hi g)
    · simp only [Bool.and_eq_true, decide_eq_true_eq] at hlk
      obtain ⟨e1, e3, e2⟩ := hlk
      obtain rfl := mv_bq e2
      rw [e3] at hi
      exact mw_gsC hm e1 hd (hgo _ _ _ _ _ _ hi g)
    · cases hlk
  case jsr_w v =>
    simp only [mv_ins] at hi
    simp only [mv_lk] at hlk
    split at hlk
    · simp only [Bool.and_eq_true, decide_eq_true_eq] at hlk
      obtain ⟨e1, e2⟩ := hlk
      obtain rfl := mv_bq e2
      exact mw_lconst e1 hd (hgo _ _ _ _ _ _ hi g)
    · rw [Bool.and_eq_true] at hlk
      obtain ⟨e1, e2⟩ := hlk
      obtain rfl := mv_bq e2
      exact mw_ldc2 hm e1 hd (hgo _ _ _ _ _ _ hi g)
    · cases hlk
  case ldc a =>
    simp only [mv_ins] at hi
    simp only [mv_lk] at hlk
    split at hlk
    · rw [Bool.and_eq_true] at hlk
      obtain ⟨e1, e2⟩ := hlk
      obtain rfl := mv_bq e2
      exact mw_ldcs hm e1 hd (hgo _ _ _ _ _ _ hi g)
    · simp only [Bool.and_eq_true, Bool.or_eq_true] at hlk
      obtain ⟨e1, e2⟩ := hlk
      obtain rfl := mv_bq e2
      rcases e1 with ⟨e1, e3⟩ | ⟨e1, e3⟩
      · obtain rfl := mv_bq e3; exact mw_gsO hm e1 hd (hgo _ _ _ _ _ _ hi g)
      · obtain rfl := mv_bq e3; exact mw_gsF hm e1 hd (hgo _ _ _ _ _ _ hi g)
    · cases hlk
  case aconst_null  =>
    simp only [mv_ins] at hi
    simp only [mv_lk, Bool.and_eq_true, decide_eq_true_eq] at hlk
    obtain ⟨rfl, e2⟩ := hlk
    obtain rfl := mv_bq e2
    exact mw_null hd (hgo _ _ _ _ _ _ hi g)
  case iadd  =>
    simp only [mv_ins] at hi
    simp only [mv_lk, Bool.and_eq_true, decide_eq_true_eq] at hlk
    obtain ⟨rfl, e2⟩ := hlk
    obtain rfl := mv_bq e2
    split at hi
    · exact mw_iadd hd (hgo _ _ _ _ _ _ hi g)
    · exact hi.elim
  case isub  =>
    simp only [mv_ins] at hi
    simp only [mv_lk, Bool.and_eq_true, decide_eq_true_eq] at hlk
    obtain ⟨rfl, e2⟩ := hlk
    obtain rfl := mv_bq e2
    split at hi
    · exact mw_isub hd (hgo _ _ _ _ _ _ hi g)
    · exact hi.elim
  case imul  =>
    simp only [mv_ins] at hi
    simp only [mv_lk, Bool.and_eq_true, decide_eq_true_eq] at hlk
    obtain ⟨rfl, e2⟩ := hlk
    obtain rfl := mv_bq e2
    split at hi
    · exact mw_imul hd (hgo _ _ _ _ _ _ hi g)
    · exact hi.elim
  case iand  =>
    simp only [mv_ins] at hi
    simp only [mv_lk, Bool.and_eq_true, decide_eq_true_eq] at hlk
    obtain ⟨rfl, e2⟩ := hlk
    obtain rfl := mv_bq e2
    split at hi
    · exact mw_iand hd (hgo _ _ _ _ _ _ hi g)
    · exact hi.elim
  case ior  =>
    simp only [mv_ins] at hi
    simp only [mv_lk, Bool.and_eq_true, decide_eq_true_eq] at hlk
    obtain ⟨rfl, e2⟩ := hlk
    obtain rfl := mv_bq e2
    split at hi
    · exact mw_ior hd (hgo _ _ _ _ _ _ hi g)
    · exact hi.elim
  case ixor  =>
    simp only [mv_ins] at hi
    simp only [mv_lk, Bool.and_eq_true, decide_eq_true_eq] at hlk
    obtain ⟨rfl, e2⟩ := hlk
    obtain rfl := mv_bq e2
    split at hi
    · exact mw_ixor hd (hgo _ _ _ _ _ _ hi g)
    · exact hi.elim
  case ishl  =>
    simp only [mv_ins] at hi
    simp only [mv_lk, Bool.and_eq_true, decide_eq_true_eq] at hlk
    obtain ⟨rfl, e2⟩ := hlk
    obtain rfl := mv_bq e2
    split at hi
    · exact mw_ishl hd (hgo _ _ _ _ _ _ hi g)
    · exact hi.elim
  case ishr  =>
    simp only [mv_ins] at hi
    simp only [mv_lk, Bool.and_eq_true, decide_eq_true_eq] at hlk
    obtain ⟨rfl, e2⟩ := hlk
    obtain rfl := mv_bq e2
    split at hi
    · exact mw_ishr hd (hgo _ _ _ _ _ _ hi g)
    · exact hi.elim
  case iushr  =>
    simp only [mv_ins] at hi
    simp only [mv_lk, Bool.and_eq_true, decide_eq_true_eq] at hlk
    obtain ⟨rfl, e2⟩ := hlk
    obtain rfl := mv_bq e2
    split at hi
    · exact mw_iushr hd (hgo _ _ _ _ _ _ hi g)
    · exact hi.elim
  case ineg  =>
    simp only [mv_ins] at hi
    simp only [mv_lk, Bool.and_eq_true, decide_eq_true_eq] at hlk
    obtain ⟨rfl, e2⟩ := hlk
    obtain rfl := mv_bq e2
    split at hi
    · exact mw_ineg hd (hgo _ _ _ _ _ _ hi g)
    · exact hi.elim
  case ladd  =>
    simp only [mv_ins] at hi
    simp only [mv_lk, Bool.and_eq_true, decide_eq_true_eq] at hlk
    obtain ⟨rfl, e2⟩ := hlk
    obtain rfl := mv_bq e2
    split at hi
    · exact mw_ladd hd (hgo _ _ _ _ _ _ hi g)
    · exact hi.elim
  case lsub  =>
    simp only [mv_ins] at hi
    simp only [mv_lk, Bool.and_eq_true, decide_eq_true_eq] at hlk
    obtain ⟨rfl, e2⟩ := hlk
    obtain rfl := mv_bq e2
    split at hi
    · exact mw_lsub hd (hgo _ _ _ _ _ _ hi g)
    · exact hi.elim
  case lmul  =>
    simp only [mv_ins] at hi
    simp only [mv_lk, Bool.and_eq_true, decide_eq_true_eq] at hlk
    obtain ⟨rfl, e2⟩ := hlk
    obtain rfl := mv_bq e2
    split at hi
    · exact mw_lmul hd (hgo _ _ _ _ _ _ hi g)
    · exact hi.elim
  case land  =>
    simp only [mv_ins] at hi
    simp only [mv_lk, Bool.and_eq_true, decide_eq_true_eq] at hlk
    obtain ⟨rfl, e2⟩ := hlk
    obtain rfl := mv_bq e2
    split at hi
    · exact mw_land hd (hgo _ _ _ _ _ _ hi g)
    · exact hi.elim
  case lor  =>
    simp only [mv_ins] at hi
    simp only [mv_lk, Bool.and_eq_true, decide_eq_true_eq] at hlk
    obtain ⟨rfl, e2⟩ := hlk
    obtain rfl := mv_bq e2
    split at hi
    · exact mw_lor hd (hgo _ _ _ _ _ _ hi g)
    · exact hi.elim
  case lshl  =>
    simp only [mv_ins] at hi
    simp only [mv_lk, Bool.and_eq_true, decide_eq_true_eq] at hlk
    obtain ⟨rfl, e2⟩ := hlk
    obtain rfl := mv_bq e2
    split at hi
    · exact mw_lshl hd (hgo _ _ _ _ _ _ hi g)
    · exact hi.elim
  case lshr  =>
    simp only [mv_ins] at hi
    simp only [mv_lk, Bool.and_eq_true, decide_eq_true_eq] at hlk
    obtain ⟨rfl, e2⟩ := hlk
    obtain rfl := mv_bq e2
    split at hi
    · exact mw_lshr hd (hgo _ _ _ _ _ _ hi g)
    · exact hi.elim
  case i2l  =>
    simp only [mv_ins] at hi
    simp only [mv_lk, Bool.and_eq_true, decide_eq_true_eq] at hlk
    obtain ⟨rfl, e2⟩ := hlk
    obtain rfl := mv_bq e2
    split at hi
    · exact mw_i2l hd (hgo _ _ _ _ _ _ hi g)
    · exact hi.elim
  case l2i  =>
    simp only [mv_ins] at hi
    simp only [mv_lk, Bool.and_eq_true, decide_eq_true_eq] at hlk
    obtain ⟨rfl, e2⟩ := hlk
    obtain rfl := mv_bq e2
    split at hi
    · exact mw_l2i hd (hgo _ _ _ _ _ _ hi g)
    · exact hi.elim
  case i2b  =>
    simp only [mv_ins] at hi
    simp only [mv_lk, Bool.and_eq_true, decide_eq_true_eq] at hlk
    obtain ⟨rfl, e2⟩ := hlk
    obtain rfl := mv_bq e2
    split at hi
    · exact mw_i2b hd (hgo _ _ _ _ _ _ hi g)
    · exact hi.elim
  case i2s  =>
    simp only [mv_ins] at hi
    simp only [mv_lk, Bool.and_eq_true, decide_eq_true_eq] at hlk
    obtain ⟨rfl, e2⟩ := hlk
    obtain rfl := mv_bq e2
    split at hi
    · exact mw_i2s hd (hgo _ _ _ _ _ _ hi g)
    · exact hi.elim
  case i2c  =>
    simp only [mv_ins] at hi
    simp only [mv_lk, Bool.and_eq_true, decide_eq_true_eq] at hlk
    obtain ⟨rfl, e2⟩ := hlk
    obtain rfl := mv_bq e2
    split at hi
    · exact mw_i2c hd (hgo _ _ _ _ _ _ hi g)
    · exact hi.elim
  case lcmp  =>
    simp only [mv_ins] at hi
    simp only [mv_lk, Bool.and_eq_true, decide_eq_true_eq] at hlk
    obtain ⟨rfl, e2⟩ := hlk
    obtain rfl := mv_bq e2
    split at hi
    · exact mw_lcmp hd (hgo _ _ _ _ _ _ hi g)
    · exact hi.elim
  case idiv  =>
    simp only [mv_ins] at hi
    simp only [mv_lk, Bool.and_eq_true, decide_eq_true_eq] at hlk
    obtain ⟨rfl, e2⟩ := hlk
    obtain rfl := mv_bq e2
    split at hi
    · obtain ⟨g1, hi⟩ := mv_gdE hi
      exact mw_idiv (by simpa using g1) hd (hgo _ _ _ _ _ _ hi g)
    · exact hi.elim
  case irem  =>
    simp only [mv_ins] at hi
    simp only [mv_lk, Bool.and_eq_true, decide_eq_true_eq] at hlk
    obtain ⟨rfl, e2⟩ := hlk
    obtain rfl := mv_bq e2
    split at hi
    · obtain ⟨g1, hi⟩ := mv_gdE hi
      exact mw_irem (by simpa using g1) hd (hgo _ _ _ _ _ _ hi g)
    · exact hi.elim
  case ldiv  =>
    simp only [mv_ins] at hi
    simp only [mv_lk, Bool.and_eq_true, decide_eq_true_eq] at hlk
    obtain ⟨rfl, e2⟩ := hlk
    obtain rfl := mv_bq e2
    split at hi
    · obtain ⟨g1, hi⟩ := mv_gdE hi
      exact mw_ldiv (by simpa using g1) hd (hgo _ _ _ _ _ _ hi g)
    · exact hi.elim
  case lrem  =>
    simp only [mv_ins] at hi
    simp only [mv_lk, Bool.and_eq_true, decide_eq_true_eq] at hlk
    obtain ⟨rfl, e2⟩ := hlk
    obtain rfl := mv_bq e2
    split at hi
    · obtain ⟨g1, hi⟩ := mv_gdE hi
      exact mw_lrem (by simpa using g1) hd (hgo _ _ _ _ _ _ hi g)
    · exact hi.elim
  case dup  =>
    simp only [mv_ins] at hi
    simp only [mv_lk, Bool.and_eq_true, decide_eq_true_eq] at hlk
    obtain ⟨rfl, e2⟩ := hlk
    obtain rfl := mv_bq e2
    split at hi
    · obtain ⟨g1, hi⟩ := mv_gdE hi
      exact mw_dup g1 hd (hgo _ _ _ _ _ _ hi g)
    · exact hi.elim
  case pop  =>
    simp only [mv_ins] at hi
    simp only [mv_lk, Bool.and_eq_true, decide_eq_true_eq] at hlk
    obtain ⟨rfl, e2⟩ := hlk
    obtain rfl := mv_bq e2
    split at hi
    · obtain ⟨g1, hi⟩ := mv_gdE hi
      exact mw_pop g1 hd (hgo _ _ _ _ _ _ hi g)
    · exact hi.elim
  case dup2  =>
    simp only [mv_ins] at hi
    simp only [mv_lk, Bool.and_eq_true, decide_eq_true_eq] at hlk
    obtain ⟨rfl, e2⟩ := hlk
    obtain rfl := mv_bq e2
    split at hi
    · obtain ⟨g1, hi⟩ := mv_gdE hi
      rw [Bool.and_eq_true] at g1
      exact mw_dup2 g1.1 g1.2 hd (hgo _ _ _ _ _ _ hi g)
    · exact hi.elim
  case iinc j v =>
    simp only [mv_ins] at hi
    simp only [mv_lk, Bool.and_eq_true] at hlk
    obtain ⟨hj, hlk⟩ := hlk
    have hj := Nat.le_of_ble_eq_true hj
    split at hi
    · rename_i x hx
      split at hlk
      · simp only [Bool.and_eq_true, decide_eq_true_eq] at hlk
        obtain ⟨e1, e3, e2⟩ := hlk
        obtain rfl := mv_bq e1; obtain rfl := mv_bq e2
        exact mw_iinc hx e3 hj hd (hgo _ _ _ _ _ _ hi g)
      · cases hlk
    · exact hi.elim
  case if_icmp c d =>
    simp only [mv_ins] at hi
    simp only [mv_lk] at hlk
    split at hlk
    · simp only [Bool.and_eq_true, decide_eq_true_eq] at hlk
      obtain ⟨rfl, e1, e2⟩ := hlk
      obtain rfl := mv_bq e2
      split at hi
      · exact mw_icmp e1 hd (mv_br_mono (fun hi => hgo _ _ _ _ _ _ hi g) (fun hi => hgo _ _ _ _ _ _ hi g) hi)
      · exact hi.elim
    · cases hlk
  case ifCond c d =>
    simp only [mv_ins] at hi
    simp only [mv_lk] at hlk
    split at hlk
    · simp only [Bool.and_eq_true, decide_eq_true_eq] at hlk
      obtain ⟨rfl, e1, e2⟩ := hlk
      obtain rfl := mv_bq e2
      split at hi
      · exact mw_if e1 hd (mv_br_mono (fun hi => hgo _ _ _ _ _ _ hi g) (fun hi => hgo _ _ _ _ _ _ hi g) hi)
      · exact hi.elim
    · cases hlk
  case if_acmp c d =>
    simp only [mv_ins] at hi
    simp only [mv_lk] at hlk
    split at hlk
    · simp only [Bool.and_eq_true, decide_eq_true_eq] at hlk
      obtain ⟨rfl, e1, e2⟩ := hlk
      obtain rfl := mv_bq e2
      split at hi
      · obtain ⟨g1, hi⟩ := mv_gdE hi
        rw [Bool.and_eq_true] at g1
        refine mw_acmp (Nat.le_of_ble_eq_true g1.1) (Nat.le_of_ble_eq_true g1.2) e1 hd ?_
        rename_i q _ _ y x _ _
        cases q
        · dsimp only at hi ⊢
          split at hi <;> rename_i w
          · rw [if_pos w]; exact hgo _ _ _ _ _ _ hi g
          · rw [if_neg w]; exact hgo _ _ _ _ _ _ hi g
        · dsimp only at hi ⊢
          split at hi <;> rename_i w
          · rw [if_pos w]; exact hgo _ _ _ _ _ _ hi g
          · rw [if_neg w]; exact hgo _ _ _ _ _ _ hi g
      · exact hi.elim
    · cases hlk
  case ifnonnull d =>
    simp only [mv_ins] at hi
    simp only [mv_lk] at hlk
    split at hlk
    · simp only [Bool.and_eq_true, decide_eq_true_eq] at hlk
      obtain ⟨e1, e2⟩ := hlk
      obtain rfl := mv_bq e2
      split at hi
      · obtain ⟨g1, hi⟩ := mv_gdE hi
        rw [Bool.or_eq_true] at g1
        refine mw_nonnull (g1.imp mv_bq Nat.le_of_ble_eq_true) e1 hd ?_
        split at hi <;> rename_i w
        · rw [if_pos w]; exact hgo _ _ _ _ _ _ hi g
        · rw [if_neg w]; exact hgo _ _ _ _ _ _ hi g
      · exact hi.elim
    · cases hlk
  case goto d =>
    simp only [mv_ins] at hi
    simp only [mv_lk] at hlk
    split at hlk
    · simp only [Bool.and_eq_true, decide_eq_true_eq] at hlk
      obtain ⟨e1, e2⟩ := hlk
      obtain rfl := mv_bq e2
      exact mw_goto e1 hd (hgo _ _ _ _ _ _ hi g)
    · cases hlk
  case lookupswitch d qs =>
    simp only [mv_ins] at hi
    simp only [mv_lk] at hlk
    split at hlk
    · simp only [Bool.and_eq_true, decide_eq_true_eq] at hlk
      obtain ⟨e1, e2, e3⟩ := hlk
      split at hi
      · exact mw_lookup e1 e2 e3 hd (mv_sw_mono (fun _ hi => hgo _ _ _ _ _ _ hi g) _ hi)
      · exact hi.elim
    · simp only [Bool.and_eq_true, decide_eq_true_eq] at hlk
      obtain ⟨e1, e2, e3⟩ := hlk
      split at hi
      · exact mw_table e1 e2 e3 hd (mv_sw_mono (fun _ hi => hgo _ _ _ _ _ _ hi g) _ hi)
      · exact hi.elim
    · cases hlk
  case getfield x =>
    simp only [mv_ins] at hi
    simp only [mv_lk] at hlk
    split at hlk
    · rename_i q
      simp only [Bool.and_eq_true, Bool.or_eq_true] at hlk
      obtain ⟨e2, hlk⟩ := hlk
      obtain rfl := mv_bq e2
      split at hi
      · rename_i a rr
        obtain ⟨g1, hi⟩ := mv_gdE hi
        rw [g.K] at g1
        rw [g.R] at hi
        rcases hlk with ⟨e1, e3⟩ | e1
        · refine mw_get hm e1 (mv_bq g1) hd ?_
          cases hb : Nat.beq (x % 4) 1 with
          | true => rw [hb] at hi; rw [if_pos ((mv_bq e3).symm.trans (mv_bq hb))]; exact hgo _ _ _ _ _ _ hi g
          | false =>
            rw [hb] at hi
            have ne : ¬ x % 4 = 1 := fun z => by rw [z] at hb; cases hb
            rw [if_neg (fun z => ne ((mv_bq e3).trans z))]; exact hgo _ _ _ _ _ _ hi g
        · have hx : x / 256 = 30 := by
            obtain ⟨z, hz, -, -, z3⟩ := mv_k3_inv e1
            have := (mv_okG z hz).2
            rw [z3] at this
            rcases this with rfl | rfl <;> rfl
          refine mw_getS hm e1 ((mv_bq g1).trans hx) hd ?_
          cases hb : Nat.beq (x % 4) 1 with
          | true => rw [hb] at hi; rw [if_pos (mv_bq hb)]; exact hgo _ _ _ _ _ _ hi g
          | false =>
            rw [hb] at hi
            rw [if_neg (fun z => by rw [z] at hb; cases hb)]; exact hgo _ _ _ _ _ _ hi g
      · exact hi.elim
    · cases hlk
  case putfield x =>
    simp only [mv_ins] at hi
    simp only [mv_lk] at hlk
    split at hlk
    · rename_i q
      simp only [Bool.and_eq_true] at hlk
      obtain ⟨e2, e1, e3⟩ := hlk
      obtain rfl := mv_bq e2
      have e3 := mv_bq e3
      split at hi
      · obtain ⟨g1, hi⟩ := mv_gdE hi
        rw [g.K] at g1
        simp only [Bool.and_eq_true, Bool.or_eq_true, decide_eq_true_eq] at g1
        refine mw_puti hm e1 (mv_bq g1.1) ?_ hd (hgo _ _ _ _ _ _ hi g.sI)
        rcases g1.2 with z | ⟨z, z2⟩
        · exact Or.inl (e3.symm.trans (mv_bq z))
        · exact Or.inr ⟨e3.symm.trans (mv_bq z), z2⟩
      · obtain ⟨g1, hi⟩ := mv_gdE hi
        rw [g.K] at g1
        simp only [Bool.and_eq_true, Bool.not_eq_true'] at g1
        exact mw_putr hm e1 (mv_bq g1.1.1) (e3.symm.trans (mv_bq g1.1.2)) hd (hgo _ _ _ _ _ _ hi (g.sR g1.2))
      · exact hi.elim
    · cases hlk
  case new ci =>
    simp only [mv_ins] at hi
    simp only [mv_lk] at hlk
    split at hlk
    · simp only [Bool.and_eq_true] at hlk
      obtain ⟨e2, e1⟩ := hlk
      obtain rfl := mv_bq e2
      obtain ⟨g1, hi⟩ := mv_gdE hi
      simp only [Bool.and_eq_true] at g1
      exact mw_new hm e1 (Nat.le_of_ble_eq_true g1.1.1) (Nat.le_of_ble_eq_true g1.1.2) hd (hgo _ _ _ _ _ _ hi g.new)
    · cases hlk
  case newarray a =>
    simp only [mv_ins] at hi
    simp only [mv_lk] at hlk
    split at hlk
    · simp only [Bool.and_eq_true, decide_eq_true_eq] at hlk
      obtain ⟨e2, rfl, e1⟩ := hlk
      obtain rfl := mv_bq e2
      split at hi
      · obtain ⟨g1, hi⟩ := mv_gdE hi
        simp only [Bool.and_eq_true] at g1
        exact mw_newarray e1 (Nat.le_of_ble_eq_true g1.1.1.1) g1.1.1.2 (Nat.le_of_ble_eq_true g1.1.2) hd (hgo _ _ _ _ _ _ hi g.new)
      · exact hi.elim
    · cases hlk
  case anewarray a =>
    simp only [mv_ins] at hi
    simp only [mv_lk] at hlk
    split at hlk
    · simp only [Bool.and_eq_true] at hlk
      obtain ⟨e2, e1⟩ := hlk
      obtain rfl := mv_bq e2
      split at hi
      · obtain ⟨g1, hi⟩ := mv_gdE hi
        simp only [Bool.and_eq_true] at g1
        exact mw_anew hm e1 (Nat.le_of_ble_eq_true g1.1.1.1) g1.1.1.2 (Nat.le_of_ble_eq_true g1.1.2) hd (hgo _ _ _ _ _ _ hi g.new)
      · exact hi.elim
    · cases hlk
  case arraylength  =>
    simp only [mv_ins] at hi
    simp only [mv_lk, Bool.and_eq_true, decide_eq_true_eq] at hlk
    obtain ⟨rfl, e2⟩ := hlk
    obtain rfl := mv_bq e2
    split at hi
    · obtain ⟨g1, hi⟩ := mv_gdE hi
      rw [g.K] at g1 hi
      simp only [Bool.and_eq_true, Bool.or_eq_true] at g1
      rcases g1.2 with z | z
      · exact mw_alen rfl (Nat.le_of_ble_eq_true g1.1) (Nat.le_of_ble_eq_true z) hd (hgo _ _ _ _ _ _ hi g)
      · have z1 := Nat.le_of_ble_eq_true z.1
        have z2 := Nat.le_of_ble_eq_true z.2
        exact mw_alenO (by omega) hd (hgo _ _ _ _ _ _ hi g)
    · exact hi.elim
  case iaload  =>
    simp only [mv_ins] at hi
    simp only [mv_lk, Bool.and_eq_true, decide_eq_true_eq] at hlk
    obtain ⟨rfl, e2⟩ := hlk
    obtain rfl := mv_bq e2
    split at hi
    · obtain ⟨g1, hi⟩ := mv_gdE hi
      rw [g.K] at g1
      simp only [Bool.and_eq_true, Bool.or_eq_true] at g1
      rcases g1.1 with z | z | z
      · exact mw_iaload (mv_bq z) g1.2 hd (hgo _ _ _ _ _ _ hi g)
      · exact mw_ialoadO (mv_bq z) g1.2 hd (hgo _ _ _ _ _ _ hi g)
      · exact mw_ialoadX (mv_bq z) g1.2 hd (hgo _ _ _ _ _ _ hi g)
    · exact hi.elim
  case baload  =>
    simp only [mv_ins] at hi
    simp only [mv_lk, Bool.and_eq_true, decide_eq_true_eq] at hlk
    obtain ⟨rfl, e2⟩ := hlk
    obtain rfl := mv_bq e2
    split at hi
    · obtain ⟨g1, hi⟩ := mv_gdE hi
      rw [g.K] at g1
      simp only [Bool.and_eq_true, Bool.or_eq_true] at g1
      rcases g1.1 with z | z | z
      · exact mw_baload (mv_bq z) (Or.inl rfl) g1.2 hd (hgo _ _ _ _ _ _ hi g)
      · exact mw_baload (mv_bq z) (Or.inr rfl) g1.2 hd (hgo _ _ _ _ _ _ hi g)
      · exact mw_baloadS (mv_bq z) g1.2 hd (hgo _ _ _ _ _ _ hi g)
    · exact hi.elim
  case laload  =>
    simp only [mv_ins] at hi
    simp only [mv_lk, Bool.and_eq_true, decide_eq_true_eq] at hlk
    obtain ⟨rfl, e2⟩ := hlk
    obtain rfl := mv_bq e2
    split at hi
    · obtain ⟨g1, hi⟩ := mv_gdE hi
      rw [g.K] at g1
      simp only [Bool.and_eq_true] at g1
      exact mw_laload (mv_bq g1.1) g1.2 hd (hgo _ _ _ _ _ _ hi g)
    · exact hi.elim
  case aaload  =>
    simp only [mv_ins] at hi
    simp only [mv_lk, Bool.and_eq_true, decide_eq_true_eq] at hlk
    obtain ⟨rfl, e2⟩ := hlk
    obtain rfl := mv_bq e2
    split at hi
    · obtain ⟨g1, hi⟩ := mv_gdE hi
      rw [g.K] at g1
      rw [g.R] at hi
      simp only [Bool.and_eq_true] at g1
      exact mw_aaload rfl (Nat.le_of_ble_eq_true g1.1.1) (Nat.le_of_ble_eq_true g1.1.2) g1.2 hd (hgo _ _ _ _ _ _ hi g)
    · exact hi.elim
  case iastore  =>
    simp only [mv_ins] at hi
    simp only [mv_lk, Bool.and_eq_true, decide_eq_true_eq] at hlk
    obtain ⟨rfl, e2⟩ := hlk
    obtain rfl := mv_bq e2
    split at hi
    · obtain ⟨g1, hi⟩ := mv_gdE hi
      rw [g.K] at g1
      simp only [Bool.and_eq_true] at g1
      exact mw_iastore (mv_bq g1.1) g1.2 hd (hgo _ _ _ _ _ _ hi g.sI)
    · exact hi.elim
  case bastore  =>
    simp only [mv_ins] at hi
    simp only [mv_lk, Bool.and_eq_true, decide_eq_true_eq] at hlk
    obtain ⟨rfl, e2⟩ := hlk
    obtain rfl := mv_bq e2
    split at hi
    · obtain ⟨g1, hi⟩ := mv_gdE hi
      rw [g.K] at g1 hi
      simp only [Bool.and_eq_true, Bool.or_eq_true] at g1
      rcases g1.1 with z | z
      · have z := mv_bq z
        refine mw_bastore z g1.2 hd (hgo _ _ _ _ _ _ ?_ g.sI)
        rw [z] at hi
        exact hi
      · have z := mv_bq z
        refine mw_zastore z g1.2 hd (hgo _ _ _ _ _ _ ?_ g.sI)
        rw [z] at hi
        exact hi
    · exact hi.elim
  case lastore  =>
    simp only [mv_ins] at hi
    simp only [mv_lk, Bool.and_eq_true, decide_eq_true_eq] at hlk
    obtain ⟨rfl, e2⟩ := hlk
    obtain rfl := mv_bq e2
    split at hi
    · obtain ⟨g1, hi⟩ := mv_gdE hi
      rw [g.K] at g1
      simp only [Bool.and_eq_true] at g1
      exact mw_lastore (mv_bq g1.1) g1.2 hd (hgo _ _ _ _ _ _ hi g.sJ)
    · exact hi.elim
  case aastore  =>
    simp only [mv_ins] at hi
    simp only [mv_lk, Bool.and_eq_true, decide_eq_true_eq] at hlk
    obtain ⟨rfl, e2⟩ := hlk
    obtain rfl := mv_bq e2
    split at hi
    · obtain ⟨g1, hi⟩ := mv_gdE hi
      rw [g.K, g.K] at g1
      simp only [Bool.and_eq_true, Bool.not_eq_true'] at g1
      exact mw_aastore rfl (Nat.le_of_ble_eq_true g1.1.1.1.1) (Nat.le_of_ble_eq_true g1.1.1.1.2) g1.1.1.2 (mv_bq g1.1.2) hd (hgo _ _ _ _ _ _ hi (g.sR g1.2))
    · exact hi.elim
  case monitorexit  =>
    simp only [mv_ins] at hi
    simp only [mv_lk] at hlk
    split at hlk
    · rw [Bool.and_eq_true] at hlk
      obtain ⟨e2, e1⟩ := hlk
      obtain rfl := mv_bq e2
      split at hi
      · obtain ⟨g1, hi⟩ := mv_gdE hi
        simp only [Bool.and_eq_true] at g1
        exact mw_objinit hm e1 (Nat.le_of_ble_eq_true g1.1.1) (Nat.le_of_ble_eq_true g1.1.2) (Nat.le_of_ble_eq_true g1.2) hd (hgo _ _ _ _ _ _ hi g)
      · exact hi.elim
    · cases hlk
  case fadd  =>
    simp only [mv_ins] at hi
    simp only [mv_lk] at hlk
    split at hlk
    · rw [Bool.and_eq_true] at hlk
      obtain ⟨e2, e1⟩ := hlk
      obtain rfl := mv_bq e2
      split at hi
      · obtain ⟨g1, hi⟩ := mv_gdE hi
        simp only [Bool.and_eq_true] at g1
        exact mw_mmax hm e1 (Nat.le_of_ble_eq_true g1.1) (Nat.le_of_ble_eq_true g1.2) hd (hgo _ _ _ _ _ _ hi g)
      · exact hi.elim
    · cases hlk
  case fsub  =>
    simp only [mv_ins] at hi
    simp only [mv_lk] at hlk
    split at hlk
    · rw [Bool.and_eq_true] at hlk
      obtain ⟨e2, e1⟩ := hlk
      obtain rfl := mv_bq e2
      split at hi
      · obtain ⟨g1, hi⟩ := mv_gdE hi
        simp only [Bool.and_eq_true] at g1
        exact mw_mmin hm e1 (Nat.le_of_ble_eq_true g1.1) (Nat.le_of_ble_eq_true g1.2) hd (hgo _ _ _ _ _ _ hi g)
      · exact hi.elim
    · cases hlk
  case invokedynamic z =>
    simp only [mv_ins] at hi
    simp only [mv_lk] at hlk
    split at hlk
    · rw [Bool.and_eq_true] at hlk
      obtain ⟨e2, e1⟩ := hlk
      obtain rfl := mv_bq e2
      split at hi
      · obtain ⟨g1, hi⟩ := mv_gdE hi
        rw [g.K, g.K] at g1
        simp only [Bool.and_eq_true] at g1
        obtain ⟨⟨⟨⟨⟨⟨z1, z2⟩, z3⟩, ⟨z4, z5⟩, z6⟩, z7⟩, z8⟩, z9⟩ := g1
        exact mw_copy hm e1 (Nat.le_of_ble_eq_true z1) (mv_bq z2) (mv_bq z3) z4 z5 z6 (Nat.le_of_ble_eq_true z7) (Nat.le_of_ble_eq_true z8) (Nat.le_of_ble_eq_true z9) hd (hgo _ _ _ _ _ _ hi g.cp)
      · exact hi.elim
    · cases hlk
  case invokestatic x =>
    simp only [mv_ins] at hi
    simp only [mv_lk] at hlk
    split at hlk
    · simp only [Bool.and_eq_true] at hlk
      obtain ⟨e2, e1, e3, e4, e5⟩ := hlk
      obtain rfl := mv_bq e2
      unfold mv_ic at e3
      simp only [Bool.and_eq_true, Bool.not_eq_true'] at e3
      obtain ⟨⟨⟨⟨i1, i2⟩, i3⟩, i4⟩, i5⟩ := e3
      have i1 := Nat.le_of_ble_eq_true i1
      have i2 := Nat.le_of_ble_eq_true i2
      have i34 : ¬ x / 32 % 512 = 307 ∧ ¬ x / 32 % 512 = 308 := ⟨fun z => (by rw [z] at i3; cases i3), fun z => (by rw [z] at i4; cases i4)⟩
      unfold mv_call at hi
      obtain ⟨g1, hi⟩ := mv_gdE hi
      simp only [Bool.and_eq_true] at g1
      obtain ⟨⟨⟨j1, j2⟩, j3⟩, j4⟩ := g1
      have j1 := Nat.le_of_ble_eq_true j1
      have j2 := Nat.le_of_ble_eq_true j2
      have j3 := Nat.le_of_ble_eq_true j3
      refine mv_callB_ok hP hgo g (fun kc nc Qc q1 q2 q3 q4 q5 q6 => ?_) hi
      have hst := mv_take st (x / 4 % 8)
      have hlen : (st.take (x / 4 % 8)).reverse.length = x / 4 % 8 := by rw [List.length_reverse, List.length_take]; omega
      generalize (st.take (x / 4 % 8)).reverse = av at *
      rw [← hst]
      exact mw_static hm i1 (by omega) i34 e1 (mv_bq e4) (hlen.trans (mv_bq e5)) j3 j2 q3 q1 q2 hd q4 q5 q6
    · cases hlk
  case invokevirtual x =>
    simp only [mv_ins] at hi
    simp only [mv_lk] at hlk
    split at hlk
    · simp only [Bool.and_eq_true, Bool.or_eq_true, decide_eq_true_eq, Bool.not_eq_true', decide_eq_false_iff_not] at hlk
      obtain ⟨e2, e1, e3, e4, e5, e6, e7⟩ := hlk
      obtain rfl := mv_bq e2
      unfold mv_ic at e3
      simp only [Bool.and_eq_true, Bool.not_eq_true'] at e3
      obtain ⟨⟨⟨⟨i1, i2⟩, i3⟩, i4⟩, i5⟩ := e3
      have i1 := Nat.le_of_ble_eq_true i1
      have i2 := Nat.le_of_ble_eq_true i2
      have i34 : ¬ x / 32 % 512 = 307 ∧ ¬ x / 32 % 512 = 308 := ⟨fun z => (by rw [z] at i3; cases i3), fun z => (by rw [z] at i4; cases i4)⟩
      unfold mv_call at hi
      obtain ⟨g1, hi⟩ := mv_gdE hi
      simp only [Bool.and_eq_true] at g1
      obtain ⟨⟨⟨j1, j2⟩, j3⟩, j4⟩ := g1
      have j1 := Nat.le_of_ble_eq_true j1
      have j2 := Nat.le_of_ble_eq_true j2
      have j3 := Nat.le_of_ble_eq_true j3
      refine mv_callB_ok hP hgo g (fun kc nc Qc q1 q2 q3 q4 q5 q6 => ?_) hi
      have hst := mv_take st (x / 4 % 8)
      have hlen : (st.take (x / 4 % 8)).reverse.length = x / 4 % 8 := by rw [List.length_reverse, List.length_take]; omega
      generalize (st.take (x / 4 % 8)).reverse = av at *
      rw [← hst]
      obtain ⟨a, av', rfl, hk⟩ := mv_rcv_inv (by simpa using j4) g
      exact mw_virtual hm i1 (by omega) i34 e1 (mv_bq e4) (hlen.trans (mv_bq e5)) e6 hk (e7.imp (fun z => ⟨Nat.le_of_ble_eq_true z.1, z.2⟩) (fun z => ⟨mv_bq z.1, z.2⟩)) j3 j2 q3 q1 q2 hd q4 q5 q6
    · cases hlk
  case invokespecial x =>
    simp only [mv_ins] at hi
    simp only [mv_lk] at hlk
    split at hlk
    · simp only [Bool.and_eq_true, decide_eq_true_eq] at hlk
      obtain ⟨e2, e1, e3, e4, e5, e6, e7, e8⟩ := hlk
      obtain rfl := mv_bq e2
      unfold mv_ic at e3
      simp only [Bool.and_eq_true, Bool.not_eq_true'] at e3
      obtain ⟨⟨⟨⟨i1, i2⟩, i3⟩, i4⟩, i5⟩ := e3
      have i1 := Nat.le_of_ble_eq_true i1
      have i2 := Nat.le_of_ble_eq_true i2
      have i34 : ¬ x / 32 % 512 = 307 ∧ ¬ x / 32 % 512 = 308 := ⟨fun z => (by rw [z] at i3; cases i3), fun z => (by rw [z] at i4; cases i4)⟩
      unfold mv_call at hi
      obtain ⟨g1, hi⟩ := mv_gdE hi
      simp only [Bool.and_eq_true] at g1
      obtain ⟨⟨⟨j1, j2⟩, j3⟩, j4⟩ := g1
      have j1 := Nat.le_of_ble_eq_true j1
      have j2 := Nat.le_of_ble_eq_true j2
      have j3 := Nat.le_of_ble_eq_true j3
      refine mv_callB_ok hP hgo g (fun kc nc Qc q1 q2 q3 q4 q5 q6 => ?_) hi
      have hst := mv_take st (x / 4 % 8)
      have hlen : (st.take (x / 4 % 8)).reverse.length = x / 4 % 8 := by rw [List.length_reverse, List.length_take]; omega
      generalize (st.take (x / 4 % 8)).reverse = av at *
      rw [← hst]
      obtain ⟨a, av', rfl, hk⟩ := mv_rcv_inv (by simpa using j4) g
      have e8 := Nat.le_of_ble_eq_true e8
      rcases Nat.lt_or_ge a 50 with z | z
      · exact mv_special_lo hk e8 z
      · exact mw_special hm i1 (by omega) i34 e1 (mv_bq e4) (hlen.trans (mv_bq e5)) e6 e7 z j3 j2 q3 q1 q2 hd q4 q5 q6
    · cases hlk
  case ireturn  =>
    simp only [mv_ins] at hi
    simp only [mv_lk, Bool.and_eq_true, decide_eq_true_eq] at hlk
    obtain ⟨rfl, e2, e1⟩ := hlk
    obtain rfl := mv_bq e2
    split at hi
    · exact mw_ret (v := some (.int _)) hd ⟨_, e1, rfl⟩ ⟨g, hi⟩
    · exact hi.elim
  case freturn  =>
    simp only [mv_ins] at hi
    simp only [mv_lk, Bool.and_eq_true, decide_eq_true_eq] at hlk
    obtain ⟨rfl, e2, e1⟩ := hlk
    obtain rfl := mv_bq e2
    split at hi
    · obtain ⟨g1, hi⟩ := mv_gdE hi
      rw [Bool.or_eq_true, decide_eq_true_eq, decide_eq_true_eq] at g1
      exact mw_ret (v := some (.int _)) hd ⟨_, e1, by rcases g1 with rfl | rfl <;> rfl⟩ ⟨g, hi⟩
    · exact hi.elim
  case dreturn  =>
    simp only [mv_ins] at hi
    simp only [mv_lk, Bool.and_eq_true, decide_eq_true_eq] at hlk
    obtain ⟨rfl, e2, e1⟩ := hlk
    obtain rfl := mv_bq e2
    split at hi
    · obtain ⟨g1, hi⟩ := mv_gdE hi
      exact mw_ret (v := some (.int _)) hd (by rcases e1 with e1 | e1; exact ⟨_, e1, mv_nar7 g1 (Or.inl rfl)⟩; exact ⟨_, e1, mv_nar7 g1 (Or.inr rfl)⟩) ⟨g, hi⟩
    · exact hi.elim
  case lreturn  =>
    simp only [mv_ins] at hi
    simp only [mv_lk, Bool.and_eq_true, decide_eq_true_eq] at hlk
    obtain ⟨rfl, e2, e1⟩ := hlk
    obtain rfl := mv_bq e2
    split at hi
    · exact mw_ret (v := some (.long _)) hd e1 ⟨g, hi⟩
    · exact hi.elim
  case areturn  =>
    simp only [mv_ins] at hi
    simp only [mv_lk, Bool.and_eq_true, decide_eq_true_eq] at hlk
    obtain ⟨rfl, e2, e1⟩ := hlk
    obtain rfl := mv_bq e2
    split at hi
    · exact mw_ret (v := some (.ref _)) hd (mv_rtc3 hm (mv_bq e1)) ⟨g, hi⟩
    · exact hi.elim
  case return_  =>
    simp only [mv_ins] at hi
    simp only [mv_lk, Bool.and_eq_true, decide_eq_true_eq] at hlk
    obtain ⟨rfl, e2, e1⟩ := hlk
    obtain rfl := mv_bq e2
    split at hi
    · exact mw_ret (v := none) hd e1 ⟨g, hi⟩
    · exact hi.elim
  all_goals exact hi.elim
