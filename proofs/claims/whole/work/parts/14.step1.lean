/-! One instruction of the great machine, as the small one tells it: locals, numbers, branches. -/
section
variable {E : mv_E} {D k n m pc : Nat} {ls : List (Option Value)} {st : List Value} {h : mv_H} {Q : mv_Q}
theorem mv_lget {s : State} {H : Heap} {locs : List Loc} {Ls : Array Slot} {j : Nat} {v : Value} (Y : mv_Dy E m s H locs Ls ls h) (hg : mv_ge ls j = some v) : Ls[j]? = some (.val (mv_v E v)) := Y.2.2.1.2.2 (j, mv_v E v) ((mv_prs_mem _ _ _).mpr ⟨j, v, hg, by simp⟩)
theorem mv_s1_len (ls : List (Option Value)) (j : Nat) (v : Value) : (mv_s1 ls j v).length = ls.length := by
  unfold mv_s1; rw [mv_se_len, mv_kl_len]
theorem mv_s2_len (ls : List (Option Value)) (j : Nat) (v : Value) : (mv_s2 ls j v).length = ls.length := by
  unfold mv_s2; rw [mv_se_len, mv_se_len, mv_kl_len]
theorem mw_iload {j : Nat} {x : Int32} (hg : mv_ge ls j = some (.int x)) (hd : decode (mv_cc m) pc = .ok (.iload j, 2)) (hk : mv_W E D k n m (pc + 2) ls (.int x :: st) h Q) : mv_W E D k n m pc ls (st) h Q := mv_go (fun p l e R s mi args below meth c H locs cells slots Z Ls X Y w => lv_iload X.1 X.2.1 hd (mv_lget Y hg) w) hk
theorem mw_iload_n {j : Fin 4} {x : Int32} (hg : mv_ge ls j.val = some (.int x)) (hd : decode (mv_cc m) pc = .ok (.iload_n j, 1)) (hk : mv_W E D k n m (pc + 1) ls (.int x :: st) h Q) : mv_W E D k n m pc ls (st) h Q := mv_go (fun p l e R s mi args below meth c H locs cells slots Z Ls X Y w => lv_iload_n X.1 X.2.1 hd rfl (mv_lget Y hg) w) hk
theorem mw_lload {j : Nat} {x : Int64} (hg : mv_ge ls j = some (.long x)) (hd : decode (mv_cc m) pc = .ok (.lload j, 2)) (hk : mv_W E D k n m (pc + 2) ls (.long x :: st) h Q) : mv_W E D k n m pc ls (st) h Q := mv_go (fun p l e R s mi args below meth c H locs cells slots Z Ls X Y w => lv_lload X.1 X.2.1 hd (mv_lget Y hg) w) hk
theorem mw_lload_n {j : Fin 4} {x : Int64} (hg : mv_ge ls j.val = some (.long x)) (hd : decode (mv_cc m) pc = .ok (.lload_n j, 1)) (hk : mv_W E D k n m (pc + 1) ls (.long x :: st) h Q) : mv_W E D k n m pc ls (st) h Q := mv_go (fun p l e R s mi args below meth c H locs cells slots Z Ls X Y w => lv_lload_n X.1 X.2.1 hd rfl (mv_lget Y hg) w) hk
theorem mw_aload {j : Nat} {x : Nat} (hg : mv_ge ls j = some (.ref x)) (hd : decode (mv_cc m) pc = .ok (.aload j, 2)) (hk : mv_W E D k n m (pc + 2) ls (.ref x :: st) h Q) : mv_W E D k n m pc ls st h Q := mv_go (fun p l e R s mi args below meth c H locs cells slots Z Ls X Y w => by
  have hl : Ls[j]? = some (.val (va_rf (mv_ad E x))) := mv_lget Y hg
  have w : W p l e R s mi args below meth c H locs cells slots Z (F0 mi (pc + 2) Ls (va_rf (mv_ad E x) :: st.map (mv_v E))) := w
  cases hq : mv_ad E x with
  | none => rw [hq] at hl w; exact lv_aloadN X.1 X.2.1 hd hl w
  | some a => rw [hq] at hl w; exact lv_aload X.1 X.2.1 hd hl w) hk
theorem mw_aload_n {j : Fin 4} {x : Nat} (hg : mv_ge ls j.val = some (.ref x)) (hd : decode (mv_cc m) pc = .ok (.aload_n j, 1)) (hk : mv_W E D k n m (pc + 1) ls (.ref x :: st) h Q) : mv_W E D k n m pc ls st h Q := mv_go (fun p l e R s mi args below meth c H locs cells slots Z Ls X Y w => by
  have hl : Ls[j.val]? = some (.val (va_rf (mv_ad E x))) := mv_lget Y hg
  have w : W p l e R s mi args below meth c H locs cells slots Z (F0 mi (pc + 1) Ls (va_rf (mv_ad E x) :: st.map (mv_v E))) := w
  cases hq : mv_ad E x with
  | none => rw [hq] at hl w; exact lv_aload_nN X.1 X.2.1 hd rfl hl w
  | some a => rw [hq] at hl w; exact lv_aload_n X.1 X.2.1 hd rfl hl w) hk
theorem mw_istore {j : Nat} {x : Int32} (hj : j < mv_ml m) (hd : decode (mv_cc m) pc = .ok (.istore j, 2)) (hk : mv_W E D k n m (pc + 2) (mv_s1 ls j (.int x)) st h Q) : mv_W E D k n m pc ls (.int x :: st) h Q := by
  intro p l e R s mi args below meth c H locs cells slots Z mc ms Ls X Y d1 d2 c1 c2 c3 c4 F
  refine lv_istore X.1 X.2.1 hd Y.2.2.1 hj rfl fun ls' hl => ?_
  exact hk p l e R s mi args below meth c H locs cells slots Z mc ms ls' X ⟨Y.1, Y.2.1, mv_s1_has hl, by rw [mv_s1_len]; exact Y.2.2.2⟩ d1 d2 c1 c2 c3 c4 F
theorem mw_istore_n {j : Fin 4} {x : Int32} (hj : j.val < mv_ml m) (hd : decode (mv_cc m) pc = .ok (.istore_n j, 1)) (hk : mv_W E D k n m (pc + 1) (mv_s1 ls j.val (.int x)) st h Q) : mv_W E D k n m pc ls (.int x :: st) h Q := by
  intro p l e R s mi args below meth c H locs cells slots Z mc ms Ls X Y d1 d2 c1 c2 c3 c4 F
  refine lv_istore_n X.1 X.2.1 hd rfl Y.2.2.1 hj rfl fun ls' hl => ?_
  exact hk p l e R s mi args below meth c H locs cells slots Z mc ms ls' X ⟨Y.1, Y.2.1, mv_s1_has hl, by rw [mv_s1_len]; exact Y.2.2.2⟩ d1 d2 c1 c2 c3 c4 F
theorem mw_lstore {j : Nat} {x : Int64} (hj : j + 1 < mv_ml m) (hd : decode (mv_cc m) pc = .ok (.lstore j, 2)) (hk : mv_W E D k n m (pc + 2) (mv_s2 ls j (.long x)) st h Q) : mv_W E D k n m pc ls (.long x :: st) h Q := by
  intro p l e R s mi args below meth c H locs cells slots Z mc ms Ls X Y d1 d2 c1 c2 c3 c4 F
  refine lv_lstore X.1 X.2.1 hd Y.2.2.1 hj rfl fun ls' hl => ?_
  exact hk p l e R s mi args below meth c H locs cells slots Z mc ms ls' X ⟨Y.1, Y.2.1, mv_s2_has (by rw [Y.2.2.2]; exact hj) hl, by rw [mv_s2_len]; exact Y.2.2.2⟩ d1 d2 c1 c2 c3 c4 F
theorem mw_lstore_n {j : Fin 4} {x : Int64} (hj : j.val + 1 < mv_ml m) (hd : decode (mv_cc m) pc = .ok (.lstore_n j, 1)) (hk : mv_W E D k n m (pc + 1) (mv_s2 ls j.val (.long x)) st h Q) : mv_W E D k n m pc ls (.long x :: st) h Q := by
  intro p l e R s mi args below meth c H locs cells slots Z mc ms Ls X Y d1 d2 c1 c2 c3 c4 F
  refine lv_lstore_n X.1 X.2.1 hd rfl Y.2.2.1 hj rfl fun ls' hl => ?_
  exact hk p l e R s mi args below meth c H locs cells slots Z mc ms ls' X ⟨Y.1, Y.2.1, mv_s2_has (by rw [Y.2.2.2]; exact hj) hl, by rw [mv_s2_len]; exact Y.2.2.2⟩ d1 d2 c1 c2 c3 c4 F
theorem mw_astore {j : Nat} {x : Nat} (hj : j < mv_ml m) (hd : decode (mv_cc m) pc = .ok (.astore j, 2)) (hk : mv_W E D k n m (pc + 2) (mv_s1 ls j (.ref x)) st h Q) : mv_W E D k n m pc ls (.ref x :: st) h Q := by
  intro p l e R s mi args below meth c H locs cells slots Z mc ms Ls X Y d1 d2 c1 c2 c3 c4 F
  show W p l e R s mi args below meth c H locs cells slots Z (F0 mi pc Ls (va_rf (mv_ad E x) :: st.map (mv_v E)))
  have fin : ∀ ls' : Array Slot, lv_has ls' (mv_ml m) ((j, mv_v E (.ref x)) :: (mv_prs E 0 ls).filter (fun q => !(q.1 == j) && !(q.1 + 1 == j && q.2.category == 2))) → W p l e R s mi args below meth c H locs cells slots Z (F0 mi (pc + 2) ls' (st.map (mv_v E))) := fun ls' hl => hk p l e R s mi args below meth c H locs cells slots Z mc ms ls' X ⟨Y.1, Y.2.1, mv_s1_has hl, by rw [mv_s1_len]; exact Y.2.2.2⟩ d1 d2 c1 c2 c3 c4 F
  have e : mv_v E (.ref x) = va_rf (mv_ad E x) := rfl
  rw [e] at fin
  cases hq : mv_ad E x with
  | none => rw [hq] at fin; exact lv_astoreN X.1 X.2.1 hd Y.2.2.1 hj rfl fin
  | some a => rw [hq] at fin; exact lv_astore X.1 X.2.1 hd Y.2.2.1 hj rfl fin
theorem mw_astore_n {j : Fin 4} {x : Nat} (hj : j.val < mv_ml m) (hd : decode (mv_cc m) pc = .ok (.astore_n j, 1)) (hk : mv_W E D k n m (pc + 1) (mv_s1 ls j.val (.ref x)) st h Q) : mv_W E D k n m pc ls (.ref x :: st) h Q := by
  intro p l e R s mi args below meth c H locs cells slots Z mc ms Ls X Y d1 d2 c1 c2 c3 c4 F
  show W p l e R s mi args below meth c H locs cells slots Z (F0 mi pc Ls (va_rf (mv_ad E x) :: st.map (mv_v E)))
  have fin : ∀ ls' : Array Slot, lv_has ls' (mv_ml m) ((j.val, mv_v E (.ref x)) :: (mv_prs E 0 ls).filter (fun q => !(q.1 == j.val) && !(q.1 + 1 == j.val && q.2.category == 2))) → W p l e R s mi args below meth c H locs cells slots Z (F0 mi (pc + 1) ls' (st.map (mv_v E))) := fun ls' hl => hk p l e R s mi args below meth c H locs cells slots Z mc ms ls' X ⟨Y.1, Y.2.1, mv_s1_has hl, by rw [mv_s1_len]; exact Y.2.2.2⟩ d1 d2 c1 c2 c3 c4 F
  have e : mv_v E (.ref x) = va_rf (mv_ad E x) := rfl
  rw [e] at fin
  cases hq : mv_ad E x with
  | none => rw [hq] at fin; exact lv_astore_nN X.1 X.2.1 hd rfl Y.2.2.1 hj rfl fin
  | some a => rw [hq] at fin; exact lv_astore_n X.1 X.2.1 hd rfl Y.2.2.1 hj rfl fin
theorem mw_iinc {j : Nat} {u : Int} {x v : Int32} (hg : mv_ge ls j = some (.int x)) (hv : Int32.ofInt u = v) (hj : j < mv_ml m) (hd : decode (mv_cc m) pc = .ok (.iinc j u, 3)) (hk : mv_W E D k n m (pc + 3) (mv_s1 ls j (.int (x + v))) st h Q) : mv_W E D k n m pc ls st h Q := by
  intro p l e R s mi args below meth c H locs cells slots Z mc ms Ls X Y d1 d2 c1 c2 c3 c4 F
  obtain ⟨i, hi⟩ := List.getElem?_of_mem ((mv_prs_mem (E := E) ls 0 (j, .int x)).mpr ⟨j, .int x, hg, by simp [mv_v]⟩)
  refine lv_iinc X.1 X.2.1 hd Y.2.2.1 hi (by rw [hv]) hj rfl fun ls' hl => ?_
  exact hk p l e R s mi args below meth c H locs cells slots Z mc ms ls' X ⟨Y.1, Y.2.1, mv_s1_has hl, by rw [mv_s1_len]; exact Y.2.2.2⟩ d1 d2 c1 c2 c3 c4 F
theorem mw_iconst {q : Int} {v : Int32} (hv : Int32.ofInt q = v) (hd : decode (mv_cc m) pc = .ok (.iconst q, 1)) (hk : mv_W E D k n m (pc + 1) ls (.int v :: st) h Q) : mv_W E D k n m pc ls (st) h Q := mv_go (fun p l e R s mi args below meth c H locs cells slots Z Ls X Y w => lv_iconst X.1 X.2.1 hd hv w) hk
theorem mw_bipush {q : Int} {v : Int32} (hv : (Int8.ofInt q).toInt32 = v) (hd : decode (mv_cc m) pc = .ok (.bipush q, 2)) (hk : mv_W E D k n m (pc + 2) ls (.int v :: st) h Q) : mv_W E D k n m pc ls (st) h Q := mv_go (fun p l e R s mi args below meth c H locs cells slots Z Ls X Y w => lv_bipush X.1 X.2.1 hd hv w) hk
theorem mw_sipush {q : Int} {v : Int32} (hv : (Int16.ofInt q).toInt32 = v) (hd : decode (mv_cc m) pc = .ok (.sipush q, 3)) (hk : mv_W E D k n m (pc + 3) ls (.int v :: st) h Q) : mv_W E D k n m pc ls (st) h Q := mv_go (fun p l e R s mi args below meth c H locs cells slots Z Ls X Y w => lv_sipush X.1 X.2.1 hd hv w) hk
theorem mw_lconst {q : Fin 2} {v : Int64} (hv : Int64.ofNat (q : Nat) = v) (hd : decode (mv_cc m) pc = .ok (.lconst q, 1)) (hk : mv_W E D k n m (pc + 1) ls (.long v :: st) h Q) : mv_W E D k n m pc ls (st) h Q := mv_go (fun p l e R s mi args below meth c H locs cells slots Z Ls X Y w => lv_lconst X.1 X.2.1 hd hv w) hk
theorem mw_null (hd : decode (mv_cc m) pc = .ok (.aconst_null, 1)) (hk : mv_W E D k n m (pc + 1) ls (.ref 0 :: st) h Q) : mv_W E D k n m pc ls st h Q := mv_go (fun p l e R s mi args below meth c H locs cells slots Z Ls X Y w => lv_null X.1 X.2.1 hd w) hk
theorem mw_iadd {x y : Int32} (hd : decode (mv_cc m) pc = .ok (.iadd, 1)) (hk : mv_W E D k n m (pc + 1) ls (.int (x + y) :: st) h Q) : mv_W E D k n m pc ls (.int y :: .int x :: st) h Q := mv_go (fun p l e R s mi args below meth c H locs cells slots Z Ls X Y w => lv_iadd X.1 X.2.1 hd w) hk
theorem mw_isub {x y : Int32} (hd : decode (mv_cc m) pc = .ok (.isub, 1)) (hk : mv_W E D k n m (pc + 1) ls (.int (x - y) :: st) h Q) : mv_W E D k n m pc ls (.int y :: .int x :: st) h Q := mv_go (fun p l e R s mi args below meth c H locs cells slots Z Ls X Y w => lv_isub X.1 X.2.1 hd w) hk
theorem mw_imul {x y : Int32} (hd : decode (mv_cc m) pc = .ok (.imul, 1)) (hk : mv_W E D k n m (pc + 1) ls (.int (x * y) :: st) h Q) : mv_W E D k n m pc ls (.int y :: .int x :: st) h Q := mv_go (fun p l e R s mi args below meth c H locs cells slots Z Ls X Y w => lv_imul X.1 X.2.1 hd w) hk
theorem mw_iand {x y : Int32} (hd : decode (mv_cc m) pc = .ok (.iand, 1)) (hk : mv_W E D k n m (pc + 1) ls (.int (x &&& y) :: st) h Q) : mv_W E D k n m pc ls (.int y :: .int x :: st) h Q := mv_go (fun p l e R s mi args below meth c H locs cells slots Z Ls X Y w => lv_iand X.1 X.2.1 hd w) hk
theorem mw_ior {x y : Int32} (hd : decode (mv_cc m) pc = .ok (.ior, 1)) (hk : mv_W E D k n m (pc + 1) ls (.int (x ||| y) :: st) h Q) : mv_W E D k n m pc ls (.int y :: .int x :: st) h Q := mv_go (fun p l e R s mi args below meth c H locs cells slots Z Ls X Y w => lv_ior X.1 X.2.1 hd w) hk
theorem mw_ixor {x y : Int32} (hd : decode (mv_cc m) pc = .ok (.ixor, 1)) (hk : mv_W E D k n m (pc + 1) ls (.int (x ^^^ y) :: st) h Q) : mv_W E D k n m pc ls (.int y :: .int x :: st) h Q := mv_go (fun p l e R s mi args below meth c H locs cells slots Z Ls X Y w => lv_ixor X.1 X.2.1 hd w) hk
theorem mw_ishl {x y : Int32} (hd : decode (mv_cc m) pc = .ok (.ishl, 1)) (hk : mv_W E D k n m (pc + 1) ls (.int (x <<< (y &&& 31)) :: st) h Q) : mv_W E D k n m pc ls (.int y :: .int x :: st) h Q := mv_go (fun p l e R s mi args below meth c H locs cells slots Z Ls X Y w => lv_ishl X.1 X.2.1 hd w) hk
theorem mw_ishr {x y : Int32} (hd : decode (mv_cc m) pc = .ok (.ishr, 1)) (hk : mv_W E D k n m (pc + 1) ls (.int (x >>> (y &&& 31)) :: st) h Q) : mv_W E D k n m pc ls (.int y :: .int x :: st) h Q := mv_go (fun p l e R s mi args below meth c H locs cells slots Z Ls X Y w => lv_ishr X.1 X.2.1 hd w) hk
theorem mw_ladd {x y : Int64} (hd : decode (mv_cc m) pc = .ok (.ladd, 1)) (hk : mv_W E D k n m (pc + 1) ls (.long (x + y) :: st) h Q) : mv_W E D k n m pc ls (.long y :: .long x :: st) h Q := mv_go (fun p l e R s mi args below meth c H locs cells slots Z Ls X Y w => lv_ladd X.1 X.2.1 hd w) hk
theorem mw_lsub {x y : Int64} (hd : decode (mv_cc m) pc = .ok (.lsub, 1)) (hk : mv_W E D k n m (pc + 1) ls (.long (x - y) :: st) h Q) : mv_W E D k n m pc ls (.long y :: .long x :: st) h Q := mv_go (fun p l e R s mi args below meth c H locs cells slots Z Ls X Y w => lv_lsub X.1 X.2.1 hd w) hk
theorem mw_lmul {x y : Int64} (hd : decode (mv_cc m) pc = .ok (.lmul, 1)) (hk : mv_W E D k n m (pc + 1) ls (.long (x * y) :: st) h Q) : mv_W E D k n m pc ls (.long y :: .long x :: st) h Q := mv_go (fun p l e R s mi args below meth c H locs cells slots Z Ls X Y w => lv_lmul X.1 X.2.1 hd w) hk
theorem mw_land {x y : Int64} (hd : decode (mv_cc m) pc = .ok (.land, 1)) (hk : mv_W E D k n m (pc + 1) ls (.long (x &&& y) :: st) h Q) : mv_W E D k n m pc ls (.long y :: .long x :: st) h Q := mv_go (fun p l e R s mi args below meth c H locs cells slots Z Ls X Y w => lv_land X.1 X.2.1 hd w) hk
theorem mw_lor {x y : Int64} (hd : decode (mv_cc m) pc = .ok (.lor, 1)) (hk : mv_W E D k n m (pc + 1) ls (.long (x ||| y) :: st) h Q) : mv_W E D k n m pc ls (.long y :: .long x :: st) h Q := mv_go (fun p l e R s mi args below meth c H locs cells slots Z Ls X Y w => lv_lor X.1 X.2.1 hd w) hk
theorem mw_iushr {x y : Int32} (hd : decode (mv_cc m) pc = .ok (.iushr, 1)) (hk : mv_W E D k n m (pc + 1) ls (.int (x.toUInt32 >>> (y.toUInt32 &&& Int32.toUInt32 31)).toInt32 :: st) h Q) : mv_W E D k n m pc ls (.int y :: .int x :: st) h Q := mv_go (fun p l e R s mi args below meth c H locs cells slots Z Ls X Y w => lv_iushr X.1 X.2.1 hd rfl w) hk
theorem mw_idiv {x y : Int32} (hy : ¬ y = 0) (hd : decode (mv_cc m) pc = .ok (.idiv, 1)) (hk : mv_W E D k n m (pc + 1) ls (.int (x / y) :: st) h Q) : mv_W E D k n m pc ls (.int y :: .int x :: st) h Q := mv_go (fun p l e R s mi args below meth c H locs cells slots Z Ls X Y w => lv_idiv X.1 X.2.1 hd hy w) hk
theorem mw_irem {x y : Int32} (hy : ¬ y = 0) (hd : decode (mv_cc m) pc = .ok (.irem, 1)) (hk : mv_W E D k n m (pc + 1) ls (.int (x - x / y * y) :: st) h Q) : mv_W E D k n m pc ls (.int y :: .int x :: st) h Q := mv_go (fun p l e R s mi args below meth c H locs cells slots Z Ls X Y w => lv_irem X.1 X.2.1 hd hy w) hk
theorem mw_ldiv {x y : Int64} (hy : ¬ y = 0) (hd : decode (mv_cc m) pc = .ok (.ldiv, 1)) (hk : mv_W E D k n m (pc + 1) ls (.long (x / y) :: st) h Q) : mv_W E D k n m pc ls (.long y :: .long x :: st) h Q := mv_go (fun p l e R s mi args below meth c H locs cells slots Z Ls X Y w => lv_ldiv X.1 X.2.1 hd hy w) hk
theorem mw_lrem {x y : Int64} (hy : ¬ y = 0) (hd : decode (mv_cc m) pc = .ok (.lrem, 1)) (hk : mv_W E D k n m (pc + 1) ls (.long (x - x / y * y) :: st) h Q) : mv_W E D k n m pc ls (.long y :: .long x :: st) h Q := mv_go (fun p l e R s mi args below meth c H locs cells slots Z Ls X Y w => lv_lrem X.1 X.2.1 hd hy w) hk
theorem mw_ineg {x : Int32} (hd : decode (mv_cc m) pc = .ok (.ineg, 1)) (hk : mv_W E D k n m (pc + 1) ls (.int (-x) :: st) h Q) : mv_W E D k n m pc ls (.int x :: st) h Q := mv_go (fun p l e R s mi args below meth c H locs cells slots Z Ls X Y w => lv_ineg X.1 X.2.1 hd w) hk
theorem mw_lshl {x : Int64} {y : Int32} (hd : decode (mv_cc m) pc = .ok (.lshl, 1)) (hk : mv_W E D k n m (pc + 1) ls (.long (x <<< (y.toInt64 &&& 63)) :: st) h Q) : mv_W E D k n m pc ls (.int y :: .long x :: st) h Q := mv_go (fun p l e R s mi args below meth c H locs cells slots Z Ls X Y w => lv_lshl X.1 X.2.1 hd rfl w) hk
theorem mw_lshr {x : Int64} {y : Int32} (hd : decode (mv_cc m) pc = .ok (.lshr, 1)) (hk : mv_W E D k n m (pc + 1) ls (.long (x >>> (y.toInt64 &&& 63)) :: st) h Q) : mv_W E D k n m pc ls (.int y :: .long x :: st) h Q := mv_go (fun p l e R s mi args below meth c H locs cells slots Z Ls X Y w => lv_lshr X.1 X.2.1 hd rfl w) hk
theorem mw_i2l {x : Int32} (hd : decode (mv_cc m) pc = .ok (.i2l, 1)) (hk : mv_W E D k n m (pc + 1) ls (.long x.toInt64 :: st) h Q) : mv_W E D k n m pc ls (.int x :: st) h Q := mv_go (fun p l e R s mi args below meth c H locs cells slots Z Ls X Y w => lv_i2l X.1 X.2.1 hd rfl w) hk
theorem mw_l2i {x : Int64} (hd : decode (mv_cc m) pc = .ok (.l2i, 1)) (hk : mv_W E D k n m (pc + 1) ls (.int x.toInt32 :: st) h Q) : mv_W E D k n m pc ls (.long x :: st) h Q := mv_go (fun p l e R s mi args below meth c H locs cells slots Z Ls X Y w => lv_l2i X.1 X.2.1 hd rfl w) hk
theorem mw_i2b {x : Int32} (hd : decode (mv_cc m) pc = .ok (.i2b, 1)) (hk : mv_W E D k n m (pc + 1) ls (.int x.toInt8.toInt32 :: st) h Q) : mv_W E D k n m pc ls (.int x :: st) h Q := mv_go (fun p l e R s mi args below meth c H locs cells slots Z Ls X Y w => lv_i2b X.1 X.2.1 hd rfl w) hk
theorem mw_i2s {x : Int32} (hd : decode (mv_cc m) pc = .ok (.i2s, 1)) (hk : mv_W E D k n m (pc + 1) ls (.int x.toInt16.toInt32 :: st) h Q) : mv_W E D k n m pc ls (.int x :: st) h Q := mv_go (fun p l e R s mi args below meth c H locs cells slots Z Ls X Y w => lv_i2s X.1 X.2.1 hd rfl w) hk
theorem mw_i2c {x : Int32} (hd : decode (mv_cc m) pc = .ok (.i2c, 1)) (hk : mv_W E D k n m (pc + 1) ls (.int (x.toUInt32 % 65536).toInt32 :: st) h Q) : mv_W E D k n m pc ls (.int x :: st) h Q := mv_go (fun p l e R s mi args below meth c H locs cells slots Z Ls X Y w => lv_i2c X.1 X.2.1 hd rfl w) hk
theorem mw_lcmp {x y : Int64} (hd : decode (mv_cc m) pc = .ok (.lcmp, 1)) (hk : mv_W E D k n m (pc + 1) ls (.int (lg_cmp x y) :: st) h Q) : mv_W E D k n m pc ls (.long y :: .long x :: st) h Q := mv_go (fun p l e R s mi args below meth c H locs cells slots Z Ls X Y w => W.lcmp X.1 X.2.1 hd w) hk
theorem mw_dup {v : Value} (hv : mv_cat v = true) (hd : decode (mv_cc m) pc = .ok (.dup, 1)) (hk : mv_W E D k n m (pc + 1) ls (v :: v :: st) h Q) : mv_W E D k n m pc ls (v :: st) h Q := mv_go (fun p l e R s mi args below meth c H locs cells slots Z Ls X Y w => lv_dup X.1 X.2.1 hd (by rw [mv_v_cat]; exact mv_cat_of hv) w) hk
theorem mw_pop {v : Value} (hv : mv_cat v = true) (hd : decode (mv_cc m) pc = .ok (.pop, 1)) (hk : mv_W E D k n m (pc + 1) ls st h Q) : mv_W E D k n m pc ls (v :: st) h Q := mv_go (fun p l e R s mi args below meth c H locs cells slots Z Ls X Y w => lv_pop X.1 X.2.1 hd (by rw [mv_v_cat]; exact mv_cat_of hv) w) hk
theorem mw_dup2 {v u : Value} (hv : mv_cat v = true) (hu : mv_cat u = true) (hd : decode (mv_cc m) pc = .ok (.dup2, 1)) (hk : mv_W E D k n m (pc + 1) ls (v :: u :: v :: u :: st) h Q) : mv_W E D k n m pc ls (v :: u :: st) h Q := mv_go (fun p l e R s mi args below meth c H locs cells slots Z Ls X Y w => lv_dup2_11 X.1 X.2.1 hd (by rw [mv_v_cat]; exact mv_cat_of hv) (by rw [mv_v_cat]; exact mv_cat_of hu) w) hk
theorem mw_goto {u : Int} {d : Nat} (ht : (pc : Int) + u = (d : Int)) (hd : decode (mv_cc m) pc = .ok (.goto u, 3)) (hk : mv_W E D k n m d ls st h Q) : mv_W E D k n m pc ls st h Q := mv_go (fun p l e R s mi args below meth c H locs cells slots Z Ls X Y w => lv_goto X.1 X.2.1 hd ht w) hk
theorem mv_br_mono {c : ClassFile.Cond} {x y : Int32} {A B A' B' : Prop} (hA : A → A') (hB : B → B') (hk : mv_br c x y A B) : mv_br c x y A' B' := by
  cases c <;> (unfold mv_br at hk ⊢; dsimp only at hk ⊢; split at hk <;> rename_i q <;> first | (rw [if_pos q]; first | exact hA hk | exact hB hk) | (rw [if_neg q]; first | exact hA hk | exact hB hk))

theorem mw_icmp {cd : ClassFile.Cond} {x y : Int32} {u : Int} {d : Nat} (ht : (pc : Int) + u = (d : Int)) (hd : decode (mv_cc m) pc = .ok (.if_icmp cd u, 3)) (hk : mv_br cd x y (mv_W E D k n m d ls st h Q) (mv_W E D k n m (pc + 3) ls st h Q)) : mv_W E D k n m pc ls (.int y :: .int x :: st) h Q := by
  intro p l e R s mi args below meth c H locs cells slots Z mc ms Ls X Y d1 d2 c1 c2 c3 c4 F
  cases cd with
  | eq => exact lv_icmp_eq X.1 X.2.1 hd ht (fun q => (Eq.mp (if_pos q) hk) p l e R s mi args below meth c H locs cells slots Z mc ms Ls X Y d1 d2 c1 c2 c3 c4 F) (fun q => (Eq.mp (if_neg q) hk) p l e R s mi args below meth c H locs cells slots Z mc ms Ls X Y d1 d2 c1 c2 c3 c4 F)
  | ne => exact lv_icmp_ne X.1 X.2.1 hd ht (fun q => (Eq.mp (if_neg q) hk) p l e R s mi args below meth c H locs cells slots Z mc ms Ls X Y d1 d2 c1 c2 c3 c4 F) (fun q => (Eq.mp (if_pos q) hk) p l e R s mi args below meth c H locs cells slots Z mc ms Ls X Y d1 d2 c1 c2 c3 c4 F)
  | lt => exact lv_icmp_lt X.1 X.2.1 hd ht (fun q => (Eq.mp (if_pos q) hk) p l e R s mi args below meth c H locs cells slots Z mc ms Ls X Y d1 d2 c1 c2 c3 c4 F) (fun q => (Eq.mp (if_neg q) hk) p l e R s mi args below meth c H locs cells slots Z mc ms Ls X Y d1 d2 c1 c2 c3 c4 F)
  | ge => exact lv_icmp_ge X.1 X.2.1 hd ht (fun q => (Eq.mp (if_neg (Int32.not_lt.mpr q)) hk) p l e R s mi args below meth c H locs cells slots Z mc ms Ls X Y d1 d2 c1 c2 c3 c4 F) (fun q => (Eq.mp (if_pos (Int32.not_le.mp q)) hk) p l e R s mi args below meth c H locs cells slots Z mc ms Ls X Y d1 d2 c1 c2 c3 c4 F)
  | gt => exact lv_icmp_gt X.1 X.2.1 hd ht (fun q => (Eq.mp (if_pos q) hk) p l e R s mi args below meth c H locs cells slots Z mc ms Ls X Y d1 d2 c1 c2 c3 c4 F) (fun q => (Eq.mp (if_neg q) hk) p l e R s mi args below meth c H locs cells slots Z mc ms Ls X Y d1 d2 c1 c2 c3 c4 F)
  | le => exact lv_icmp_le X.1 X.2.1 hd ht (fun q => (Eq.mp (if_neg (Int32.not_lt.mpr q)) hk) p l e R s mi args below meth c H locs cells slots Z mc ms Ls X Y d1 d2 c1 c2 c3 c4 F) (fun q => (Eq.mp (if_pos (Int32.not_le.mp q)) hk) p l e R s mi args below meth c H locs cells slots Z mc ms Ls X Y d1 d2 c1 c2 c3 c4 F)
theorem mw_if {cd : ClassFile.Cond} {x : Int32} {u : Int} {d : Nat} (ht : (pc : Int) + u = (d : Int)) (hd : decode (mv_cc m) pc = .ok (.ifCond cd u, 3)) (hk : mv_br cd x 0 (mv_W E D k n m d ls st h Q) (mv_W E D k n m (pc + 3) ls st h Q)) : mv_W E D k n m pc ls (.int x :: st) h Q := by
  intro p l e R s mi args below meth c H locs cells slots Z mc ms Ls X Y d1 d2 c1 c2 c3 c4 F
  cases cd with
  | eq => exact lv_if_eq X.1 X.2.1 hd ht (fun q => (Eq.mp (if_pos q) hk) p l e R s mi args below meth c H locs cells slots Z mc ms Ls X Y d1 d2 c1 c2 c3 c4 F) (fun q => (Eq.mp (if_neg q) hk) p l e R s mi args below meth c H locs cells slots Z mc ms Ls X Y d1 d2 c1 c2 c3 c4 F)
  | ne => exact lv_if_ne X.1 X.2.1 hd ht (fun q => (Eq.mp (if_neg q) hk) p l e R s mi args below meth c H locs cells slots Z mc ms Ls X Y d1 d2 c1 c2 c3 c4 F) (fun q => (Eq.mp (if_pos q) hk) p l e R s mi args below meth c H locs cells slots Z mc ms Ls X Y d1 d2 c1 c2 c3 c4 F)
  | lt => exact lv_if_lt X.1 X.2.1 hd ht (fun q => (Eq.mp (if_pos q) hk) p l e R s mi args below meth c H locs cells slots Z mc ms Ls X Y d1 d2 c1 c2 c3 c4 F) (fun q => (Eq.mp (if_neg q) hk) p l e R s mi args below meth c H locs cells slots Z mc ms Ls X Y d1 d2 c1 c2 c3 c4 F)
  | ge => exact lv_if_ge X.1 X.2.1 hd ht (fun q => (Eq.mp (if_neg (Int32.not_lt.mpr q)) hk) p l e R s mi args below meth c H locs cells slots Z mc ms Ls X Y d1 d2 c1 c2 c3 c4 F) (fun q => (Eq.mp (if_pos (Int32.not_le.mp q)) hk) p l e R s mi args below meth c H locs cells slots Z mc ms Ls X Y d1 d2 c1 c2 c3 c4 F)
  | gt => exact lv_if_gt X.1 X.2.1 hd ht (fun q => (Eq.mp (if_pos q) hk) p l e R s mi args below meth c H locs cells slots Z mc ms Ls X Y d1 d2 c1 c2 c3 c4 F) (fun q => (Eq.mp (if_neg q) hk) p l e R s mi args below meth c H locs cells slots Z mc ms Ls X Y d1 d2 c1 c2 c3 c4 F)
  | le => exact lv_if_le X.1 X.2.1 hd ht (fun q => (Eq.mp (if_neg (Int32.not_lt.mpr q)) hk) p l e R s mi args below meth c H locs cells slots Z mc ms Ls X Y d1 d2 c1 c2 c3 c4 F) (fun q => (Eq.mp (if_pos (Int32.not_le.mp q)) hk) p l e R s mi args below meth c H locs cells slots Z mc ms Ls X Y d1 d2 c1 c2 c3 c4 F)
theorem mv_sw_off {x : Int32} {u : Int} {d : Nat} {g : Nat → Prop} (hu : (pc : Int) + u = (d : Int)) : ∀ (ps qs : List (Int × Int)), mv_swk pc ps qs = true → mv_sw x qs g d → ∃ tgt : Nat, (pc : Int) + Op.lookupswitch.offset ps u x.toInt = (tgt : Int) ∧ g tgt
  | [], [], _, hg => ⟨d, by rw [Op.lookupswitch.offset_nil]; exact hu, hg⟩
  | [], _ :: _, hs, _ => by simp [mv_swk] at hs
  | _ :: _, [], hs, _ => by simp [mv_swk] at hs
  | (v, o) :: ps, (w, t) :: qs, hs, hg => by
    simp only [mv_swk, Bool.and_eq_true, decide_eq_true_eq] at hs
    obtain ⟨rfl, h2, h3, h4⟩ := hs
    unfold mv_sw at hg
    by_cases q : x = mv_i v
    · rw [if_pos q] at hg
      refine ⟨t.toNat, ?_, hg⟩
      rw [Op.lookupswitch.offset_cons, if_pos (by rw [q, h2])]
      exact h3
    · rw [if_neg q] at hg
      rw [lv_osw q h2]
      exact mv_sw_off hu ps qs h4 hg
theorem mv_sw_tab {x : Int32} {d : Nat} {g : Nat → Prop} : ∀ (lo : Int) (os : List Int) (qs : List (Int × Int)), mv_swt pc lo os qs = true → mv_sw x qs g d → (∃ (off : Int) (tgt : Nat), ¬ x.toInt < lo ∧ x.toInt < lo + os.length ∧ os[(x.toInt - lo).toNat]? = some off ∧ (pc : Int) + off = (tgt : Int) ∧ g tgt) ∨ ((x.toInt < lo ∨ lo + os.length ≤ x.toInt) ∧ g d)
  | lo, [], [], _, hg => Or.inr ⟨by rcases Int.lt_or_le x.toInt lo with q | q; exact Or.inl q; exact Or.inr (by simpa using q), hg⟩
  | _, [], _ :: _, hs, _ => by simp [mv_swt] at hs
  | _, _ :: _, [], hs, _ => by simp [mv_swt] at hs
  | lo, o :: os, (w, t) :: qs, hs, hg => by
    simp only [mv_swt, Bool.and_eq_true, decide_eq_true_eq] at hs
    obtain ⟨rfl, h2, h3, h4⟩ := hs
    unfold mv_sw at hg
    by_cases q : x = mv_i lo
    · rw [if_pos q] at hg
      have e : x.toInt = lo := by rw [q, h2]
      refine Or.inl ⟨o, t.toNat, by omega, by simp only [List.length_cons]; omega, ?_, h3, hg⟩
      rw [show (x.toInt - lo).toNat = 0 by omega]
      rfl
    · rw [if_neg q] at hg
      have ne := lv_neT q h2
      rcases mv_sw_tab (lo + 1) os qs h4 hg with ⟨off, tgt, g1, g2, g3, g4, g5⟩ | ⟨g1, g2⟩
      · refine Or.inl ⟨off, tgt, by omega, by simp only [List.length_cons]; omega, ?_, g4, g5⟩
        rw [show (x.toInt - lo).toNat = (x.toInt - (lo + 1)).toNat + 1 by omega]
        exact g3
      · refine Or.inr ⟨?_, g2⟩
        simp only [List.length_cons]
        omega
theorem mw_lookup {x : Int32} {u : Int} {d len : Nat} {ps : Array (Int × Int)} {qs : List (Int × Int)} (hu : (pc : Int) + u = (d : Int)) (hs : mv_swk pc ps.toList qs = true) (hp : (ps.toList.zip (ps.toList.drop 1)).all (fun (a, next) => a.1 < next.1) = true) (hd : decode (mv_cc m) pc = .ok (.lookupswitch u ps, len)) (hk : mv_sw x qs (fun t => mv_W E D k n m t ls st h Q) d) : mv_W E D k n m pc ls (.int x :: st) h Q := by
  obtain ⟨tgt, h1, h2⟩ := mv_sw_off hu ps.toList qs hs hk
  exact mv_go (fun p l e R s mi args below meth c H locs cells slots Z Ls X Y w => lv_lookup X.1 X.2.1 hd hp rfl h1 w) h2
theorem mw_table {x : Int32} {u lo hi : Int} {d len : Nat} {os : Array Int} {qs : List (Int × Int)} (hu : (pc : Int) + u = (d : Int)) (hs : mv_swt pc lo os.toList qs = true) (hh : lo + os.toList.length = hi + 1) (hd : decode (mv_cc m) pc = .ok (.tableswitch u lo hi os, len)) (hk : mv_sw x qs (fun t => mv_W E D k n m t ls st h Q) d) : mv_W E D k n m pc ls (.int x :: st) h Q := by
  rcases mv_sw_tab lo os.toList qs hs hk with ⟨off, tgt, g1, g2, g3, g4, g5⟩ | ⟨g1, g2⟩
  · exact mv_go (fun p l e R s mi args below meth c H locs cells slots Z Ls X Y w => lv_tableIn X.1 X.2.1 hd g1 (by omega) (by rw [← Array.getElem?_toList]; exact g3) g4 w) g5
  · exact mv_go (fun p l e R s mi args below meth c H locs cells slots Z Ls X Y w => lv_tableOut X.1 X.2.1 hd (by omega) hu w) g2
theorem mv_sw_mono {x : Int32} {g g' : Nat → Prop} {d : Nat} (hg : ∀ t, g t → g' t) : ∀ qs : List (Int × Int), mv_sw x qs g d → mv_sw x qs g' d
  | [], hk => hg d hk
  | (v, t) :: r, hk => by
    unfold mv_sw at hk ⊢
    split at hk <;> rename_i q
    · rw [if_pos q]; exact hg _ hk
    · rw [if_neg q]; exact mv_sw_mono hg r hk
theorem mv_rfi {a b : Nat} (ha : 50 ≤ a) (hb : 50 ≤ b) : mv_ad E a = mv_ad E b ↔ a = b := by
  rw [mv_ad_hi ha, mv_ad_hi hb]
  constructor
  · intro q; have := Option.some.inj q; omega
  · intro q; rw [q]
theorem mw_acmp {cd : ACond} {x y : Nat} {u : Int} {d : Nat} (hx : 50 ≤ x) (hy : 50 ≤ y) (ht : (pc : Int) + u = (d : Int)) (hd : decode (mv_cc m) pc = .ok (.if_acmp cd u, 3)) (hk : match cd with | .eq => if x = y then mv_W E D k n m d ls st h Q else mv_W E D k n m (pc + 3) ls st h Q | .ne => if x = y then mv_W E D k n m (pc + 3) ls st h Q else mv_W E D k n m d ls st h Q) : mv_W E D k n m pc ls (.ref y :: .ref x :: st) h Q := by
  intro p l e R s mi args below meth c H locs cells slots Z mc ms Ls X Y d1 d2 c1 c2 c3 c4 F
  cases cd with
  | eq => exact lv_acmp_eq (rx := mv_ad E x) (ry := mv_ad E y) X.1 X.2.1 hd ht (fun q => (Eq.mp (if_pos ((mv_rfi hx hy).mp q)) hk) p l e R s mi args below meth c H locs cells slots Z mc ms Ls X Y d1 d2 c1 c2 c3 c4 F) (fun q => (Eq.mp (if_neg (fun z => q ((mv_rfi hx hy).mpr z))) hk) p l e R s mi args below meth c H locs cells slots Z mc ms Ls X Y d1 d2 c1 c2 c3 c4 F)
  | ne => exact lv_acmp_ne (rx := mv_ad E x) (ry := mv_ad E y) X.1 X.2.1 hd ht (fun q => (Eq.mp (if_neg (fun z => q ((mv_rfi hx hy).mpr z))) hk) p l e R s mi args below meth c H locs cells slots Z mc ms Ls X Y d1 d2 c1 c2 c3 c4 F) (fun q => (Eq.mp (if_pos ((mv_rfi hx hy).mp q)) hk) p l e R s mi args below meth c H locs cells slots Z mc ms Ls X Y d1 d2 c1 c2 c3 c4 F)
theorem mw_nonnull {x : Nat} {u : Int} {d : Nat} (hx : x = 0 ∨ 50 ≤ x) (ht : (pc : Int) + u = (d : Int)) (hd : decode (mv_cc m) pc = .ok (.ifnonnull u, 3)) (hk : if x = 0 then mv_W E D k n m (pc + 3) ls st h Q else mv_W E D k n m d ls st h Q) : mv_W E D k n m pc ls (.ref x :: st) h Q := by
  rcases hx with rfl | hx
  · rw [if_pos rfl] at hk
    exact mv_go (fun p l e R s mi args below meth c H locs cells slots Z Ls X Y w => lv_ifnonnullN X.1 X.2.1 hd w) hk
  · rw [if_neg (by omega)] at hk
    refine mv_go (fun p l e R s mi args below meth c H locs cells slots Z Ls X Y w => ?_) hk
    show W p l e R s mi args below meth c H locs cells slots Z (F0 mi pc Ls (va_rf (mv_ad E x) :: st.map (mv_v E)))
    rw [mv_ad_hi hx]
    exact lv_ifnonnull X.1 X.2.1 hd ht w
end
