/-! The judgement of a frame of the small machine, over the great one. -/
def mv_ord : Nat → Value := fun j => .int (([1, 1, 2, 6, 24, 120, 720, 5040, 40320] : List Int32).getD j 0)
def mv_gw : List Cond := lw_tbl.filter goodWord
def mv_isN (w : Cond) : Bool := match w with
  | .fieldLinkNest .. => true
  | .methodLinkNest .. => true
  | _ => false
def mv_Base (E : mv_E) (U : State) : Prop :=
  va_K E.1 mv_cl (mv_tys E) U ∧ (va_X (mv_bk E 48) (mv_sl E) (mv_sx E) U U.heap ∧ mv_bk E 48 < mv_sz E ∧ mv_sz E ≤ U.heap.size) ∧
  (va_Z "RaftHold" "ORDERS" "[I" (.ref (mv_bk E 47)) (mv_A E) U U.heap ∧ va_T .int (mv_bk E 47) 9 mv_ord (mv_A E) U U.heap) ∧
  va_Z "java/lang/String" "COMPACT_STRINGS" "Z" (.int 1) (mv_A E) U U.heap ∧
  vk_S 23 mv_len mv_byt (fun i => mv_bk E (1 + i)) (fun i => mv_bk E (24 + i)) (mv_A E) U U.heap ∧
  (∀ q ∈ mv_Sl, vk_R q.1 q.2.1 q.2.2.1 (mv_bk E (1 + q.2.2.2)) U) ∧
  va_Z "jdk/internal/util/Preconditions" "SIOOBE_FORMATTER" "Ljava/util/function/BiFunction;" (va_rf (mv_fm E)) (mv_A E) U U.heap ∧
  (∀ w ∈ lw_tbl, mv_isN w = true → va_Nw w U) ∧ va_AO "RaftHold$Tray" U ∧ va_AO "RaftHold$Raft" U ∧ va_AO "RaftHold$State" U
theorem mv_Nw_warm {w : Cond} {s U : State} (hn : mv_isN w = true) (hW : s.WarmedH U.vm) (h : va_Nw w s) : va_Nw w U := by
  cases w <;> simp [mv_isN] at hn
  · exact va_Nw.warmM hW h
  · exact va_Nw.warmF hW h
/-- the base stands in a state that is alike, whose heap has kept what isn't ours -/
theorem mv_Base.to {E : mv_E} {s U : State} (b : mv_Base E s) (hW : s.WarmedH U.vm) (hz : s.heap.size ≤ U.heap.size) (hk : ∀ q : Nat, q < s.heap.size → ¬ mv_A E q → U.heap[q]? = s.heap[q]?) : mv_Base E U := by
  obtain ⟨b1, ⟨b2, b3, b4⟩, ⟨b5, b6⟩, b7, b8, b9, b10, b11, b12, b13, b14⟩ := b
  have ha := hW.alike
  refine ⟨va_K.moved ha b1, ⟨(va_X.moved ha b2).kept (hk _ (by omega) (by unfold mv_A; omega)), b3, by omega⟩, ⟨(va_Z.moved ha b5).kept hk, (va_T.moved ha b6).kept hk⟩, (va_Z.moved ha b7).kept hk, (vk_S.moved ha b8).kept hk, fun q hq => (b9 q hq).warm hW, (va_Z.moved ha b10).kept hk, fun w hw hn => mv_Nw_warm hn hW (b11 w hw hn), va_AO.moved ha b12, va_AO.moved ha b13, va_AO.moved ha b14⟩
def mv_Cx (E : mv_E) (m : Nat) (p : Program) (s : State) (mi : MethodId) (args : Array Value) (meth : Method) (c : Code) : Prop :=
  p.tables.exec = Jvm.exec ∧ c.code = mv_cc m ∧ meth.sig.returnType = mv_rt m ∧ meth.locks = false ∧ c.maxLocals = mv_ml m ∧ s.vm.findClass (mv_y m).cls = some mi.cls ∧ (∀ w ∈ mv_gw, w.before args s = true) ∧ meth.name = (mv_y m).name ∧ mv_Base E s
/-- the locals, listed -/
def mv_prs (E : mv_E) : Nat → List (Option Value) → List (Nat × Value)
  | _, [] => []
  | i, none :: r => mv_prs E (i + 1) r
  | i, some v :: r => (i, mv_v E v) :: mv_prs E (i + 1) r
theorem mv_prs_mem {E : mv_E} : ∀ (ls : List (Option Value)) (i : Nat) (q : Nat × Value), q ∈ mv_prs E i ls ↔ ∃ (j : Nat) (v : Value), mv_ge ls j = some v ∧ q = (i + j, mv_v E v)
  | [], i, q => by simp [mv_prs, mv_ge]
  | none :: r, i, q => by
    rw [mv_prs, mv_prs_mem r (i + 1) q]
    constructor
    · rintro ⟨j, v, h1, h2⟩
      exact ⟨j + 1, v, h1, by rw [h2]; congr 1; omega⟩
    · rintro ⟨j, v, h1, h2⟩
      cases j with
      | zero => simp [mv_ge] at h1
      | succ j => exact ⟨j, v, h1, by rw [h2]; congr 1; omega⟩
  | some w :: r, i, q => by
    rw [mv_prs, List.mem_cons, mv_prs_mem r (i + 1) q]
    constructor
    · rintro (h | ⟨j, v, h1, h2⟩)
      · exact ⟨0, w, rfl, h⟩
      · exact ⟨j + 1, v, h1, by rw [h2]; congr 1; omega⟩
    · rintro ⟨j, v, h1, h2⟩
      cases j with
      | zero => left; cases h1; exact h2
      | succ j => right; exact ⟨j, v, h1, by rw [h2]; congr 1; omega⟩
theorem mv_ge_se : ∀ (ls : List (Option Value)) (j : Nat) (v : Option Value) (i : Nat), mv_ge (mv_se ls j v) i = if i = j ∧ j < ls.length then v else mv_ge ls i
  | [], j, v, i => by simp [mv_se, mv_ge]
  | w :: r, 0, v, 0 => by simp [mv_se, mv_ge]
  | w :: r, 0, v, i + 1 => by simp [mv_se, mv_ge]
  | w :: r, j + 1, v, 0 => by simp [mv_se, mv_ge]
  | w :: r, j + 1, v, i + 1 => by
    rw [mv_se, mv_ge, mv_ge_se r j v i]
    simp [mv_ge]
theorem mv_se_len : ∀ (ls : List (Option Value)) (j : Nat) (v : Option Value), (mv_se ls j v).length = ls.length
  | [], j, v => by simp [mv_se]
  | w :: r, 0, v => by simp [mv_se]
  | w :: r, j + 1, v => by rw [mv_se, List.length_cons, mv_se_len r j v, List.length_cons]
theorem mv_kl_len (ls : List (Option Value)) (j : Nat) : (mv_kl ls j).length = ls.length := by
  unfold mv_kl
  split
  · rfl
  · split
    · cases mv_cat _ with
      | true => rfl
      | false => exact mv_se_len _ _ _
    · rfl
theorem mv_cat_of {v : Value} (h : mv_cat v = true) : v.category = 1 := by cases v <;> simp [mv_cat, Value.category] at h ⊢
theorem mv_v_cat {E : mv_E} (v : Value) : (mv_v E v).category = v.category := by
  cases v <;> simp [mv_v, Value.category]
  split <;> (unfold va_rf at *; split at * <;> simp_all)
theorem mv_kl_ge {ls : List (Option Value)} {j i : Nat} {v : Value} (h : mv_ge (mv_kl ls j) i = some v) : mv_ge ls i = some v ∧ (i + 1 = j → v.category = 1) := by
  unfold mv_kl at h
  split at h
  · exact ⟨h, fun e => by omega⟩
  · rename_i k
    split at h
    · rename_i w hw
      cases hc : mv_cat w with
      | true =>
        rw [hc] at h
        refine ⟨h, fun e => ?_⟩
        have : i = k := by omega
        subst this
        rw [show mv_ge ls i = some v from h] at hw
        cases hw
        exact mv_cat_of hc
      | false =>
        rw [hc] at h
        have h : mv_ge (mv_se ls k none) i = some v := h
        rw [mv_ge_se] at h
        split at h
        · cases h
        · rename_i hn
          refine ⟨h, fun e => ?_⟩
          have : i = k := by omega
          subst this
          exfalso
          refine hn ⟨rfl, ?_⟩
          rcases Nat.lt_or_ge i ls.length with q | q
          · exact q
          · exfalso
            have : ∀ (l : List (Option Value)) (n : Nat), l.length ≤ n → mv_ge l n = none := by
              intro l
              induction l with
              | nil => intro n _; simp [mv_ge]
              | cons a r ih =>
                intro n hn
                cases n with
                | zero => simp at hn
                | succ n => simp only [mv_ge]; exact ih n (by simpa using hn)
            rw [this ls i q] at hw; cases hw
    · rename_i hw
      refine ⟨h, fun e => ?_⟩
      have : i = k := by omega
      subst this
      rw [show mv_ge ls i = some v from h] at hw; cases hw
theorem mv_has_mono {ls : Array Slot} {nL : Nat} {l l' : List (Nat × Value)} (h : lv_has ls nL l) (hs : ∀ q ∈ l', q ∈ l) : lv_has ls nL l' := ⟨h.1, h.2.1, fun q hq => h.2.2 q (hs q hq)⟩
theorem mv_s1_has {E : mv_E} {Ls : Array Slot} {nL : Nat} {ls : List (Option Value)} {j : Nat} {v : Value} (h : lv_has Ls nL ((j, mv_v E v) :: (mv_prs E 0 ls).filter (fun q => !(q.1 == j) && !(q.1 + 1 == j && q.2.category == 2)))) : lv_has Ls nL (mv_prs E 0 (mv_s1 ls j v)) := by
  refine mv_has_mono h fun q hq => ?_
  obtain ⟨i, w, h1, h2⟩ := (mv_prs_mem _ _ _).mp hq
  rw [Nat.zero_add] at h2
  unfold mv_s1 at h1
  rw [mv_ge_se] at h1
  split at h1
  · rename_i e
    cases h1
    rw [h2, e.1]
    exact List.mem_cons_self
  · rename_i e
    obtain ⟨g1, g2⟩ := mv_kl_ge h1
    by_cases hij : i = j
    · exfalso
      subst hij
      refine e ⟨rfl, ?_⟩
      rw [mv_kl_len]
      rcases Nat.lt_or_ge i ls.length with q | q
      · exact q
      · exfalso
        have : ∀ (l : List (Option Value)) (n : Nat), l.length ≤ n → mv_ge l n = none := by
          intro l
          induction l with
          | nil => intro n _; simp [mv_ge]
          | cons a r ih =>
            intro n hn
            cases n with
            | zero => simp at hn
            | succ n => simp only [mv_ge]; exact ih n (by simpa using hn)
        rw [this ls i q] at g1; cases g1
    · refine List.mem_cons_of_mem _ (List.mem_filter.mpr ⟨(mv_prs_mem _ _ _).mpr ⟨i, w, g1, by rw [h2, Nat.zero_add]⟩, ?_⟩)
      rw [h2]
      simp only [mv_v_cat]
      by_cases hc : i + 1 = j
      · simp [hij, g2 hc]
      · simp [hij, hc]
theorem mv_s2_has {E : mv_E} {Ls : Array Slot} {nL : Nat} {ls : List (Option Value)} {j : Nat} {v : Value} (hj : j + 1 < ls.length) (h : lv_has Ls nL ((j, mv_v E v) :: (mv_prs E 0 ls).filter (fun q => !(q.1 == j) && (!(q.1 == j + 1) && !(q.1 + 1 == j && q.2.category == 2))))) : lv_has Ls nL (mv_prs E 0 (mv_s2 ls j v)) := by
  refine mv_has_mono h fun q hq => ?_
  obtain ⟨i, w, h1, h2⟩ := (mv_prs_mem _ _ _).mp hq
  rw [Nat.zero_add] at h2
  unfold mv_s2 at h1
  rw [mv_ge_se] at h1
  split at h1
  · cases h1
  · rename_i e
    rw [mv_ge_se] at h1
    rw [mv_se_len, mv_kl_len] at e
    split at h1
    · rename_i e1
      cases h1
      rw [h2, e1.1]
      exact List.mem_cons_self
    · rename_i e1
      rw [mv_kl_len] at e1
      obtain ⟨g1, g2⟩ := mv_kl_ge h1
      have n1 : i ≠ j := fun q => e1 ⟨q, by omega⟩
      have n2 : i ≠ j + 1 := fun q => e ⟨q, hj⟩
      refine List.mem_cons_of_mem _ (List.mem_filter.mpr ⟨(mv_prs_mem _ _ _).mpr ⟨i, w, g1, by rw [h2, Nat.zero_add]⟩, ?_⟩)
      rw [h2]
      simp only [mv_v_cat]
      by_cases hc : i + 1 = j
      · simp [n1, n2, g2 hc]
      · simp [n1, n2, hc]
def mv_Dy (E : mv_E) (m : Nat) (s : State) (H : Heap) (locs : List Loc) (Ls : Array Slot) (ls : List (Option Value)) (h : mv_H) : Prop :=
  va_S (mv_A E) s.heap H locs ∧ mv_Rep E h H ∧ lv_has Ls (mv_ml m) (mv_prs E 0 ls) ∧ ls.length = mv_ml m
def mv_rok (m : Nat) (v : Option Value) : Prop := match v with
  | none => mv_rt m = none
  | some (.int x) => ∃ ty, mv_rt m = some ty ∧ narrow ty (.int x) = .int x
  | some (.long _) => mv_rt m = some .long
  | some _ => ∃ ty, mv_rt m = some ty ∧ ((∃ n, ty = .object n) ∨ ∃ t, ty = .array t)
def mv_ri (v : Option Value) : Instr := match v with
  | none => .return_
  | some (.int _) => .ireturn
  | some (.long _) => .lreturn
  | some _ => .areturn
def mv_Fin (E : mv_E) (m : Nat) (p : Program) (l : Launch) (e : Env) (R : Room) (s : State) (mi : MethodId) (args : Array Value) (below : List Frame) (meth : Method) (c : Code) (Z : State → Prop) (mc ms : Nat) (Q : mv_Q) : Prop :=
  ∀ (v : Option Value) (h : mv_H) (H : Heap) (locs : List Loc) (cells slots pc : Nat) (Ls : Array Slot), Q v h → va_S (mv_A E) s.heap H locs → mv_Rep E h H → cells ≤ mc → slots ≤ ms → decode (mv_cc m) pc = .ok (mv_ri v, 1) → mv_rok m v →
    W p l e R s mi args below meth c H locs cells slots Z (F0 mi pc Ls (v.toList.map (mv_v E)))
/-- from here the frame comes to its end, with Q -/
def mv_W (E : mv_E) (D k n m pc : Nat) (ls : List (Option Value)) (st : List Value) (h : mv_H) (Q : mv_Q) : Prop :=
  ∀ (p : Program) (l : Launch) (e : Env) (R : Room) (s : State) (mi : MethodId) (args : Array Value) (below : List Frame) (meth : Method) (c : Code) (H : Heap) (locs : List Loc) (cells slots : Nat) (Z : State → Prop) (mc ms : Nat) (Ls : Array Slot),
    mv_Cx E m p s mi args meth c → mv_Dy E m s H locs Ls ls h → D ≤ R.frames → 64 * D ≤ R.locals → cells + k ≤ mc → slots + n ≤ ms → mc ≤ R.cells → ms ≤ R.slots → mv_Fin E m p l e R s mi args below meth c Z mc ms Q →
    W p l e R s mi args below meth c H locs cells slots Z (F0 mi pc Ls (st.map (mv_v E)))
theorem mv_go {E : mv_E} {D k n m pc pc' : Nat} {ls : List (Option Value)} {st st' : List Value} {h : mv_H} {Q : mv_Q}
    (hs : ∀ (p : Program) (l : Launch) (e : Env) (R : Room) (s : State) (mi : MethodId) (args : Array Value) (below : List Frame) (meth : Method) (c : Code) (H : Heap) (locs : List Loc) (cells slots : Nat) (Z : State → Prop) (Ls : Array Slot), mv_Cx E m p s mi args meth c → mv_Dy E m s H locs Ls ls h →
      W p l e R s mi args below meth c H locs cells slots Z (F0 mi pc' Ls (st'.map (mv_v E))) → W p l e R s mi args below meth c H locs cells slots Z (F0 mi pc Ls (st.map (mv_v E))))
    (hk : mv_W E D k n m pc' ls st' h Q) : mv_W E D k n m pc ls st h Q := by
  intro p l e R s mi args below meth c H locs cells slots Z mc ms Ls X Y d1 d2 c1 c2 c3 c4 F
  exact hs p l e R s mi args below meth c H locs cells slots Z Ls X Y (hk p l e R s mi args below meth c H locs cells slots Z mc ms Ls X Y d1 d2 c1 c2 c3 c4 F)
theorem mv_W.mono {E : mv_E} {D k n m pc : Nat} {ls : List (Option Value)} {st : List Value} {h : mv_H} {Q Q' : mv_Q} (hk : mv_W E D k n m pc ls st h Q) (hq : ∀ v h', Q v h' → Q' v h') : mv_W E D k n m pc ls st h Q' := by
  intro p l e R s mi args below meth c H locs cells slots Z mc ms Ls X Y d1 d2 c1 c2 c3 c4 F
  exact hk p l e R s mi args below meth c H locs cells slots Z mc ms Ls X Y d1 d2 c1 c2 c3 c4 (fun v h1 H1 l1 ce sl pc1 L1 q => F v h1 H1 l1 ce sl pc1 L1 (hq v h1 q))
