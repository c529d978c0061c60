/-! How the model reads a law: by depth. -/
theorem ct183k {E : mv_E} {D k n : Nat} {Q : mv_Q} {h : mv_H} {B : Nat → Nat} {N i : Nat} (t : mK B N i h) (hk : tK B N i ≠ 24 ∧ tK B N i ≠ 25) (H : ∀ h', mx_fr S183 h h' → mK B N (i + 1) h' → Q none h') : mv_VE E (D + 5) k n 183 0 [some (.ref 148), none] [] h Q := ct183 t.1 (fun h' f1 t1 => H h' f1 ⟨t1, by rw [f1.2.2.1 148 11 rfl]; exact t.2.1, tT_adv t.2.2 hk⟩)
def MO (B : Nat → Nat) (N l p : Nat) (R W : List Nat) (i : Nat) : lres := mo (tK B N) (tN B N) l (tT B N) p R W i
def lPo (B : Nat → Nat) (N l b : Nat) (G : Nat → Int32) (p q : Nat) (c : Nat → Prop) (ty : List Bool) (h : mv_H) (R W : List Nat) (i : Nat) (h' : mv_H) : Prop := mx_fr S199 h h' ∧ ((∃ i' R', mS B N l b G R' i' h' ∧ i < i' ∧ R'.length + i ≤ R.length + i' ∧ MO B N l p R W i = MO B N l q R' W i' ∧ ckl l R' [] = some ty ∧ c (tK B N i')) ∨ (∃ f i', mE B N f i' h' ∧ MO B N l p R W i = (f, i', [])))
def lC (E : mv_E) (B : Nat → Nat) (N l b : Nat) (G : Nat → Int32) (m D d : Nat) (x : List (Option Value)) (p q bd tp : Nat) (U : Bool) (c : Nat → Prop) (t : Bool) : Prop := ∀ (k n : Nat) (h : mv_H) (Q : mv_Q) (R W : List Nat) (i : Nat) (ty : List Bool), mS B N l b G R i h → dep W = d → W.length ≤ bd → tpr W < tp → (U = true → br W ≠ 35 ∧ cmpd W = false) → ckl l R [] = some ty → ty.length ≤ W.length → (∀ h', lPo B N l b G p q c (t :: ty) h R W i h' → Q none h') → mv_VE E D k n m 0 (some (.ref 148) :: some (.int (nI d)) :: x) [] h Q
def nA (_ : Nat) : Prop := True
def nT (m : Nat) : Prop := m ≠ 34
def nS (m : Nat) : Prop := m ≠ 32 ∧ m ≠ 33 ∧ m ≠ 34
def nB (m : Nat) : Prop := m ≠ 18
def nO (m : Nat) : Prop := m ≠ 18 ∧ m ≠ 19
theorem fr183 {h h' : mv_H} (f : mx_fr S183 h h') : mx_fr S199 h h' := f.to (fun _ _ q => S199_183 q)
theorem pf207_t : ∀ m, m < 42 → ∀ l, l < 2 → (if nI m = 3 then (2 : Int32) else if nI m = 4 then 3 else if nI m = 5 then (-1) else if nI m = 6 then (-1) else if nI m = 7 then (-1) else if nI m = 8 then (-1) else if nI m = 9 then (-1) else if nI m = 10 then 1 else if nI m = 11 then (-1) else if nI m = 12 then (-1) else if nI m = 13 then 0 else if nI m = 14 then if nI l = 0 then 4 else (-1) else if nI m = 15 then if nI l = 0 then 5 else (-1) else if nI m = 16 then if nI l = 0 then 6 else (-1) else if nI m = 17 then if nI l = 1 then 7 else (-1) else (-1)) = (if lwd l m < 8 then nI (lwd l m) else -1) := by decide +kernel
theorem pf207_is {h : mv_H} {m l : Nat} (hm : m < 42) (hl : l < 2) (e : mv_I h 148 15 = nI l) : pf207 h (nI m) = (if lwd l m < 8 then nI (lwd l m) else -1) := by
  unfold pf207
  rw [e]
  exact pf207_t m hm l hl
theorem lwd_ok : ∀ m, m < 42 → ∀ l, l < 2 → lwd l m < 8 → sp_okw l (lwd l m) = true := by decide +kernel
theorem nv_lt {B : Nat → Nat} {a : Nat} : ∀ k, (∀ j, j < k → 48 ≤ B (a + j) ∧ B (a + j) ≤ 57) → nv B a k < 10 ^ k
  | 0, _ => Nat.zero_lt_one
  | k + 1, h => by
    have ih := nv_lt k (fun j hj => h j (by omega))
    have := h k (by omega)
    show 10 * nv B a k + (B (a + k) - 48) < 10 ^ (k + 1)
    rw [Nat.pow_succ]
    omega
theorem tN_lt {B : Nat → Nat} {N i : Nat} (h : tK B N i = 23) : tN B N i < 1000 := by
  unfold tK at h
  unfold tN
  unfold lx at h ⊢
  generalize lx_sp N (lb B N) (tpos B N i) = a at h ⊢
  by_cases q : N ≤ a
  · rw [if_pos q]; exact (by decide : 0 < 1000)
  · rw [if_neg q] at h ⊢
    by_cases r : ll B N a = true
    · rw [if_pos r]; exact (by decide : 0 < 1000)
    · rw [if_neg r] at h ⊢
      by_cases t : ld B N a = true
      · rw [if_pos t] at h ⊢
        have h : (if 3 < lx_sp N (ld B N) a - a then 25 else 23) = 23 := h
        by_cases u : 3 < lx_sp N (ld B N) a - a
        · rw [if_pos u] at h; omega
        · show nv B a (if 3 < lx_sp N (ld B N) a - a then 3 else lx_sp N (ld B N) a - a) < 1000
          rw [if_neg u]
          refine Nat.lt_of_lt_of_le (nv_lt _ (fun j hj => ?_)) (Nat.pow_le_pow_right (by omega) (show lx_sp N (ld B N) a - a ≤ 3 by omega))
          have := lx_all (N := N) (c := ld B N) (p := a) (a + j) (by omega) (by omega)
          unfold ld at this
          rw [Bool.and_eq_true, Bool.and_eq_true] at this
          exact ⟨by simpa using this.2.1, by simpa using this.2.2⟩
      · rw [if_neg t]; exact (by decide : 0 < 1000)
theorem ck_num {l c : Nat} {ty : List Bool} (h : c < 1000 ∨ (1000 ≤ c ∧ sp_okw l (c - 1000) = true)) (hl : ty.length < 64) : sp_ck l c ty = some (false :: ty) := by unfold sp_ck; rw [if_pos h, if_pos hl]
theorem okw_big {l j : Nat} (h : 8 ≤ j) : ¬ sp_okw l j = true := by
  unfold sp_okw
  simp only [Bool.or_eq_true, Bool.and_eq_true, decide_eq_true_eq]
  omega
theorem ck_op {l c : Nat} {ty : List Bool} (h : c = 3000 ∨ c = 3001 ∨ c = 3002) : sp_ck l c (false :: false :: ty) = some (false :: ty) := by
  unfold sp_ck
  rw [if_neg (fun q => by rcases q with q | q; · omega
                          · exact okw_big (by omega) q.2), if_neg (by omega), if_pos (by omega)]
theorem ck_cm {l c : Nat} {ty : List Bool} (h : c = 3003 ∨ c = 3004 ∨ c = 3005) : sp_ck l c (false :: false :: ty) = some (true :: ty) := by
  unfold sp_ck
  rw [if_neg (fun q => by rcases q with q | q; · omega
                          · exact okw_big (by omega) q.2), if_neg (by omega), if_neg (by omega), if_pos (by omega)]
theorem ck_nt {l : Nat} {ty : List Bool} : sp_ck l 3006 (true :: ty) = some (true :: ty) := by
  unfold sp_ck
  rw [if_neg (fun q => by rcases q with q | q; · omega
                          · exact okw_big (by omega) q.2), if_pos rfl]
theorem ck_ao {l c : Nat} {ty : List Bool} (h : c = 3007 ∨ c = 3008) : sp_ck l c (true :: true :: ty) = some (true :: ty) := by
  unfold sp_ck
  rw [if_neg (fun q => by rcases q with q | q; · omega
                          · exact okw_big (by omega) q.2), if_neg (by omega), if_neg (by omega), if_neg (by omega), if_pos h]
theorem dep_c {w : Nat} {W : List Nat} (h : lbr w = false) (h2 : w ≠ 20) : dep (w :: W) = dep W := by
  show (if lbr w = true ∨ w = 20 then 1 else 0) + dep W = dep W
  rw [if_neg (fun c => by rcases c with c | c; · rw [h] at c; cases c
                          · exact h2 c), Nat.zero_add]
theorem dep_b {w : Nat} {W : List Nat} (h : lbr w = true ∨ w = 20) : dep (w :: W) = dep W + 1 := by
  show (if lbr w = true ∨ w = 20 then 1 else 0) + dep W = dep W + 1
  rw [if_pos h, Nat.add_comm]
theorem tpr_7 (W : List Nat) : tpr W < 7 := by
  cases W with
  | nil => exact (by decide : 0 < 7)
  | cons w W =>
    show (if lbr w = true then 0 else lrk w) < 7
    have := lrk_6 w
    split <;> omega
theorem lC206 {E : mv_E} {B : Nat → Nat} {N l b D d : Nat} {G : Nat → Int32} (hN : N ≤ 900) (hl : l < 2) (hd : d ≤ 6) (hS : d < 6 → lC E B N l b G 204 (D + 7) (d + 1) [none] 2 3 (6 * (d + 1) + 3) 5 false nS false) : lC E B N l b G 206 (D + 8) d [] 2 3 (6 * d + 5) 7 false nA false := by
  intro k n h Q R W i ty s dW lW tW uW ck tl H
  have k41 := tK_41 B N i
  have iT := s.1.2.2
  apply sg206_0
  rw [pf189T (x := 23) s.1 23 (by omega) rfl]
  refine mx_cd (fun q => ?_) (fun q => ?_)
  · have q := of_decide_eq_true q
    exact ct203n (tN B N i) (s.1.1.2.2.2.2 q) hN s (by omega) (fun h' f1 s1 => H h' ⟨f1, Or.inl ⟨i + 1, R ++ [tN B N i], s1, by omega, by rw [List.length_append]; show R.length + 1 + i ≤ _; omega, mo_nu iT q, ckl_a ck (ck_num (Or.inl (tN_lt q)) (by omega)), trivial⟩⟩)
  · have q := of_decide_eq_false q
    rw [if_pos s.1.2.1, s.1.1.2.2.2.1, pf207_is (by omega) hl s.2.1]
    by_cases w : lwd l (tK B N i) < 8
    · rw [if_pos w, if_neg ((by decide +kernel : ∀ j, j < 8 → ¬ nI j = -1) _ w), show (1000 : Int32) = nI 1000 from rfl, nI_add]
      have nk : tK B N i ≠ 24 ∧ tK B N i ≠ 25 := by
        constructor
        · intro c; rw [c] at w; exact absurd w (show ¬ 8 < 8 by omega)
        · intro c; rw [c] at w; exact absurd w (show ¬ 8 < 8 by omega)
      exact ct203n (1000 + lwd l (tK B N i)) rfl hN s nk (fun h' f1 s1 => H h' ⟨f1, Or.inl ⟨i + 1, R ++ [1000 + lwd l (tK B N i)], s1, by omega, by rw [List.length_append]; show R.length + 1 + i ≤ _; omega, mo_wd iT q w, ckl_a ck (ck_num (Or.inr ⟨by omega, by rw [Nat.add_sub_cancel_left]; exact lwd_ok _ (by omega) l hl w⟩) (by omega)), trivial⟩⟩)
    · rw [if_neg w, if_pos rfl, pf189T (x := 35) s.1 35 (by omega) rfl]
      refine mx_cd (fun r => ?_) (fun r => ?_)
      · have r := of_decide_eq_true r
        refine ct202 d hd rfl s.1 (by omega) (fun d6 h1 f1 t1 => ⟨_, rfl, ?_⟩) (fun d6 h1 f1 e1 => ⟨_, rfl, ?_⟩)
        · rw [if_neg (by decide), nI_1]
          refine hS d6 0 0 h1 _ R (35 :: W) (i + 1) ty (s.n f1 t1 (by omega)) (by rw [dep_b (Or.inl rfl), dW]) (by show W.length + 1 ≤ _; omega) (by exact (by decide : 0 < 5)) (fun c => Bool.noConfusion c) ck (by show ty.length ≤ W.length + 1; omega) (fun h2 po => ⟨rfl, ?_⟩)
          have e0 : MO B N l 2 R W i = MO B N l 2 R (35 :: W) (i + 1) := mo_op2 iT r (by omega) (by omega)
          obtain ⟨f2, ⟨i2, R2, s2, l2, n2, e2, c2, k2⟩ | ⟨f, i2, m2, e2⟩⟩ := po
          · refine ct188 36 (by omega) (by omega) rfl s2.1 (fun y h3 f3 t3 => ⟨_, rfl, ?_⟩) (fun y => ⟨_, rfl, ?_⟩)
            · rw [if_neg (by decide)]
              exact H h3 ⟨((fr183 f1).tr f2).tr (fr183 f3), Or.inl ⟨i2 + 1, R2, s2.n f3 t3 (by omega), by omega, by omega, by rw [e0, e2]; exact mo_cl s2.1.2.2 y, c2, trivial⟩⟩
            · rw [if_pos rfl]
              refine ct190 2 (by omega) rfl s2.1 (fun h3 f3 e3 => ⟨rfl, H h3 ⟨((fr183 f1).tr f2).tr f3, Or.inr ⟨2, i2, e3, by rw [e0, e2]; exact mo_clN s2.1.2.2 ⟨k2.1, k2.2.1, k2.2.2, y⟩⟩⟩⟩)
          · refine ct188e m2.ne ⟨_, rfl, ?_⟩
            rw [if_pos rfl]
            exact ct190e m2.ne ⟨rfl, H h2 ⟨(fr183 f1).tr f2, Or.inr ⟨f, i2, m2, by rw [e0, e2]⟩⟩⟩
        · rw [if_pos rfl]
          exact H h1 ⟨f1, Or.inr ⟨4, i, e1, mo_dp iT (by omega) (Or.inl r) (by omega)⟩⟩
      · have r := of_decide_eq_false r
        exact ct190 2 (by omega) rfl s.1 (fun h1 f1 e1 => ⟨rfl, H h1 ⟨f1, Or.inr ⟨2, i, e1, mo_no iT ⟨q, r⟩ w⟩⟩⟩)
theorem lC205 {E : mv_E} {B : Nat → Nat} {N l b D d : Nat} {G : Nat → Int32} (hN : N ≤ 900) (hd : d ≤ 6) (hA : lC E B N l b G 206 (D + 8) d [] 2 3 (6 * d + 5) 7 false nA false) : lC E B N l b G 205 (D + 9) d [] 2 3 (6 * d + 4) 6 false nT false := by
  intro k n h Q R W i ty s dW lW tW uW ck tl H
  apply sg205_0
  have er : ∀ h1, mv_I h1 148 11 ≠ 0 → Q none h1 → mv_VE E (D + 9) k n 205 5 [some (.ref 148), some (.int (nI d))] [] h1 Q := fun h1 t1 q1 => by
    apply sg205_5
    refine ct188e t1 ⟨_, rfl, ?_⟩
    rw [if_pos rfl]; exact q1
  have loop : ∀ f h1 R1 i1, tT B N - i1 ≤ f → mx_fr S199 h h1 → mS B N l b G R1 i1 h1 → i < i1 → R1.length + i ≤ R.length + i1 → MO B N l 2 R W i = MO B N l 3 R1 W i1 → ckl l R1 [] = some (false :: ty) → mv_VE E (D + 9) k n 205 5 [some (.ref 148), some (.int (nI d))] [] h1 Q := by
    intro f
    induction f with
    | zero =>
      intro h1 R1 i1 hf f1 s1 l1 n1 e1 c1
      apply sg205_5
      refine ct188 34 (by omega) (by omega) rfl s1.1 (fun y h2 f2 t2 => absurd t2.2.2 (by omega)) (fun y => ⟨_, rfl, ?_⟩)
      rw [if_pos rfl]
      exact H h1 ⟨f1, Or.inl ⟨i1, R1, s1, l1, n1, e1, c1, y⟩⟩
    | succ f ih =>
      intro h1 R1 i1 hf f1 s1 l1 n1 e1 c1
      have b1 := s1.2.2.2.2
      apply sg205_5
      refine ct188 34 (by omega) (by omega) rfl s1.1 (fun y h2 f2 t2 => ⟨_, rfl, ?_⟩) (fun y => ⟨_, rfl, ?_⟩)
      · rw [if_neg (by decide)]
        have e2 : MO B N l 3 R1 W i1 = MO B N l 2 R1 (34 :: W) (i1 + 1) := by
          have := mo_op (K := tK B N) (Nn := tN B N) (l := l) (R := R1) s1.1.2.2 (Or.inr (Or.inr y)) (by rw [y]; exact tW) (show W.length < 64 by omega)
          rw [y] at this; exact this
        refine hA 0 0 h2 _ R1 (34 :: W) (i1 + 1) (false :: ty) (s1.n f2 t2 (by omega)) (by rw [dep_c rfl (by decide), dW]) (by show W.length + 1 ≤ _; omega) (tpr_7 _) (fun c => Bool.noConfusion c) c1 (by show ty.length + 1 ≤ W.length + 1; omega) (fun h3 po => ⟨rfl, ?_⟩)
        obtain ⟨f3, ⟨i3, R3, s3, l3, n3, e3, c3, -⟩ | ⟨g, i3, m3, e3⟩⟩ := po
        · refine ct203 3002 rfl hN s3 (by omega) (fun h4 f4 s4 => ⟨rfl, ?_⟩)
          exact ih h4 (R3 ++ [3002]) i3 (by omega) (((f1.tr (fr183 f2)).tr f3).tr f4) s4 (by omega) (by rw [List.length_append]; show R3.length + 1 + i ≤ _; omega) (by rw [e1, e2, e3]; exact mo_E1 s3.1.2.2 (Or.inl rfl)) (ckl_a c3 (ck_op (by omega)))
        · refine ct203e m3.ne ⟨rfl, er h3 m3.ne (H h3 ⟨(f1.tr (fr183 f2)).tr f3, Or.inr ⟨g, i3, m3, by rw [e1, e2, e3]⟩⟩)⟩
      · rw [if_pos rfl]
        exact H h1 ⟨f1, Or.inl ⟨i1, R1, s1, l1, n1, e1, c1, y⟩⟩
  refine hA 0 0 h _ R W i ty s dW (by omega) (tpr_7 _) (fun c => Bool.noConfusion c) ck tl (fun h1 po => ⟨rfl, ?_⟩)
  obtain ⟨f1, ⟨i1, R1, s1, l1, n1, e1, c1, -⟩ | ⟨g, i1, m1, e1⟩⟩ := po
  · exact loop (tT B N - i1) h1 R1 i1 (Nat.le_refl _) f1 s1 l1 n1 e1 c1
  · exact er h1 m1.ne (H h1 ⟨f1, Or.inr ⟨g, i1, m1, e1⟩⟩)
theorem lC204 {E : mv_E} {B : Nat → Nat} {N l b D d : Nat} {G : Nat → Int32} (hN : N ≤ 900) (hd : d ≤ 6) (hA : lC E B N l b G 205 (D + 9) d [] 2 3 (6 * d + 4) 6 false nT false) : lC E B N l b G 204 (D + 10) d [none] 2 3 (6 * d + 3) 5 false nS false := by
  intro k n h Q R W i ty s dW lW tW uW ck tl H
  apply sg204_0
  have er : ∀ h1, mv_I h1 148 11 ≠ 0 → Q none h1 → mv_VE E (D + 10) k n 204 5 [some (.ref 148), some (.int (nI d)), none] [] h1 Q := fun h1 t1 q1 => by
    apply sg204_5
    rw [pf189E t1, pf189E t1]; exact q1
  have loop : ∀ f h1 R1 i1, tT B N - i1 ≤ f → mx_fr S199 h h1 → mS B N l b G R1 i1 h1 → i < i1 → R1.length + i ≤ R.length + i1 → MO B N l 2 R W i = MO B N l 3 R1 W i1 → ckl l R1 [] = some (false :: ty) → nT (tK B N i1) → mv_VE E (D + 10) k n 204 5 [some (.ref 148), some (.int (nI d)), none] [] h1 Q := by
    intro f
    induction f with
    | zero =>
      intro h1 R1 i1 hf f1 s1 l1 n1 e1 c1 nt
      have i1T := s1.1.2.2
      have := tT_k B N
      rw [show tT B N = i1 by omega] at this
      apply sg204_5
      rw [pf189T (x := 32) s1.1 32 (by omega) rfl, pf189T (x := 33) s1.1 33 (by omega) rfl, decide_eq_false (by omega), decide_eq_false (by omega)]
      exact H h1 ⟨f1, Or.inl ⟨i1, R1, s1, l1, n1, e1, c1, by omega, by omega, nt⟩⟩
    | succ f ih =>
      intro h1 R1 i1 hf f1 s1 l1 n1 e1 c1 nt
      have b1 := s1.2.2.2.2
      have step : ∀ w c, (w = 32 ∧ c = 3000) ∨ (w = 33 ∧ c = 3001) → tK B N i1 = w → mv_VE E (D + 9) 0 0 183 0 [some (.ref 148), none] [] h1 (fun v h1 => v = none ∧ mv_VE E (D + 9) 0 0 205 0 [some (.ref 148), some (.int (nI d))] [] h1 (fun v h2 => v = none ∧ mv_VE E (D + 9) 0 0 203 0 [some (.ref 148), some (.int (nI c))] [] h2 (fun v h3 => v = none ∧ mv_VE E (D + 10) k n 204 5 [some (.ref 148), some (.int (nI d)), none] [] h3 Q))) := by
        intro w c wc y
        have hw : lbr w = false ∧ w ≠ 20 ∧ lrk w = 5 ∧ lcd w = c := by rcases wc with ⟨q, r⟩ | ⟨q, r⟩ <;> subst q <;> subst r <;> decide
        refine ct183k (D := D + 4) s1.1 (by omega) (fun h2 f2 t2 => ⟨rfl, ?_⟩)
        have e2 : MO B N l 3 R1 W i1 = MO B N l 2 R1 (w :: W) (i1 + 1) := by
          have := mo_op (K := tK B N) (Nn := tN B N) (l := l) (R := R1) s1.1.2.2 (by omega) (by rw [y, hw.2.2.1]; exact tW) (show W.length < 64 by omega)
          rw [y] at this; exact this
        refine hA 0 0 h2 _ R1 (w :: W) (i1 + 1) (false :: ty) (s1.n f2 t2 (by omega)) (by rw [dep_c hw.1 hw.2.1, dW]) (by show W.length + 1 ≤ _; omega) (by show (if lbr w = true then 0 else lrk w) < 6; rw [hw.1, hw.2.2.1]; decide) (fun c => Bool.noConfusion c) c1 (by show ty.length + 1 ≤ W.length + 1; omega) (fun h3 po => ⟨rfl, ?_⟩)
        obtain ⟨f3, ⟨i3, R3, s3, l3, n3, e3, c3, k3⟩ | ⟨g, i3, m3, e3⟩⟩ := po
        · refine ct203 c rfl hN s3 (by omega) (fun h4 f4 s4 => ⟨rfl, ?_⟩)
          exact ih h4 (R3 ++ [c]) i3 (by omega) (((f1.tr (fr183 f2)).tr f3).tr f4) s4 (by omega) (by rw [List.length_append]; show R3.length + 1 + i ≤ _; omega) (by rw [e1, e2, e3, ← hw.2.2.2]; exact mo_E1 s3.1.2.2 (Or.inr ⟨by omega, k3⟩)) (ckl_a c3 (ck_op (by omega))) k3
        · refine ct203e m3.ne ⟨rfl, er h3 m3.ne (H h3 ⟨(f1.tr (fr183 f2)).tr f3, Or.inr ⟨g, i3, m3, by rw [e1, e2, e3]⟩⟩)⟩
      apply sg204_5
      rw [pf189T (x := 32) s1.1 32 (by omega) rfl, pf189T (x := 33) s1.1 33 (by omega) rfl, s1.1.1.2.2.2.1]
      refine mx_cd (fun y => ?_) (fun y => mx_cd (fun z => ?_) (fun z => ?_))
      · have y := of_decide_eq_true y
        rw [if_pos (by rw [y]; rfl)]
        exact step 32 3000 (by omega) y
      · have z := of_decide_eq_true z
        rw [if_neg (by rw [z]; decide)]
        exact step 33 3001 (by omega) z
      · exact H h1 ⟨f1, Or.inl ⟨i1, R1, s1, l1, n1, e1, c1, of_decide_eq_false y, of_decide_eq_false z, nt⟩⟩
  refine hA 0 0 h _ R W i ty s dW (by omega) (by omega) (fun c => Bool.noConfusion c) ck tl (fun h1 po => ⟨rfl, ?_⟩)
  obtain ⟨f1, ⟨i1, R1, s1, l1, n1, e1, c1, k1⟩ | ⟨g, i1, m1, e1⟩⟩ := po
  · exact loop (tT B N - i1) h1 R1 i1 (Nat.le_refl _) f1 s1 l1 n1 e1 c1 k1
  · exact er h1 m1.ne (H h1 ⟨f1, Or.inr ⟨g, i1, m1, e1⟩⟩)
theorem lC201 {E : mv_E} {B : Nat → Nat} {N l b D d : Nat} {G : Nat → Int32} (hN : N ≤ 900) (hd : d ≤ 6) (hA : lC E B N l b G 204 (D + 10) d [none] 2 3 (6 * d + 3) 5 false nS false) (hU : d < 6 → lC E B N l b G 201 (D + 10) (d + 1) [none] 1 4 (6 * (d + 1) + 2) 4 true nA true) (hT : d < 6 → lC E B N l b G 199 (D + 10) (d + 1) [] 1 4 (6 * (d + 1)) 1 true nO true) : lC E B N l b G 201 (D + 11) d [none] 1 4 (6 * d + 2) 4 true nA true := by
  intro k n h Q R W i ty s dW lW tW uW ck tl H
  have iT := s.1.2.2
  obtain ⟨uB, uC⟩ := uW rfl
  apply sg201_0
  rw [pf189T (x := 20) s.1 20 (by omega) rfl, pf189T (x := 37) s.1 37 (by omega) rfl]
  refine mx_cd (fun q => ?_) (fun q => mx_cd (fun r => ?_) (fun r => ?_))
  · have q := of_decide_eq_true q
    refine ct202 d hd rfl s.1 (by omega) (fun d6 h1 f1 t1 => ⟨_, rfl, ?_⟩) (fun d6 h1 f1 e1 => ⟨_, rfl, ?_⟩)
    · rw [if_neg (by decide), nI_1]
      have e0 : MO B N l 1 R W i = MO B N l 1 R (20 :: W) (i + 1) := by
        have := mo_op1 (K := tK B N) (Nn := tN B N) (l := l) (R := R) (W := W) iT (Or.inl q) (by omega) (by omega)
        rw [q] at this; exact this
      refine hU d6 0 0 h1 _ R (20 :: W) (i + 1) ty (s.n f1 t1 (by omega)) (by rw [dep_b (Or.inr rfl), dW]) (by show W.length + 1 ≤ _; omega) (by exact (by decide : 3 < 4)) (fun _ => ⟨by rw [brk_c rfl]; exact uB, by rw [cmpd_c rfl (by decide)]; exact uC⟩) ck (by show ty.length ≤ W.length + 1; omega) (fun h2 po => ⟨rfl, ?_⟩)
      obtain ⟨f2, ⟨i2, R2, s2, l2, n2, e2, c2, k2⟩ | ⟨f, i2, m2, e2⟩⟩ := po
      · have b2 := s.2.2.2.2
        refine ct203 3006 rfl hN s2 (by omega) (fun h3 f3 s3 => ⟨rfl, H h3 ⟨((fr183 f1).tr f2).tr f3, Or.inl ⟨i2, R2 ++ [3006], s3, by omega, by rw [List.length_append]; show R2.length + 1 + i ≤ _; omega, by rw [e0, e2]; exact mo_E4 s2.1.2.2 (Or.inl rfl), ckl_a c2 ck_nt, trivial⟩⟩⟩)
      · exact ct203e m2.ne ⟨rfl, H h2 ⟨(fr183 f1).tr f2, Or.inr ⟨f, i2, m2, by rw [e0, e2]⟩⟩⟩
    · rw [if_pos rfl]
      exact H h1 ⟨f1, Or.inr ⟨4, i, e1, mo_dp iT (by omega) (Or.inr ⟨rfl, Or.inl q⟩) (by omega)⟩⟩
  · have r := of_decide_eq_true r
    refine ct202 d hd rfl s.1 (by omega) (fun d6 h1 f1 t1 => ⟨_, rfl, ?_⟩) (fun d6 h1 f1 e1 => ⟨_, rfl, ?_⟩)
    · rw [if_neg (by decide), nI_1]
      have e0 : MO B N l 1 R W i = MO B N l 1 R (37 :: W) (i + 1) := by
        have := mo_op1 (K := tK B N) (Nn := tN B N) (l := l) (R := R) (W := W) iT (Or.inr r) (by omega) (by omega)
        rw [r] at this; exact this
      refine hT d6 0 0 h1 _ R (37 :: W) (i + 1) ty (s.n f1 t1 (by omega)) (by rw [dep_b (Or.inl rfl), dW]) (by show W.length + 1 ≤ _; omega) (by exact (by decide : 0 < 1)) (fun _ => ⟨(by decide : ¬ (37 : Nat) = 35), rfl⟩) ck (by show ty.length ≤ W.length + 1; omega) (fun h2 po => ⟨rfl, ?_⟩)
      obtain ⟨f2, ⟨i2, R2, s2, l2, n2, e2, c2, k2⟩ | ⟨f, i2, m2, e2⟩⟩ := po
      · refine ct188 38 (by omega) (by omega) rfl s2.1 (fun y h3 f3 t3 => ⟨_, rfl, ?_⟩) (fun y => ⟨_, rfl, ?_⟩)
        · rw [if_neg (by decide)]
          exact H h3 ⟨((fr183 f1).tr f2).tr (fr183 f3), Or.inl ⟨i2 + 1, R2, s2.n f3 t3 (by omega), by omega, by omega, by rw [e0, e2]; exact mo_cq s2.1.2.2 y, c2, trivial⟩⟩
        · rw [if_pos rfl]
          exact ct190 2 (by omega) rfl s2.1 (fun h3 f3 e3 => ⟨rfl, H h3 ⟨((fr183 f1).tr f2).tr f3, Or.inr ⟨2, i2, e3, by rw [e0, e2]; exact mo_cqN s2.1.2.2 ⟨k2.1, k2.2, y⟩⟩⟩⟩)
      · refine ct188e m2.ne ⟨_, rfl, ?_⟩
        rw [if_pos rfl]
        exact ct190e m2.ne ⟨rfl, H h2 ⟨(fr183 f1).tr f2, Or.inr ⟨f, i2, m2, by rw [e0, e2]⟩⟩⟩
    · rw [if_pos rfl]
      exact H h1 ⟨f1, Or.inr ⟨4, i, e1, mo_dp iT (by omega) (Or.inr ⟨rfl, Or.inr r⟩) (by omega)⟩⟩
  · have q := of_decide_eq_false q
    have r := of_decide_eq_false r
    have e0 : MO B N l 1 R W i = MO B N l 2 R W i := mo_12 iT ⟨q, r⟩
    refine hA 0 0 h _ R W i ty s dW (by omega) (by omega) (fun c => Bool.noConfusion c) ck tl (fun h1 po => ⟨rfl, ?_⟩)
    obtain ⟨f1, ⟨i1, R1, s1, l1, n1, e1, c1, k1⟩ | ⟨g, i1, m1, e1⟩⟩ := po
    · have k41 := tK_41 B N i1
      have b1 := s1.2.2.2.2
      have step : ∀ w c, (w = 39 ∧ c = 3003) ∨ (w = 40 ∧ c = 3004) ∨ (w = 41 ∧ c = 3005) → tK B N i1 = w → mv_VE E (D + 10) 0 0 183 0 [some (.ref 148), none] [] h1 (fun v h12 => v = none ∧ mv_VE E (D + 10) 0 0 204 0 [some (.ref 148), some (.int (nI d)), none] [] h12 (fun v h13 => v = none ∧ mv_VE E (D + 10) 0 0 203 0 [some (.ref 148), some (.int (nI c))] [] h13 (fun v h14 => v = none ∧ Q none h14))) := by
        intro w c wc y
        have hw : lbr w = false ∧ w ≠ 20 ∧ lrk w = 4 ∧ lcd w = c := by rcases wc with ⟨q, r⟩ | ⟨q, r⟩ | ⟨q, r⟩ <;> subst q <;> subst r <;> decide
        refine ct183k (D := D + 5) s1.1 (by omega) (fun h2 f2 t2 => ⟨rfl, ?_⟩)
        have e2 : MO B N l 3 R1 W i1 = MO B N l 2 R1 (w :: W) (i1 + 1) := by
          have := mo_cm (K := tK B N) (Nn := tN B N) (l := l) (R := R1) s1.1.2.2 (by omega) (by rw [y, hw.2.2.1]; exact tW) (show W.length < 64 by omega) uB uC
          rw [y] at this; exact this
        refine hA 0 0 h2 _ R1 (w :: W) (i1 + 1) (false :: ty) (s1.n f2 t2 (by omega)) (by rw [dep_c hw.1 hw.2.1, dW]) (by show W.length + 1 ≤ _; omega) (by show (if lbr w = true then 0 else lrk w) < 5; rw [hw.1, hw.2.2.1]; decide) (fun c => Bool.noConfusion c) c1 (by show ty.length + 1 ≤ W.length + 1; omega) (fun h3 po => ⟨rfl, ?_⟩)
        obtain ⟨f3, ⟨i3, R3, s3, l3, n3, e3, c3, k3⟩ | ⟨g, i3, m3, e3⟩⟩ := po
        · exact ct203 c rfl hN s3 (by omega) (fun h4 f4 s4 => ⟨rfl, H h4 ⟨((f1.tr (fr183 f2)).tr f3).tr f4, Or.inl ⟨i3, R3 ++ [c], s4, by omega, by rw [List.length_append]; show R3.length + 1 + i ≤ _; omega, by rw [e0, e1, e2, e3, ← hw.2.2.2]; exact mo_E3 s3.1.2.2 (by omega) uB k3, ckl_a c3 (ck_cm (by omega)), trivial⟩⟩⟩)
        · exact ct203e m3.ne ⟨rfl, H h3 ⟨(f1.tr (fr183 f2)).tr f3, Or.inr ⟨g, i3, m3, by rw [e0, e1, e2, e3]⟩⟩⟩
      rw [pf189T (x := 39) s1.1 39 (by omega) rfl, pf189T (x := 40) s1.1 40 (by omega) rfl, pf189T (x := 41) s1.1 41 (by omega) rfl]
      by_cases y9 : tK B N i1 = 39
      · rw [decide_eq_true y9]
        exact step 39 3003 (by omega) y9
      · rw [decide_eq_false y9]
        by_cases y0 : tK B N i1 = 40
        · rw [decide_eq_true y0]
          exact step 40 3004 (by omega) y0
        · rw [decide_eq_false y0]
          by_cases y1 : tK B N i1 = 41
          · rw [decide_eq_true y1]
            exact step 41 3005 (by omega) y1
          · rw [decide_eq_false y1]
            refine ct190 2 (by omega) rfl s1.1 (fun h2 f2 e2 => ⟨rfl, ct204e e2.ne ⟨rfl, ct203e e2.ne ⟨rfl, H h2 ⟨f1.tr f2, Or.inr ⟨2, i1, e2, by rw [e0, e1]; exact mo_ncN s1.1.2.2 uB uC ⟨k1.1, k1.2.1, k1.2.2, y9, y0, y1⟩⟩⟩⟩⟩⟩)
    · rw [pf189E m1.ne, pf189E m1.ne, pf189E m1.ne]
      exact ct190e m1.ne ⟨rfl, ct204e m1.ne ⟨rfl, ct203e m1.ne ⟨rfl, H h1 ⟨f1, Or.inr ⟨g, i1, m1, by rw [e0, e1]⟩⟩⟩⟩⟩
theorem lC200 {E : mv_E} {B : Nat → Nat} {N l b D d : Nat} {G : Nat → Int32} (hN : N ≤ 900) (hd : d ≤ 6) (hA : lC E B N l b G 201 (D + 11) d [none] 1 4 (6 * d + 2) 4 true nA true) : lC E B N l b G 200 (D + 12) d [] 1 4 (6 * d + 1) 2 true nB true := by
  intro k n h Q R W i ty s dW lW tW uW ck tl H
  obtain ⟨uB, uC⟩ := uW rfl
  apply sg200_0
  have er : ∀ h1, mv_I h1 148 11 ≠ 0 → Q none h1 → mv_VE E (D + 12) k n 200 5 [some (.ref 148), some (.int (nI d))] [] h1 Q := fun h1 t1 q1 => by
    apply sg200_5
    refine ct188e t1 ⟨_, rfl, ?_⟩
    rw [if_pos rfl]; exact q1
  have loop : ∀ f h1 R1 i1, tT B N - i1 ≤ f → mx_fr S199 h h1 → mS B N l b G R1 i1 h1 → i < i1 → R1.length + i ≤ R.length + i1 → MO B N l 1 R W i = MO B N l 4 R1 W i1 → ckl l R1 [] = some (true :: ty) → mv_VE E (D + 12) k n 200 5 [some (.ref 148), some (.int (nI d))] [] h1 Q := by
    intro f
    induction f with
    | zero =>
      intro h1 R1 i1 hf f1 s1 l1 n1 e1 c1
      apply sg200_5
      refine ct188 18 (by omega) (by omega) rfl s1.1 (fun y h2 f2 t2 => absurd t2.2.2 (by omega)) (fun y => ⟨_, rfl, ?_⟩)
      rw [if_pos rfl]
      exact H h1 ⟨f1, Or.inl ⟨i1, R1, s1, l1, n1, e1, c1, y⟩⟩
    | succ f ih =>
      intro h1 R1 i1 hf f1 s1 l1 n1 e1 c1
      have b1 := s1.2.2.2.2
      apply sg200_5
      refine ct188 18 (by omega) (by omega) rfl s1.1 (fun y h2 f2 t2 => ⟨_, rfl, ?_⟩) (fun y => ⟨_, rfl, ?_⟩)
      · rw [if_neg (by decide)]
        have e2 : MO B N l 4 R1 W i1 = MO B N l 1 R1 (18 :: W) (i1 + 1) := by
          have := mo_ao (K := tK B N) (Nn := tN B N) (l := l) (R := R1) s1.1.2.2 (Or.inl y) (by rw [y]; exact tW) (show W.length < 64 by omega)
          rw [y] at this; exact this
        refine hA 0 0 h2 _ R1 (18 :: W) (i1 + 1) (true :: ty) (s1.n f2 t2 (by omega)) (by rw [dep_c rfl (by decide), dW]) (by show W.length + 1 ≤ _; omega) (by exact (by decide : 2 < 4)) (fun _ => ⟨by rw [brk_c rfl]; exact uB, by rw [cmpd_c rfl (by decide)]; exact uC⟩) c1 (by show ty.length + 1 ≤ W.length + 1; omega) (fun h3 po => ⟨rfl, ?_⟩)
        obtain ⟨f3, ⟨i3, R3, s3, l3, n3, e3, c3, -⟩ | ⟨g, i3, m3, e3⟩⟩ := po
        · refine ct203 3007 rfl hN s3 (by omega) (fun h4 f4 s4 => ⟨rfl, ?_⟩)
          exact ih h4 (R3 ++ [3007]) i3 (by omega) (((f1.tr (fr183 f2)).tr f3).tr f4) s4 (by omega) (by rw [List.length_append]; show R3.length + 1 + i ≤ _; omega) (by rw [e1, e2, e3]; exact mo_E4 s3.1.2.2 (Or.inr (Or.inl rfl))) (ckl_a c3 (ck_ao (by omega)))
        · refine ct203e m3.ne ⟨rfl, er h3 m3.ne (H h3 ⟨(f1.tr (fr183 f2)).tr f3, Or.inr ⟨g, i3, m3, by rw [e1, e2, e3]⟩⟩)⟩
      · rw [if_pos rfl]
        exact H h1 ⟨f1, Or.inl ⟨i1, R1, s1, l1, n1, e1, c1, y⟩⟩
  refine hA 0 0 h _ R W i ty s dW (by omega) (by omega) (fun _ => ⟨uB, uC⟩) ck tl (fun h1 po => ⟨rfl, ?_⟩)
  obtain ⟨f1, ⟨i1, R1, s1, l1, n1, e1, c1, -⟩ | ⟨g, i1, m1, e1⟩⟩ := po
  · exact loop (tT B N - i1) h1 R1 i1 (Nat.le_refl _) f1 s1 l1 n1 e1 c1
  · exact er h1 m1.ne (H h1 ⟨f1, Or.inr ⟨g, i1, m1, e1⟩⟩)
theorem lC199 {E : mv_E} {B : Nat → Nat} {N l b D d : Nat} {G : Nat → Int32} (hN : N ≤ 900) (hd : d ≤ 6) (hA : lC E B N l b G 200 (D + 12) d [] 1 4 (6 * d + 1) 2 true nB true) : lC E B N l b G 199 (D + 13) d [] 1 4 (6 * d) 1 true nO true := by
  intro k n h Q R W i ty s dW lW tW uW ck tl H
  obtain ⟨uB, uC⟩ := uW rfl
  apply sg199_0
  have er : ∀ h1, mv_I h1 148 11 ≠ 0 → Q none h1 → mv_VE E (D + 13) k n 199 5 [some (.ref 148), some (.int (nI d))] [] h1 Q := fun h1 t1 q1 => by
    apply sg199_5
    refine ct188e t1 ⟨_, rfl, ?_⟩
    rw [if_pos rfl]; exact q1
  have loop : ∀ f h1 R1 i1, tT B N - i1 ≤ f → mx_fr S199 h h1 → mS B N l b G R1 i1 h1 → i < i1 → R1.length + i ≤ R.length + i1 → MO B N l 1 R W i = MO B N l 4 R1 W i1 → ckl l R1 [] = some (true :: ty) → nB (tK B N i1) → mv_VE E (D + 13) k n 199 5 [some (.ref 148), some (.int (nI d))] [] h1 Q := by
    intro f
    induction f with
    | zero =>
      intro h1 R1 i1 hf f1 s1 l1 n1 e1 c1 nb
      apply sg199_5
      refine ct188 19 (by omega) (by omega) rfl s1.1 (fun y h2 f2 t2 => absurd t2.2.2 (by omega)) (fun y => ⟨_, rfl, ?_⟩)
      rw [if_pos rfl]
      exact H h1 ⟨f1, Or.inl ⟨i1, R1, s1, l1, n1, e1, c1, nb, y⟩⟩
    | succ f ih =>
      intro h1 R1 i1 hf f1 s1 l1 n1 e1 c1 nb
      have b1 := s1.2.2.2.2
      apply sg199_5
      refine ct188 19 (by omega) (by omega) rfl s1.1 (fun y h2 f2 t2 => ⟨_, rfl, ?_⟩) (fun y => ⟨_, rfl, ?_⟩)
      · rw [if_neg (by decide)]
        have e2 : MO B N l 4 R1 W i1 = MO B N l 1 R1 (19 :: W) (i1 + 1) := by
          have := mo_ao (K := tK B N) (Nn := tN B N) (l := l) (R := R1) s1.1.2.2 (Or.inr y) (by rw [y]; exact tW) (show W.length < 64 by omega)
          rw [y] at this; exact this
        refine hA 0 0 h2 _ R1 (19 :: W) (i1 + 1) (true :: ty) (s1.n f2 t2 (by omega)) (by rw [dep_c rfl (by decide), dW]) (by show W.length + 1 ≤ _; omega) (by exact (by decide : 1 < 2)) (fun _ => ⟨by rw [brk_c rfl]; exact uB, by rw [cmpd_c rfl (by decide)]; exact uC⟩) c1 (by show ty.length + 1 ≤ W.length + 1; omega) (fun h3 po => ⟨rfl, ?_⟩)
        obtain ⟨f3, ⟨i3, R3, s3, l3, n3, e3, c3, k3⟩ | ⟨g, i3, m3, e3⟩⟩ := po
        · refine ct203 3008 rfl hN s3 (by omega) (fun h4 f4 s4 => ⟨rfl, ?_⟩)
          exact ih h4 (R3 ++ [3008]) i3 (by omega) (((f1.tr (fr183 f2)).tr f3).tr f4) s4 (by omega) (by rw [List.length_append]; show R3.length + 1 + i ≤ _; omega) (by rw [e1, e2, e3]; exact mo_E4 s3.1.2.2 (Or.inr (Or.inr ⟨rfl, k3⟩))) (ckl_a c3 (ck_ao (by omega))) k3
        · refine ct203e m3.ne ⟨rfl, er h3 m3.ne (H h3 ⟨(f1.tr (fr183 f2)).tr f3, Or.inr ⟨g, i3, m3, by rw [e1, e2, e3]⟩⟩)⟩
      · rw [if_pos rfl]
        exact H h1 ⟨f1, Or.inl ⟨i1, R1, s1, l1, n1, e1, c1, nb, y⟩⟩
  refine hA 0 0 h _ R W i ty s dW (by omega) (by omega) (fun _ => ⟨uB, uC⟩) ck tl (fun h1 po => ⟨rfl, ?_⟩)
  obtain ⟨f1, ⟨i1, R1, s1, l1, n1, e1, c1, k1⟩ | ⟨g, i1, m1, e1⟩⟩ := po
  · exact loop (tT B N - i1) h1 R1 i1 (Nat.le_refl _) f1 s1 l1 n1 e1 c1 k1
  · exact er h1 m1.ne (H h1 ⟨f1, Or.inr ⟨g, i1, m1, e1⟩⟩)
/-- all of it, from the deepest on -/
theorem lCall {E : mv_E} {B : Nat → Nat} {N l b : Nat} {G : Nat → Int32} (hN : N ≤ 900) (hl : l < 2) : ∀ e d, d + e = 6 → (∀ D, lC E B N l b G 204 (D + 10 + 3 * e) d [none] 2 3 (6 * d + 3) 5 false nS false) ∧ (∀ D, lC E B N l b G 201 (D + 11 + 3 * e) d [none] 1 4 (6 * d + 2) 4 true nA true) ∧ (∀ D, lC E B N l b G 199 (D + 13 + 3 * e) d [] 1 4 (6 * d) 1 true nO true) := by
  intro e
  induction e with
  | zero =>
    intro d hd
    have h4 : ∀ D, lC E B N l b G 204 (D + 10) d [none] 2 3 (6 * d + 3) 5 false nS false := fun D => lC204 hN (by omega) (lC205 hN (by omega) (lC206 hN hl (by omega) (fun c => absurd c (by omega))))
    have h1 : ∀ D, lC E B N l b G 201 (D + 11) d [none] 1 4 (6 * d + 2) 4 true nA true := fun D => lC201 hN (by omega) (h4 D) (fun c => absurd c (by omega)) (fun c => absurd c (by omega))
    exact ⟨h4, h1, fun D => lC199 hN (by omega) (lC200 hN (by omega) (h1 D))⟩
  | succ e ih =>
    intro d hd
    obtain ⟨i4, i1, i9⟩ := ih (d + 1) (by omega)
    have h4 : ∀ D, lC E B N l b G 204 (D + 10 + 3 * (e + 1)) d [none] 2 3 (6 * d + 3) 5 false nS false := fun D => by
      rw [show D + 10 + 3 * (e + 1) = (D + 3 * (e + 1)) + 10 by omega]
      exact lC204 hN (by omega) (lC205 hN (by omega) (lC206 hN hl (by omega) (fun c => by
        rw [show D + 3 * (e + 1) + 7 = D + 10 + 3 * e by omega]
        exact i4 D)))
    have h1 : ∀ D, lC E B N l b G 201 (D + 11 + 3 * (e + 1)) d [none] 1 4 (6 * d + 2) 4 true nA true := fun D => by
      rw [show D + 11 + 3 * (e + 1) = (D + 3 * (e + 1)) + 11 by omega]
      refine lC201 hN (by omega) (by rw [show D + 3 * (e + 1) + 10 = D + 10 + 3 * (e + 1) by omega]; exact h4 D) (fun c => ?_) (fun c => ?_)
      · rw [show D + 3 * (e + 1) + 10 = (D + 2) + 11 + 3 * e by omega]
        exact i1 (D + 2)
      · rw [show D + 3 * (e + 1) + 10 = D + 13 + 3 * e by omega]
        exact i9 D
    refine ⟨h4, h1, fun D => ?_⟩
    rw [show D + 13 + 3 * (e + 1) = (D + 3 * (e + 1)) + 13 by omega]
    exact lC199 hN (by omega) (lC200 hN (by omega) (by rw [show D + 3 * (e + 1) + 11 = D + 11 + 3 * (e + 1) by omega]; exact h1 D))
