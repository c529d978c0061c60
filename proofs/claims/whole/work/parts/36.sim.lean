/-! Two tellings of the same raft answer alike; the Sea attends to a state. -/
theorem sp_near_cg {B B' : Nat → Nat} {m : Nat} : ∀ i, (∀ q, q < i → B' q = B q) → sp_near B' m i = sp_near B m i
  | 0, _ => rfl
  | i + 1, h => by
    show sp_near B' m i ||| cond (m.testBit i) (B' i) 0 = sp_near B m i ||| cond (m.testBit i) (B i) 0
    rw [sp_near_cg i (fun q hq => h q (by omega)), h i (by omega)]
theorem sp_pc_cg {B B' : Nat → Nat} {P s : Nat} (h : ∀ q, q < P → B' q = B q) : ∀ f x m, sp_pc B' P s f x m = sp_pc B P s f x m
  | 0, _, _ => rfl
  | f + 1, x, m => by
    unfold sp_pc
    rw [sp_near_cg P h, sp_pc_cg h f]
theorem sp_left_cg {B B' : Nat → Nat} {P s : Nat} (h : ∀ q, q < P → B' q = B q) : ∀ i, sp_left B' P s i = sp_left B P s i
  | 0 => rfl
  | i + 1 => by
    show cond ((sp_left B' P s i).1.testBit i) (mx_wo (sp_left B' P s i).1 (sp_piece B' P s i), (sp_left B' P s i).2 + 1) (sp_left B' P s i) = cond ((sp_left B P s i).1.testBit i) (mx_wo (sp_left B P s i).1 (sp_piece B P s i), (sp_left B P s i).2 + 1) (sp_left B P s i)
    rw [sp_left_cg h i]
    unfold sp_piece
    rw [sp_pc_cg h]
theorem sp_run_cg {w w' : Nat → Int32} {C C' : Nat → Nat} (hw : ∀ j, w' j = w j) : ∀ i, (∀ q, q < i → C' q = C q) → sp_run w' C' i = sp_run w C i
  | 0, _ => rfl
  | i + 1, h => by
    show sp_st w' (C' i) (sp_run w' C' i) = sp_st w (C i) (sp_run w C i)
    rw [sp_run_cg hw i (fun q hq => h q (by omega)), h i (by omega), show w' = w from funext hw]
/-- alike in all that laws look at -/
def sp_sim (A A' : Nat → Int32) : Prop := A' 1 = A 1 ∧ (∀ p, p < 8 → A' (9 + p) = A (9 + p)) ∧ (∀ p, p < 8 → A' (25 + p) = A (25 + p)) ∧ (∀ l, l < 2 → (A' (3 + l) = 0 ↔ A (3 + l) = 0) ∧ (A (3 + l) ≠ 0 → sp_N A' l = sp_N A l ∧ ∀ i, i < sp_N A l → sp_C A' l i = sp_C A l i)) ∧ A' 74 = A 74 ∧ ∀ p, p < sp_P A → A' (66 + p) = A (66 + p)
theorem sp_sim.P {A A' : Nat → Int32} (s : sp_sim A A') : sp_P A' = sp_P A := by unfold sp_P; rw [s.1]
theorem sp_sim.float {A A' : Nat → Int32} (z : sp_sim A A') (h8 : sp_P A ≤ 8) (s : Nat) : sp_float A' s = sp_float A s := by
  have eP := z.P
  obtain ⟨z1, z2, z3, z4, z5, z6⟩ := z
  have e1 : sp_sum A' 66 s (sp_P A) = sp_sum A 66 s (sp_P A) := sp_sum_ext _ (fun p hp _ => z6 p hp)
  have e2 : ∀ t, sp_sum A' 9 t (sp_P A) = sp_sum A 9 t (sp_P A) := fun t => sp_sum_ext _ (fun p hp _ => z2 p (by omega))
  have e3 : sp_pieces (sp_B A') (sp_P A) s = sp_pieces (sp_B A) (sp_P A) s := by
    unfold sp_pieces
    rw [sp_left_cg (B := sp_B A) (B' := sp_B A') (fun q hq => by unfold sp_B; rw [z3 q (by omega)])]
  have ew : ∀ j, sp_wF A' s j = sp_wF A s j := by
    intro j
    unfold sp_wF
    rw [eP, e1, e2, e3, z5]
  obtain ⟨y1, y2⟩ := z4 1 (by omega)
  unfold sp_float
  rw [eP, e1, e2, z1]
  by_cases q : A 1 = 0 ∨ A 4 = 0
  · rw [if_pos q, if_pos (q.imp_right y1.mpr)]
  · rw [if_neg q, if_neg (fun c => q (c.imp_right y1.mp))]
    obtain ⟨y3, y4⟩ := y2 (fun c => q (Or.inr c))
    unfold sp_ans
    rw [y3, sp_run_cg ew _ y4]
theorem sp_sim.lets {A A' : Nat → Int32} (z : sp_sim A A') (h8 : sp_P A ≤ 8) (s p : Nat) (hp : p < sp_P A) : sp_lets A' s p = sp_lets A s p := by
  obtain ⟨z1, z2, z3, z4, z5, z6⟩ := z
  have ew : ∀ j, sp_wL A' s p j = sp_wL A s p j := by
    intro j
    unfold sp_wL sp_B
    rw [z5, z6 p hp, z2 p (by omega), z3 p (by omega)]
  obtain ⟨y1, y2⟩ := z4 0 (by omega)
  unfold sp_lets
  by_cases q : A 3 = 0
  · rw [decide_eq_true (y1.mpr q), decide_eq_true q, Bool.not_true, Bool.false_and, Bool.false_and]
  · rw [decide_eq_false q, decide_eq_false (fun c => q (y1.mp c))]
    obtain ⟨y3, y4⟩ := y2 q
    unfold sp_ans
    rw [y3, sp_run_cg ew _ y4]
theorem sp_sim.week {A A' : Nat → Int32} (z : sp_sim A A') (h8 : sp_P A ≤ 8) (s : Nat) : sp_week A' s = sp_week A s := by
  apply Nat.eq_of_testBit_eq
  intro j
  rw [sp_week_bit, sp_week_bit, z.P]
  by_cases q : j < sp_P A
  · rw [z.lets h8 s j q]
  · rw [decide_eq_false q, Bool.false_and, Bool.false_and]
def cr_iv (c : Nat) : Nat :=
  if c < 1000 then c else match c with
  | 1145 => 1000
  | 1139 => 1001
  | 1132 => 1002
  | 1133 => 1003
  | 1146 => 1004
  | 1147 => 1005
  | 1148 => 1006
  | 1149 => 1007
  | 1043 => 3000
  | 1045 => 3001
  | 1042 => 3002
  | 1061 => 3003
  | 1060 => 3004
  | 1062 => 3005
  | 1142 => 3006
  | 1143 => 3007
  | 1144 => 3008
  | _ => 0
theorem cr_ivE {l c : Nat} {ty t2 : List Bool} (h : sp_ck l c ty = some t2) : cr_iv (cr_tr c) = c ∧ cr_tr c < 2000 := by
  rcases sp_ckE h with ⟨h1, -⟩ | ⟨j, h1, hj, -⟩ | ⟨h1, -⟩ | ⟨h1, -⟩ | ⟨h1, -⟩ | ⟨h1, -⟩
  · have e : cr_tr c = c := by unfold cr_tr; rw [if_pos h1]
    rw [e]; unfold cr_iv; rw [if_pos h1]; exact ⟨rfl, by omega⟩
  · rw [h1]; exact (by decide : ∀ j, j < 8 → cr_iv (cr_tr (1000 + j)) = 1000 + j ∧ cr_tr (1000 + j) < 2000) j hj
  · rw [h1]; decide
  · rcases (by omega : c = 3000 ∨ c = 3001 ∨ c = 3002) with rfl | rfl | rfl <;> decide
  · rcases (by omega : c = 3003 ∨ c = 3004 ∨ c = 3005) with rfl | rfl | rfl <;> decide
  · rcases h1 with rfl | rfl <;> decide
theorem sp_cks_at {l : Nat} {C : Nat → Nat} {N : Nat} {t : List Bool} (h : sp_cks l C N = some t) (i : Nat) (hi : i < N) : ∃ t1 t2, sp_ck l (C i) t1 = some t2 := by
  obtain ⟨t2, c2⟩ := sp_cks_le h (N - (i + 1)) (by omega)
  rw [show N - (N - (i + 1)) = i + 1 by omega] at c2
  obtain ⟨ty, -, c3⟩ := sp_cksE c2
  exact ⟨_, _, c3⟩
/-- one Raft told twice -/
theorem cr_same {E : mv_E} {h : mv_H} {r : Nat} {A A' : Nat → Int32} (c : cr_ok E h r A) (c' : cr_ok E h r A') (ok : sp_ok A) (ok' : sp_ok A') (h1 : A' 74 = A 74) (h2 : ∀ p, p < sp_P A → A' (66 + p) = A (66 + p)) : sp_sim A A' := by
  obtain ⟨-, ⟨v0, v1, v2, v3, v4, v5, v6, v7⟩, l0, l1⟩ := c
  obtain ⟨-, ⟨w0, w1, w2, w3, w4, w5, w6, w7⟩, m0, m1⟩ := c'
  have lw : ∀ l, cr_law E h r A l → cr_law E h r A' l → sp_lw A l → sp_lw A' l → (A' (3 + l) = 0 ↔ A (3 + l) = 0) ∧ (A (3 + l) ≠ 0 → sp_N A' l = sp_N A l ∧ ∀ i, i < sp_N A l → sp_C A' l i = sp_C A l i) := by
    intro l a b o o'
    obtain ⟨L, a1, a2, a3, a4⟩ := cr_lawL a o
    obtain ⟨M, b1, b2, b3, b4⟩ := cr_lawL b o'
    have e : L = M := by rw [a1] at b1; cases b1; rfl
    subst e
    have e0 : A' (3 + l) = 0 ↔ A (3 + l) = 0 := b3.symm.trans a3
    refine ⟨e0, fun q => ?_⟩
    obtain ⟨p1, p2, p3⟩ := a4 q
    obtain ⟨q1, q2, q3⟩ := b4 (fun z => q (e0.mp z))
    refine ⟨q1.symm.trans p1, fun i hi => ?_⟩
    obtain ⟨t1, t2, g1⟩ := sp_cks_at p3 i hi
    obtain ⟨t3, t4, g2⟩ := sp_cks_at q3 i (by omega)
    obtain ⟨f1, f2⟩ := cr_ivE g1
    obtain ⟨f3, f4⟩ := cr_ivE g2
    have e2 : nI (cr_tr (sp_C A l i)) = nI (cr_tr (sp_C A' l i)) := (p2 i (by omega)).symm.trans (q2 i (by omega))
    rw [nI_eq (by omega) (by omega)] at e2
    rw [← f1, ← f3, e2]
  refine ⟨w0.symm.trans v0, fun p hp => (w3 p hp).symm.trans (v3 p hp), fun p hp => (w5 p hp).symm.trans (v5 p hp), fun l hl => ?_, h1, h2⟩
  rcases (by omega : l = 0 ∨ l = 1) with rfl | rfl
  · exact lw 0 l0 m0 ok.2.2.2.1 ok'.2.2.2.1
  · exact lw 1 l1 m1 ok.2.2.2.2 ok'.2.2.2.2
