/-! Methods that only look: their answers. -/
theorem mv_ite {c : Prop} [Decidable c] {α : Type} {f : α → Prop} {a b : α} {A B : Prop} (hA : f a → A) (hB : f b → B) (H : f (if c then a else b)) : if c then A else B := by
  by_cases q : c
  · rw [if_pos q] at H ⊢; exact hA H
  · rw [if_neg q] at H ⊢; exact hB H
theorem mv_cnd {c : Bool} {α : Type} {f : α → Prop} {a b : α} {A B : Prop} (hA : f a → A) (hB : f b → B) (H : f (cond c a b)) : cond c A B := by
  cases c
  · exact hB H
  · exact hA H
theorem mv_cE {α : Type} {b : Bool} {x y z : α} (h : cond b x y = z) : (b = true ∧ x = z) ∨ (b = false ∧ y = z) := by
  cases b
  · exact Or.inr ⟨rfl, h⟩
  · exact Or.inl ⟨rfl, h⟩
-- RaftHold$LawReader.isAtomWord
def pf4 (h : mv_H) (x1 : Int32) : Bool := if x1 = 132 then true else if x1 = 133 then true else if x1 = 134 then false else if x1 = 135 then false else if x1 = 136 then false else if x1 = 137 then false else if x1 = 138 then false else if x1 = 139 then true else if x1 = 140 then false else if x1 = 141 then false else if x1 = 142 then false else if x1 = 143 then false else if x1 = 144 then false else if x1 = 145 then true else if x1 = 146 then if mv_I h 58 5 = 140 then true else false else if x1 = 147 then if mv_I h 58 5 = 140 then true else false else if x1 = 148 then if mv_I h 58 5 = 140 then true else false else if x1 = 149 then if mv_I h 58 5 = 141 then true else false else false
set_option maxHeartbeats 20000000 in
set_option maxRecDepth 100000 in
theorem sg4_0 {E : mv_E} {D k n : Nat} (x1 : Int32) {h : mv_H} {Q : mv_Q} (H : if x1 = 132 then (Q (some (.int 1)) h) else (if x1 = 133 then (Q (some (.int 1)) h) else (if x1 = 134 then (Q (some (.int 0)) h) else (if x1 = 135 then (Q (some (.int 0)) h) else (if x1 = 136 then (Q (some (.int 0)) h) else (if x1 = 137 then (Q (some (.int 0)) h) else (if x1 = 138 then (Q (some (.int 0)) h) else (if x1 = 139 then (Q (some (.int 1)) h) else (if x1 = 140 then (Q (some (.int 0)) h) else (if x1 = 141 then (Q (some (.int 0)) h) else (if x1 = 142 then (Q (some (.int 0)) h) else (if x1 = 143 then (Q (some (.int 0)) h) else (if x1 = 144 then (Q (some (.int 0)) h) else (if x1 = 145 then (Q (some (.int 1)) h) else (if x1 = 146 then (if mv_I h 58 5 = 140 then (Q (some (.int 1)) h) else (Q (some (.int 0)) h)) else (if x1 = 147 then (if mv_I h 58 5 = 140 then (Q (some (.int 1)) h) else (Q (some (.int 0)) h)) else (if x1 = 148 then (if mv_I h 58 5 = 140 then (Q (some (.int 1)) h) else (Q (some (.int 0)) h)) else (if x1 = 149 then (if mv_I h 58 5 = 141 then (Q (some (.int 1)) h) else (Q (some (.int 0)) h)) else (Q (some (.int 0)) h))))))))))))))))))) : mv_VE E D k n 4 0 [some (.ref 58), some (.int x1)] [] h Q := mv_s0 (fun O => if x1 = 132 then (Q (some (.int 1)) h) else (if x1 = 133 then (Q (some (.int 1)) h) else (if x1 = 134 then (Q (some (.int 0)) h) else (if x1 = 135 then (Q (some (.int 0)) h) else (if x1 = 136 then (Q (some (.int 0)) h) else (if x1 = 137 then (Q (some (.int 0)) h) else (if x1 = 138 then (Q (some (.int 0)) h) else (if x1 = 139 then (Q (some (.int 1)) h) else (if x1 = 140 then (Q (some (.int 0)) h) else (if x1 = 141 then (Q (some (.int 0)) h) else (if x1 = 142 then (Q (some (.int 0)) h) else (if x1 = 143 then (Q (some (.int 0)) h) else (if x1 = 144 then (Q (some (.int 0)) h) else (if x1 = 145 then (Q (some (.int 1)) h) else (if x1 = 146 then (if mv_I h 58 5 = 140 then (Q (some (.int 1)) h) else (Q (some (.int 0)) h)) else (if x1 = 147 then (if mv_I h 58 5 = 140 then (Q (some (.int 1)) h) else (Q (some (.int 0)) h)) else (if x1 = 148 then (if mv_I h 58 5 = 140 then (Q (some (.int 1)) h) else (Q (some (.int 0)) h)) else (if x1 = 149 then (if mv_I h 58 5 = 141 then (Q (some (.int 1)) h) else (Q (some (.int 0)) h)) else (Q (some (.int 0)) h))))))))))))))))))) 60 (by decide) (fun _ q => q) H
theorem cp4 {E : mv_E} {D k n : Nat} (x1 : Int32) {h : mv_H} {Q : mv_Q} (H : Q (some (.int (cond (pf4 h x1) 1 0))) h) : mv_VE E D k n 4 0 [some (.ref 58), some (.int x1)] [] h Q := sg4_0 x1 ((mv_ite (f := fun z => Q (some (.int (cond z 1 0))) h) (fun q => q) (mv_ite (f := fun z => Q (some (.int (cond z 1 0))) h) (fun q => q) (mv_ite (f := fun z => Q (some (.int (cond z 1 0))) h) (fun q => q) (mv_ite (f := fun z => Q (some (.int (cond z 1 0))) h) (fun q => q) (mv_ite (f := fun z => Q (some (.int (cond z 1 0))) h) (fun q => q) (mv_ite (f := fun z => Q (some (.int (cond z 1 0))) h) (fun q => q) (mv_ite (f := fun z => Q (some (.int (cond z 1 0))) h) (fun q => q) (mv_ite (f := fun z => Q (some (.int (cond z 1 0))) h) (fun q => q) (mv_ite (f := fun z => Q (some (.int (cond z 1 0))) h) (fun q => q) (mv_ite (f := fun z => Q (some (.int (cond z 1 0))) h) (fun q => q) (mv_ite (f := fun z => Q (some (.int (cond z 1 0))) h) (fun q => q) (mv_ite (f := fun z => Q (some (.int (cond z 1 0))) h) (fun q => q) (mv_ite (f := fun z => Q (some (.int (cond z 1 0))) h) (fun q => q) (mv_ite (f := fun z => Q (some (.int (cond z 1 0))) h) (fun q => q) (mv_ite (f := fun z => Q (some (.int (cond z 1 0))) h) (mv_ite (f := fun z => Q (some (.int (cond z 1 0))) h) (fun q => q) (fun q => q)) (mv_ite (f := fun z => Q (some (.int (cond z 1 0))) h) (mv_ite (f := fun z => Q (some (.int (cond z 1 0))) h) (fun q => q) (fun q => q)) (mv_ite (f := fun z => Q (some (.int (cond z 1 0))) h) (mv_ite (f := fun z => Q (some (.int (cond z 1 0))) h) (fun q => q) (fun q => q)) (mv_ite (f := fun z => Q (some (.int (cond z 1 0))) h) (mv_ite (f := fun z => Q (some (.int (cond z 1 0))) h) (fun q => q) (fun q => q)) (fun q => q))))))))))))))))))) H)
def mv_pe4 (av : List Value) (h : mv_H) : Option (Nat × (Bool ⊕ Int32)) := match av with
  | [.ref a, .int x1] => cond (Nat.beq a 58) (some (0, .inl (pf4 h x1))) none
  | _ => none
theorem mv_peo4 {E : mv_E} {D d : Nat} {av : List Value} {h : mv_H} {r : Bool ⊕ Int32} (hd : d ≤ D) (hp : mv_pe4 av h = some (d, r)) : mv_V E (mv_S (mv_sl E)) D 0 0 4 0 (mv_ent (mv_ml 4) av) [] h (fun v h' => h' = h ∧ v = some (.int (match (generalizing := false) r with | .inl b => cond b 1 0 | .inr x => x))) := by
  unfold mv_pe4 at hp
  split at hp
  · rcases mv_cE hp with ⟨hb, hp⟩ | ⟨hb, hp⟩
    · cases hp
      obtain rfl := mv_bq hb
      obtain ⟨D, rfl⟩ : ∃ q, D = q + 0 := ⟨D - 0, by omega⟩
      exact cp4 (D := D) _ ⟨rfl, rfl⟩
    · cases hp
  · cases hp
-- RaftHold$LawReader.isBracket
def pf7 (x0 : Int32) : Bool := if x0 = 40 then true else if x0 = 91 then true else false
set_option maxHeartbeats 20000000 in
set_option maxRecDepth 100000 in
theorem sg7_0 {E : mv_E} {D k n : Nat} (x0 : Int32) {h : mv_H} {Q : mv_Q} (H : if x0 = 40 then (Q (some (.int 1)) h) else (if x0 = 91 then (Q (some (.int 1)) h) else (Q (some (.int 0)) h))) : mv_VE E D k n 7 0 [some (.int x0)] [] h Q := mv_s0 (fun O => if x0 = 40 then (Q (some (.int 1)) h) else (if x0 = 91 then (Q (some (.int 1)) h) else (Q (some (.int 0)) h))) 60 (by decide) (fun _ q => q) H
theorem cp7 {E : mv_E} {D k n : Nat} (x0 : Int32) {h : mv_H} {Q : mv_Q} (H : Q (some (.int (cond (pf7 x0) 1 0))) h) : mv_VE E D k n 7 0 [some (.int x0)] [] h Q := sg7_0 x0 ((mv_ite (f := fun z => Q (some (.int (cond z 1 0))) h) (fun q => q) (mv_ite (f := fun z => Q (some (.int (cond z 1 0))) h) (fun q => q) (fun q => q))) H)
def mv_pe7 (av : List Value) (h : mv_H) : Option (Nat × (Bool ⊕ Int32)) := match av with
  | [.int x0] => some (0, .inl (pf7 x0))
  | _ => none
theorem mv_peo7 {E : mv_E} {D d : Nat} {av : List Value} {h : mv_H} {r : Bool ⊕ Int32} (hd : d ≤ D) (hp : mv_pe7 av h = some (d, r)) : mv_V E (mv_S (mv_sl E)) D 0 0 7 0 (mv_ent (mv_ml 7) av) [] h (fun v h' => h' = h ∧ v = some (.int (match (generalizing := false) r with | .inl b => cond b 1 0 | .inr x => x))) := by
  unfold mv_pe7 at hp
  split at hp
  · cases hp
    obtain ⟨D, rfl⟩ : ∃ q, D = q + 0 := ⟨D - 0, by omega⟩
    exact cp7 (D := D) _ ⟨rfl, rfl⟩
  · cases hp
-- RaftHold$LawReader.rank
def pf11 (x0 : Int32) : Int32 := if x0 = 42 then 6 else if x0 = 43 then 5 else if x0 = 45 then 5 else if x0 = 60 then 4 else if x0 = 61 then 4 else if x0 = 62 then 4 else if x0 = 142 then 3 else if x0 = 143 then 2 else if x0 = 144 then 1 else 0
set_option maxHeartbeats 20000000 in
set_option maxRecDepth 100000 in
theorem sg11_0 {E : mv_E} {D k n : Nat} (x0 : Int32) {h : mv_H} {Q : mv_Q} (H : if x0 = 42 then (Q (some (.int 6)) h) else (if x0 = 43 then (Q (some (.int 5)) h) else (if x0 = 45 then (Q (some (.int 5)) h) else (if x0 = 60 then (Q (some (.int 4)) h) else (if x0 = 61 then (Q (some (.int 4)) h) else (if x0 = 62 then (Q (some (.int 4)) h) else (if x0 = 142 then (Q (some (.int 3)) h) else (if x0 = 143 then (Q (some (.int 2)) h) else (if x0 = 144 then (Q (some (.int 1)) h) else (Q (some (.int 0)) h)))))))))) : mv_VE E D k n 11 0 [some (.int x0)] [] h Q := mv_s0 (fun O => if x0 = 42 then (Q (some (.int 6)) h) else (if x0 = 43 then (Q (some (.int 5)) h) else (if x0 = 45 then (Q (some (.int 5)) h) else (if x0 = 60 then (Q (some (.int 4)) h) else (if x0 = 61 then (Q (some (.int 4)) h) else (if x0 = 62 then (Q (some (.int 4)) h) else (if x0 = 142 then (Q (some (.int 3)) h) else (if x0 = 143 then (Q (some (.int 2)) h) else (if x0 = 144 then (Q (some (.int 1)) h) else (Q (some (.int 0)) h)))))))))) 60 (by decide) (fun _ q => q) H
theorem cp11 {E : mv_E} {D k n : Nat} (x0 : Int32) {h : mv_H} {Q : mv_Q} (H : Q (some (.int (pf11 x0))) h) : mv_VE E D k n 11 0 [some (.int x0)] [] h Q := sg11_0 x0 ((mv_ite (f := fun z => Q (some (.int (z))) h) (fun q => q) (mv_ite (f := fun z => Q (some (.int (z))) h) (fun q => q) (mv_ite (f := fun z => Q (some (.int (z))) h) (fun q => q) (mv_ite (f := fun z => Q (some (.int (z))) h) (fun q => q) (mv_ite (f := fun z => Q (some (.int (z))) h) (fun q => q) (mv_ite (f := fun z => Q (some (.int (z))) h) (fun q => q) (mv_ite (f := fun z => Q (some (.int (z))) h) (fun q => q) (mv_ite (f := fun z => Q (some (.int (z))) h) (fun q => q) (mv_ite (f := fun z => Q (some (.int (z))) h) (fun q => q) (fun q => q)))))))))) H)
def mv_pe11 (av : List Value) (h : mv_H) : Option (Nat × (Bool ⊕ Int32)) := match av with
  | [.int x0] => some (0, .inr (pf11 x0))
  | _ => none
theorem mv_peo11 {E : mv_E} {D d : Nat} {av : List Value} {h : mv_H} {r : Bool ⊕ Int32} (hd : d ≤ D) (hp : mv_pe11 av h = some (d, r)) : mv_V E (mv_S (mv_sl E)) D 0 0 11 0 (mv_ent (mv_ml 11) av) [] h (fun v h' => h' = h ∧ v = some (.int (match (generalizing := false) r with | .inl b => cond b 1 0 | .inr x => x))) := by
  unfold mv_pe11 at hp
  split at hp
  · cases hp
    obtain ⟨D, rfl⟩ : ∃ q, D = q + 0 := ⟨D - 0, by omega⟩
    exact cp11 (D := D) _ ⟨rfl, rfl⟩
  · cases hp
-- RaftHold$Reader.isFlag
def pf45 (x0 : Int32) : Bool := if x0 = 134 then true else if x0 = 135 then true else if x0 = 136 then true else false
set_option maxHeartbeats 20000000 in
set_option maxRecDepth 100000 in
theorem sg45_0 {E : mv_E} {D k n : Nat} (x0 : Int32) {h : mv_H} {Q : mv_Q} (H : if x0 = 134 then (Q (some (.int 1)) h) else (if x0 = 135 then (Q (some (.int 1)) h) else (if x0 = 136 then (Q (some (.int 1)) h) else (Q (some (.int 0)) h)))) : mv_VE E D k n 45 0 [some (.int x0)] [] h Q := mv_s0 (fun O => if x0 = 134 then (Q (some (.int 1)) h) else (if x0 = 135 then (Q (some (.int 1)) h) else (if x0 = 136 then (Q (some (.int 1)) h) else (Q (some (.int 0)) h)))) 60 (by decide) (fun _ q => q) H
theorem cp45 {E : mv_E} {D k n : Nat} (x0 : Int32) {h : mv_H} {Q : mv_Q} (H : Q (some (.int (cond (pf45 x0) 1 0))) h) : mv_VE E D k n 45 0 [some (.int x0)] [] h Q := sg45_0 x0 ((mv_ite (f := fun z => Q (some (.int (cond z 1 0))) h) (fun q => q) (mv_ite (f := fun z => Q (some (.int (cond z 1 0))) h) (fun q => q) (mv_ite (f := fun z => Q (some (.int (cond z 1 0))) h) (fun q => q) (fun q => q)))) H)
def mv_pe45 (av : List Value) (h : mv_H) : Option (Nat × (Bool ⊕ Int32)) := match av with
  | [.int x0] => some (0, .inl (pf45 x0))
  | _ => none
theorem mv_peo45 {E : mv_E} {D d : Nat} {av : List Value} {h : mv_H} {r : Bool ⊕ Int32} (hd : d ≤ D) (hp : mv_pe45 av h = some (d, r)) : mv_V E (mv_S (mv_sl E)) D 0 0 45 0 (mv_ent (mv_ml 45) av) [] h (fun v h' => h' = h ∧ v = some (.int (match (generalizing := false) r with | .inl b => cond b 1 0 | .inr x => x))) := by
  unfold mv_pe45 at hp
  split at hp
  · cases hp
    obtain ⟨D, rfl⟩ : ∃ q, D = q + 0 := ⟨D - 0, by omega⟩
    exact cp45 (D := D) _ ⟨rfl, rfl⟩
  · cases hp
-- RaftHold$Sea.joined
def pf55 (x0 : Int32) (x1 : Int32) (x2 : Int32) : Int32 := if x0 = 60 then if x1 < x2 then 1 else 0 else if x0 = 61 then if x1 = x2 then 1 else 0 else if x0 = 62 then if x2 < x1 then 1 else 0 else if x0 = 143 then x1 &&& x2 else if x0 = 144 then x1 ||| x2 else if x0 = 43 then if 0 < lg_cmp ((x1 + x2).toInt64) 1000000 then 1000000 else if lg_cmp ((x1 + x2).toInt64) (-1000000) < 0 then (-1000000) else ((x1 + x2).toInt64).toInt32 else if x0 = 45 then if 0 < lg_cmp ((x1 - x2).toInt64) 1000000 then 1000000 else if lg_cmp ((x1 - x2).toInt64) (-1000000) < 0 then (-1000000) else ((x1 - x2).toInt64).toInt32 else if 0 < lg_cmp (x1.toInt64 * x2.toInt64) 1000000 then 1000000 else if lg_cmp (x1.toInt64 * x2.toInt64) (-1000000) < 0 then (-1000000) else (x1.toInt64 * x2.toInt64).toInt32
set_option maxHeartbeats 20000000 in
set_option maxRecDepth 100000 in
theorem sg55_0 {E : mv_E} {D k n : Nat} (x0 : Int32) (x1 : Int32) (x2 : Int32) {h : mv_H} {Q : mv_Q} (H : if x0 = 60 then (if x1 < x2 then (Q (some (.int 1)) h) else (Q (some (.int 0)) h)) else (if x0 = 61 then (if x1 = x2 then (Q (some (.int 1)) h) else (Q (some (.int 0)) h)) else (if x0 = 62 then (if x2 < x1 then (Q (some (.int 1)) h) else (Q (some (.int 0)) h)) else (if x0 = 143 then (Q (some (.int (x1 &&& x2))) h) else (if x0 = 144 then (Q (some (.int (x1 ||| x2))) h) else (if x0 = 43 then (if 0 < lg_cmp ((x1 + x2).toInt64) 1000000 then (Q (some (.int 1000000)) h) else (if lg_cmp ((x1 + x2).toInt64) (-1000000) < 0 then (Q (some (.int (-1000000))) h) else (Q (some (.int (((x1 + x2).toInt64).toInt32))) h))) else (if x0 = 45 then (if 0 < lg_cmp ((x1 - x2).toInt64) 1000000 then (Q (some (.int 1000000)) h) else (if lg_cmp ((x1 - x2).toInt64) (-1000000) < 0 then (Q (some (.int (-1000000))) h) else (Q (some (.int (((x1 - x2).toInt64).toInt32))) h))) else (if 0 < lg_cmp (x1.toInt64 * x2.toInt64) 1000000 then (Q (some (.int 1000000)) h) else (if lg_cmp (x1.toInt64 * x2.toInt64) (-1000000) < 0 then (Q (some (.int (-1000000))) h) else (Q (some (.int ((x1.toInt64 * x2.toInt64).toInt32))) h)))))))))) : mv_VE E D k n 55 0 [some (.int x0), some (.int x1), some (.int x2), none, none] [] h Q := mv_s0 (fun O => if x0 = 60 then (if x1 < x2 then (Q (some (.int 1)) h) else (Q (some (.int 0)) h)) else (if x0 = 61 then (if x1 = x2 then (Q (some (.int 1)) h) else (Q (some (.int 0)) h)) else (if x0 = 62 then (if x2 < x1 then (Q (some (.int 1)) h) else (Q (some (.int 0)) h)) else (if x0 = 143 then (Q (some (.int (O.1 3 x1 x2))) h) else (if x0 = 144 then (Q (some (.int (O.1 4 x1 x2))) h) else (if x0 = 43 then (if 0 < O.2.2.2.2 (O.2.2.1 (O.1 0 x1 x2)) 1000000 then (Q (some (.int 1000000)) h) else (if O.2.2.2.2 (O.2.2.1 (O.1 0 x1 x2)) (-1000000) < 0 then (Q (some (.int (-1000000))) h) else (Q (some (.int (O.2.2.2.1 (O.2.2.1 (O.1 0 x1 x2))))) h))) else (if x0 = 45 then (if 0 < O.2.2.2.2 (O.2.2.1 (O.1 1 x1 x2)) 1000000 then (Q (some (.int 1000000)) h) else (if O.2.2.2.2 (O.2.2.1 (O.1 1 x1 x2)) (-1000000) < 0 then (Q (some (.int (-1000000))) h) else (Q (some (.int (O.2.2.2.1 (O.2.2.1 (O.1 1 x1 x2))))) h))) else (if 0 < O.2.2.2.2 (O.2.1 2 (O.2.2.1 x1) (O.2.2.1 x2)) 1000000 then (Q (some (.int 1000000)) h) else (if O.2.2.2.2 (O.2.1 2 (O.2.2.1 x1) (O.2.2.1 x2)) (-1000000) < 0 then (Q (some (.int (-1000000))) h) else (Q (some (.int (O.2.2.2.1 (O.2.1 2 (O.2.2.1 x1) (O.2.2.1 x2))))) h)))))))))) 220 (by decide) (fun _ q => q) H
theorem cp55 {E : mv_E} {D k n : Nat} (x0 : Int32) (x1 : Int32) (x2 : Int32) {h : mv_H} {Q : mv_Q} (H : Q (some (.int (pf55 x0 x1 x2))) h) : mv_VE E D k n 55 0 [some (.int x0), some (.int x1), some (.int x2), none, none] [] h Q := sg55_0 x0 x1 x2 ((mv_ite (f := fun z => Q (some (.int (z))) h) (mv_ite (f := fun z => Q (some (.int (z))) h) (fun q => q) (fun q => q)) (mv_ite (f := fun z => Q (some (.int (z))) h) (mv_ite (f := fun z => Q (some (.int (z))) h) (fun q => q) (fun q => q)) (mv_ite (f := fun z => Q (some (.int (z))) h) (mv_ite (f := fun z => Q (some (.int (z))) h) (fun q => q) (fun q => q)) (mv_ite (f := fun z => Q (some (.int (z))) h) (fun q => q) (mv_ite (f := fun z => Q (some (.int (z))) h) (fun q => q) (mv_ite (f := fun z => Q (some (.int (z))) h) (mv_ite (f := fun z => Q (some (.int (z))) h) (fun q => q) (mv_ite (f := fun z => Q (some (.int (z))) h) (fun q => q) (fun q => q))) (mv_ite (f := fun z => Q (some (.int (z))) h) (mv_ite (f := fun z => Q (some (.int (z))) h) (fun q => q) (mv_ite (f := fun z => Q (some (.int (z))) h) (fun q => q) (fun q => q))) (mv_ite (f := fun z => Q (some (.int (z))) h) (fun q => q) (mv_ite (f := fun z => Q (some (.int (z))) h) (fun q => q) (fun q => q)))))))))) H)
def mv_pe55 (av : List Value) (h : mv_H) : Option (Nat × (Bool ⊕ Int32)) := match av with
  | [.int x0, .int x1, .int x2] => some (0, .inr (pf55 x0 x1 x2))
  | _ => none
theorem mv_peo55 {E : mv_E} {D d : Nat} {av : List Value} {h : mv_H} {r : Bool ⊕ Int32} (hd : d ≤ D) (hp : mv_pe55 av h = some (d, r)) : mv_V E (mv_S (mv_sl E)) D 0 0 55 0 (mv_ent (mv_ml 55) av) [] h (fun v h' => h' = h ∧ v = some (.int (match (generalizing := false) r with | .inl b => cond b 1 0 | .inr x => x))) := by
  unfold mv_pe55 at hp
  split at hp
  · cases hp
    obtain ⟨D, rfl⟩ : ∃ q, D = q + 0 := ⟨D - 0, by omega⟩
    exact cp55 (D := D) _ _ _ ⟨rfl, rfl⟩
  · cases hp
-- RaftHold$Sea.atom
def pf56 (h : mv_H) (x1 : Int32) : Int32 := if x1 = 132 then mv_I h 87 10 else if x1 = 133 then mv_I h 87 11 else if x1 = 134 then mv_I h 87 12 else if x1 = 135 then mv_I h 87 12 else if x1 = 136 then mv_I h 87 12 else if x1 = 137 then mv_I h 87 12 else if x1 = 138 then mv_I h 87 12 else if x1 = 139 then mv_I h 88 1 else if x1 = 140 then mv_I h 87 12 else if x1 = 141 then mv_I h 87 12 else if x1 = 142 then mv_I h 87 12 else if x1 = 143 then mv_I h 87 12 else if x1 = 144 then mv_I h 87 12 else if x1 = 145 then mv_I h 87 6 else if x1 = 146 then mv_I h 87 7 else if x1 = 147 then mv_I h 87 8 else if x1 = 148 then mv_I h 87 9 else mv_I h 87 12
set_option maxHeartbeats 20000000 in
set_option maxRecDepth 100000 in
theorem sg56_0 {E : mv_E} {D k n : Nat} (x1 : Int32) {h : mv_H} {Q : mv_Q} (H : if x1 = 132 then (Q (some (.int (mv_I h 87 10))) h) else (if x1 = 133 then (Q (some (.int (mv_I h 87 11))) h) else (if x1 = 134 then (Q (some (.int (mv_I h 87 12))) h) else (if x1 = 135 then (Q (some (.int (mv_I h 87 12))) h) else (if x1 = 136 then (Q (some (.int (mv_I h 87 12))) h) else (if x1 = 137 then (Q (some (.int (mv_I h 87 12))) h) else (if x1 = 138 then (Q (some (.int (mv_I h 87 12))) h) else (if x1 = 139 then (Q (some (.int (mv_I h 88 1))) h) else (if x1 = 140 then (Q (some (.int (mv_I h 87 12))) h) else (if x1 = 141 then (Q (some (.int (mv_I h 87 12))) h) else (if x1 = 142 then (Q (some (.int (mv_I h 87 12))) h) else (if x1 = 143 then (Q (some (.int (mv_I h 87 12))) h) else (if x1 = 144 then (Q (some (.int (mv_I h 87 12))) h) else (if x1 = 145 then (Q (some (.int (mv_I h 87 6))) h) else (if x1 = 146 then (Q (some (.int (mv_I h 87 7))) h) else (if x1 = 147 then (Q (some (.int (mv_I h 87 8))) h) else (if x1 = 148 then (Q (some (.int (mv_I h 87 9))) h) else (Q (some (.int (mv_I h 87 12))) h)))))))))))))))))) : mv_VE E D k n 56 0 [some (.ref 87), some (.int x1)] [] h Q := mv_s0 (fun O => if x1 = 132 then (Q (some (.int (mv_I h 87 10))) h) else (if x1 = 133 then (Q (some (.int (mv_I h 87 11))) h) else (if x1 = 134 then (Q (some (.int (mv_I h 87 12))) h) else (if x1 = 135 then (Q (some (.int (mv_I h 87 12))) h) else (if x1 = 136 then (Q (some (.int (mv_I h 87 12))) h) else (if x1 = 137 then (Q (some (.int (mv_I h 87 12))) h) else (if x1 = 138 then (Q (some (.int (mv_I h 87 12))) h) else (if x1 = 139 then (Q (some (.int (mv_I h 88 1))) h) else (if x1 = 140 then (Q (some (.int (mv_I h 87 12))) h) else (if x1 = 141 then (Q (some (.int (mv_I h 87 12))) h) else (if x1 = 142 then (Q (some (.int (mv_I h 87 12))) h) else (if x1 = 143 then (Q (some (.int (mv_I h 87 12))) h) else (if x1 = 144 then (Q (some (.int (mv_I h 87 12))) h) else (if x1 = 145 then (Q (some (.int (mv_I h 87 6))) h) else (if x1 = 146 then (Q (some (.int (mv_I h 87 7))) h) else (if x1 = 147 then (Q (some (.int (mv_I h 87 8))) h) else (if x1 = 148 then (Q (some (.int (mv_I h 87 9))) h) else (Q (some (.int (mv_I h 87 12))) h)))))))))))))))))) 60 (by decide) (fun _ q => q) H
theorem cp56 {E : mv_E} {D k n : Nat} (x1 : Int32) {h : mv_H} {Q : mv_Q} (H : Q (some (.int (pf56 h x1))) h) : mv_VE E D k n 56 0 [some (.ref 87), some (.int x1)] [] h Q := sg56_0 x1 ((mv_ite (f := fun z => Q (some (.int (z))) h) (fun q => q) (mv_ite (f := fun z => Q (some (.int (z))) h) (fun q => q) (mv_ite (f := fun z => Q (some (.int (z))) h) (fun q => q) (mv_ite (f := fun z => Q (some (.int (z))) h) (fun q => q) (mv_ite (f := fun z => Q (some (.int (z))) h) (fun q => q) (mv_ite (f := fun z => Q (some (.int (z))) h) (fun q => q) (mv_ite (f := fun z => Q (some (.int (z))) h) (fun q => q) (mv_ite (f := fun z => Q (some (.int (z))) h) (fun q => q) (mv_ite (f := fun z => Q (some (.int (z))) h) (fun q => q) (mv_ite (f := fun z => Q (some (.int (z))) h) (fun q => q) (mv_ite (f := fun z => Q (some (.int (z))) h) (fun q => q) (mv_ite (f := fun z => Q (some (.int (z))) h) (fun q => q) (mv_ite (f := fun z => Q (some (.int (z))) h) (fun q => q) (mv_ite (f := fun z => Q (some (.int (z))) h) (fun q => q) (mv_ite (f := fun z => Q (some (.int (z))) h) (fun q => q) (mv_ite (f := fun z => Q (some (.int (z))) h) (fun q => q) (mv_ite (f := fun z => Q (some (.int (z))) h) (fun q => q) (fun q => q)))))))))))))))))) H)
def mv_pe56 (av : List Value) (h : mv_H) : Option (Nat × (Bool ⊕ Int32)) := match av with
  | [.ref a, .int x1] => cond (Nat.beq a 87) (some (0, .inr (pf56 h x1))) none
  | _ => none
theorem mv_peo56 {E : mv_E} {D d : Nat} {av : List Value} {h : mv_H} {r : Bool ⊕ Int32} (hd : d ≤ D) (hp : mv_pe56 av h = some (d, r)) : mv_V E (mv_S (mv_sl E)) D 0 0 56 0 (mv_ent (mv_ml 56) av) [] h (fun v h' => h' = h ∧ v = some (.int (match (generalizing := false) r with | .inl b => cond b 1 0 | .inr x => x))) := by
  unfold mv_pe56 at hp
  split at hp
  · rcases mv_cE hp with ⟨hb, hp⟩ | ⟨hb, hp⟩
    · cases hp
      obtain rfl := mv_bq hb
      obtain ⟨D, rfl⟩ : ∃ q, D = q + 0 := ⟨D - 0, by omega⟩
      exact cp56 (D := D) _ ⟨rfl, rfl⟩
    · cases hp
  · cases hp
-- RaftHold$Tokens.isBlank
def pf71 (x0 : Int32) : Bool := if x0 = 10 then true else if x0 = 32 then true else false
set_option maxHeartbeats 20000000 in
set_option maxRecDepth 100000 in
theorem sg71_0 {E : mv_E} {D k n : Nat} (x0 : Int32) {h : mv_H} {Q : mv_Q} (H : if x0 = 10 then (Q (some (.int 1)) h) else (if x0 = 32 then (Q (some (.int 1)) h) else (Q (some (.int 0)) h))) : mv_VE E D k n 71 0 [some (.int x0)] [] h Q := mv_s0 (fun O => if x0 = 10 then (Q (some (.int 1)) h) else (if x0 = 32 then (Q (some (.int 1)) h) else (Q (some (.int 0)) h))) 60 (by decide) (fun _ q => q) H
theorem cp71 {E : mv_E} {D k n : Nat} (x0 : Int32) {h : mv_H} {Q : mv_Q} (H : Q (some (.int (cond (pf71 x0) 1 0))) h) : mv_VE E D k n 71 0 [some (.int x0)] [] h Q := sg71_0 x0 ((mv_ite (f := fun z => Q (some (.int (cond z 1 0))) h) (fun q => q) (mv_ite (f := fun z => Q (some (.int (cond z 1 0))) h) (fun q => q) (fun q => q))) H)
def mv_pe71 (av : List Value) (h : mv_H) : Option (Nat × (Bool ⊕ Int32)) := match av with
  | [.int x0] => some (0, .inl (pf71 x0))
  | _ => none
theorem mv_peo71 {E : mv_E} {D d : Nat} {av : List Value} {h : mv_H} {r : Bool ⊕ Int32} (hd : d ≤ D) (hp : mv_pe71 av h = some (d, r)) : mv_V E (mv_S (mv_sl E)) D 0 0 71 0 (mv_ent (mv_ml 71) av) [] h (fun v h' => h' = h ∧ v = some (.int (match (generalizing := false) r with | .inl b => cond b 1 0 | .inr x => x))) := by
  unfold mv_pe71 at hp
  split at hp
  · cases hp
    obtain ⟨D, rfl⟩ : ∃ q, D = q + 0 := ⟨D - 0, by omega⟩
    exact cp71 (D := D) _ ⟨rfl, rfl⟩
  · cases hp
-- RaftHold$Tokens.isLetter
def pf73 (x0 : Int32) : Bool := if x0 < 97 then false else if 122 < x0 then false else true
set_option maxHeartbeats 20000000 in
set_option maxRecDepth 100000 in
theorem sg73_0 {E : mv_E} {D k n : Nat} (x0 : Int32) {h : mv_H} {Q : mv_Q} (H : if x0 < 97 then (Q (some (.int 0)) h) else (if 122 < x0 then (Q (some (.int 0)) h) else (Q (some (.int 1)) h))) : mv_VE E D k n 73 0 [some (.int x0)] [] h Q := mv_s0 (fun O => if x0 < 97 then (Q (some (.int 0)) h) else (if 122 < x0 then (Q (some (.int 0)) h) else (Q (some (.int 1)) h))) 60 (by decide) (fun _ q => q) H
theorem cp73 {E : mv_E} {D k n : Nat} (x0 : Int32) {h : mv_H} {Q : mv_Q} (H : Q (some (.int (cond (pf73 x0) 1 0))) h) : mv_VE E D k n 73 0 [some (.int x0)] [] h Q := sg73_0 x0 ((mv_ite (f := fun z => Q (some (.int (cond z 1 0))) h) (fun q => q) (mv_ite (f := fun z => Q (some (.int (cond z 1 0))) h) (fun q => q) (fun q => q))) H)
def mv_pe73 (av : List Value) (h : mv_H) : Option (Nat × (Bool ⊕ Int32)) := match av with
  | [.int x0] => some (0, .inl (pf73 x0))
  | _ => none
theorem mv_peo73 {E : mv_E} {D d : Nat} {av : List Value} {h : mv_H} {r : Bool ⊕ Int32} (hd : d ≤ D) (hp : mv_pe73 av h = some (d, r)) : mv_V E (mv_S (mv_sl E)) D 0 0 73 0 (mv_ent (mv_ml 73) av) [] h (fun v h' => h' = h ∧ v = some (.int (match (generalizing := false) r with | .inl b => cond b 1 0 | .inr x => x))) := by
  unfold mv_pe73 at hp
  split at hp
  · cases hp
    obtain ⟨D, rfl⟩ : ∃ q, D = q + 0 := ⟨D - 0, by omega⟩
    exact cp73 (D := D) _ ⟨rfl, rfl⟩
  · cases hp
-- RaftHold$Tokens.isDigit
def pf79 (x0 : Int32) : Bool := if x0 < 48 then false else if 57 < x0 then false else true
set_option maxHeartbeats 20000000 in
set_option maxRecDepth 100000 in
theorem sg79_0 {E : mv_E} {D k n : Nat} (x0 : Int32) {h : mv_H} {Q : mv_Q} (H : if x0 < 48 then (Q (some (.int 0)) h) else (if 57 < x0 then (Q (some (.int 0)) h) else (Q (some (.int 1)) h))) : mv_VE E D k n 79 0 [some (.int x0)] [] h Q := mv_s0 (fun O => if x0 < 48 then (Q (some (.int 0)) h) else (if 57 < x0 then (Q (some (.int 0)) h) else (Q (some (.int 1)) h))) 60 (by decide) (fun _ q => q) H
theorem cp79 {E : mv_E} {D k n : Nat} (x0 : Int32) {h : mv_H} {Q : mv_Q} (H : Q (some (.int (cond (pf79 x0) 1 0))) h) : mv_VE E D k n 79 0 [some (.int x0)] [] h Q := sg79_0 x0 ((mv_ite (f := fun z => Q (some (.int (cond z 1 0))) h) (fun q => q) (mv_ite (f := fun z => Q (some (.int (cond z 1 0))) h) (fun q => q) (fun q => q))) H)
def mv_pe79 (av : List Value) (h : mv_H) : Option (Nat × (Bool ⊕ Int32)) := match av with
  | [.int x0] => some (0, .inl (pf79 x0))
  | _ => none
theorem mv_peo79 {E : mv_E} {D d : Nat} {av : List Value} {h : mv_H} {r : Bool ⊕ Int32} (hd : d ≤ D) (hp : mv_pe79 av h = some (d, r)) : mv_V E (mv_S (mv_sl E)) D 0 0 79 0 (mv_ent (mv_ml 79) av) [] h (fun v h' => h' = h ∧ v = some (.int (match (generalizing := false) r with | .inl b => cond b 1 0 | .inr x => x))) := by
  unfold mv_pe79 at hp
  split at hp
  · cases hp
    obtain ⟨D, rfl⟩ : ∃ q, D = q + 0 := ⟨D - 0, by omega⟩
    exact cp79 (D := D) _ ⟨rfl, rfl⟩
  · cases hp
-- RaftHold.fault
def pf102 (h : mv_H) (x1 : Int32) : Int32 := if x1 = 0 then mv_I h 52 4 else if x1 = 1 then mv_I h 52 5 else (-1)
set_option maxHeartbeats 20000000 in
set_option maxRecDepth 100000 in
theorem sg102_0 {E : mv_E} {D k n : Nat} (x1 : Int32) {h : mv_H} {Q : mv_Q} (H : if x1 = 0 then (Q (some (.int (mv_I h 52 4))) h) else (if x1 = 1 then (Q (some (.int (mv_I h 52 5))) h) else (Q (some (.int (-1))) h))) : mv_VE E D k n 102 0 [some (.ref 50), some (.int x1)] [] h Q := mv_s0 (fun O => if x1 = 0 then (Q (some (.int (mv_I h 52 4))) h) else (if x1 = 1 then (Q (some (.int (mv_I h 52 5))) h) else (Q (some (.int (-1))) h))) 60 (by decide) (fun _ q => q) H
theorem cp102 {E : mv_E} {D k n : Nat} (x1 : Int32) {h : mv_H} {Q : mv_Q} (H : Q (some (.int (pf102 h x1))) h) : mv_VE E D k n 102 0 [some (.ref 50), some (.int x1)] [] h Q := sg102_0 x1 ((mv_ite (f := fun z => Q (some (.int (z))) h) (fun q => q) (mv_ite (f := fun z => Q (some (.int (z))) h) (fun q => q) (fun q => q))) H)
def mv_pe102 (av : List Value) (h : mv_H) : Option (Nat × (Bool ⊕ Int32)) := match av with
  | [.ref a, .int x1] => cond (Nat.beq a 50) (some (0, .inr (pf102 h x1))) none
  | _ => none
theorem mv_peo102 {E : mv_E} {D d : Nat} {av : List Value} {h : mv_H} {r : Bool ⊕ Int32} (hd : d ≤ D) (hp : mv_pe102 av h = some (d, r)) : mv_V E (mv_S (mv_sl E)) D 0 0 102 0 (mv_ent (mv_ml 102) av) [] h (fun v h' => h' = h ∧ v = some (.int (match (generalizing := false) r with | .inl b => cond b 1 0 | .inr x => x))) := by
  unfold mv_pe102 at hp
  split at hp
  · rcases mv_cE hp with ⟨hb, hp⟩ | ⟨hb, hp⟩
    · cases hp
      obtain rfl := mv_bq hb
      obtain ⟨D, rfl⟩ : ∃ q, D = q + 0 := ⟨D - 0, by omega⟩
      exact cp102 (D := D) _ ⟨rfl, rfl⟩
    · cases hp
  · cases hp
-- RaftHold.isTray
def pf119 (x0 : Int32) : Bool := if x0 < 0 then false else if x0 < 4 then true else false
set_option maxHeartbeats 20000000 in
set_option maxRecDepth 100000 in
theorem sg119_0 {E : mv_E} {D k n : Nat} (x0 : Int32) {h : mv_H} {Q : mv_Q} (H : if x0 < 0 then (Q (some (.int 0)) h) else (if x0 < 4 then (Q (some (.int 1)) h) else (Q (some (.int 0)) h))) : mv_VE E D k n 119 0 [some (.int x0)] [] h Q := mv_s0 (fun O => if x0 < 0 then (Q (some (.int 0)) h) else (if x0 < 4 then (Q (some (.int 1)) h) else (Q (some (.int 0)) h))) 60 (by decide) (fun _ q => q) H
theorem cp119 {E : mv_E} {D k n : Nat} (x0 : Int32) {h : mv_H} {Q : mv_Q} (H : Q (some (.int (cond (pf119 x0) 1 0))) h) : mv_VE E D k n 119 0 [some (.int x0)] [] h Q := sg119_0 x0 ((mv_ite (f := fun z => Q (some (.int (cond z 1 0))) h) (fun q => q) (mv_ite (f := fun z => Q (some (.int (cond z 1 0))) h) (fun q => q) (fun q => q))) H)
def mv_pe119 (av : List Value) (h : mv_H) : Option (Nat × (Bool ⊕ Int32)) := match av with
  | [.int x0] => some (0, .inl (pf119 x0))
  | _ => none
theorem mv_peo119 {E : mv_E} {D d : Nat} {av : List Value} {h : mv_H} {r : Bool ⊕ Int32} (hd : d ≤ D) (hp : mv_pe119 av h = some (d, r)) : mv_V E (mv_S (mv_sl E)) D 0 0 119 0 (mv_ent (mv_ml 119) av) [] h (fun v h' => h' = h ∧ v = some (.int (match (generalizing := false) r with | .inl b => cond b 1 0 | .inr x => x))) := by
  unfold mv_pe119 at hp
  split at hp
  · cases hp
    obtain ⟨D, rfl⟩ : ∃ q, D = q + 0 := ⟨D - 0, by omega⟩
    exact cp119 (D := D) _ ⟨rfl, rfl⟩
  · cases hp
-- RaftHold.isOneOfTwo
def pf128 (x0 : Int32) : Bool := if x0 = 0 then true else if x0 = 1 then true else false
set_option maxHeartbeats 20000000 in
set_option maxRecDepth 100000 in
theorem sg128_0 {E : mv_E} {D k n : Nat} (x0 : Int32) {h : mv_H} {Q : mv_Q} (H : if x0 = 0 then (Q (some (.int 1)) h) else (if x0 = 1 then (Q (some (.int 1)) h) else (Q (some (.int 0)) h))) : mv_VE E D k n 128 0 [some (.int x0)] [] h Q := mv_s0 (fun O => if x0 = 0 then (Q (some (.int 1)) h) else (if x0 = 1 then (Q (some (.int 1)) h) else (Q (some (.int 0)) h))) 60 (by decide) (fun _ q => q) H
theorem cp128 {E : mv_E} {D k n : Nat} (x0 : Int32) {h : mv_H} {Q : mv_Q} (H : Q (some (.int (cond (pf128 x0) 1 0))) h) : mv_VE E D k n 128 0 [some (.int x0)] [] h Q := sg128_0 x0 ((mv_ite (f := fun z => Q (some (.int (cond z 1 0))) h) (fun q => q) (mv_ite (f := fun z => Q (some (.int (cond z 1 0))) h) (fun q => q) (fun q => q))) H)
def mv_pe128 (av : List Value) (h : mv_H) : Option (Nat × (Bool ⊕ Int32)) := match av with
  | [.int x0] => some (0, .inl (pf128 x0))
  | _ => none
theorem mv_peo128 {E : mv_E} {D d : Nat} {av : List Value} {h : mv_H} {r : Bool ⊕ Int32} (hd : d ≤ D) (hp : mv_pe128 av h = some (d, r)) : mv_V E (mv_S (mv_sl E)) D 0 0 128 0 (mv_ent (mv_ml 128) av) [] h (fun v h' => h' = h ∧ v = some (.int (match (generalizing := false) r with | .inl b => cond b 1 0 | .inr x => x))) := by
  unfold mv_pe128 at hp
  split at hp
  · cases hp
    obtain ⟨D, rfl⟩ : ∃ q, D = q + 0 := ⟨D - 0, by omega⟩
    exact cp128 (D := D) _ ⟨rfl, rfl⟩
  · cases hp
-- RaftHold.isIsland
def pf148 (x0 : Int32) : Bool := if x0 < 0 then false else if x0 < 3 then true else false
set_option maxHeartbeats 20000000 in
set_option maxRecDepth 100000 in
theorem sg148_0 {E : mv_E} {D k n : Nat} (x0 : Int32) {h : mv_H} {Q : mv_Q} (H : if x0 < 0 then (Q (some (.int 0)) h) else (if x0 < 3 then (Q (some (.int 1)) h) else (Q (some (.int 0)) h))) : mv_VE E D k n 148 0 [some (.int x0)] [] h Q := mv_s0 (fun O => if x0 < 0 then (Q (some (.int 0)) h) else (if x0 < 3 then (Q (some (.int 1)) h) else (Q (some (.int 0)) h))) 60 (by decide) (fun _ q => q) H
theorem cp148 {E : mv_E} {D k n : Nat} (x0 : Int32) {h : mv_H} {Q : mv_Q} (H : Q (some (.int (cond (pf148 x0) 1 0))) h) : mv_VE E D k n 148 0 [some (.int x0)] [] h Q := sg148_0 x0 ((mv_ite (f := fun z => Q (some (.int (cond z 1 0))) h) (fun q => q) (mv_ite (f := fun z => Q (some (.int (cond z 1 0))) h) (fun q => q) (fun q => q))) H)
def mv_pe148 (av : List Value) (h : mv_H) : Option (Nat × (Bool ⊕ Int32)) := match av with
  | [.int x0] => some (0, .inl (pf148 x0))
  | _ => none
theorem mv_peo148 {E : mv_E} {D d : Nat} {av : List Value} {h : mv_H} {r : Bool ⊕ Int32} (hd : d ≤ D) (hp : mv_pe148 av h = some (d, r)) : mv_V E (mv_S (mv_sl E)) D 0 0 148 0 (mv_ent (mv_ml 148) av) [] h (fun v h' => h' = h ∧ v = some (.int (match (generalizing := false) r with | .inl b => cond b 1 0 | .inr x => x))) := by
  unfold mv_pe148 at hp
  split at hp
  · cases hp
    obtain ⟨D, rfl⟩ : ∃ q, D = q + 0 := ⟨D - 0, by omega⟩
    exact cp148 (D := D) _ ⟨rfl, rfl⟩
  · cases hp
-- RaftHoldModel.within
def pf182 (x0 : Int64) (x2 : Int64) (x4 : Int64) : Bool := if lg_cmp x0 x2 < 0 then false else if 0 < lg_cmp x0 x4 then false else true
set_option maxHeartbeats 20000000 in
set_option maxRecDepth 100000 in
theorem sg182_0 {E : mv_E} {D k n : Nat} (x0 : Int64) (x2 : Int64) (x4 : Int64) {h : mv_H} {Q : mv_Q} (H : if lg_cmp x0 x2 < 0 then (Q (some (.int 0)) h) else (if 0 < lg_cmp x0 x4 then (Q (some (.int 0)) h) else (Q (some (.int 1)) h))) : mv_VE E D k n 182 0 [some (.long x0), none, some (.long x2), none, some (.long x4), none] [] h Q := mv_s0 (fun O => if O.2.2.2.2 x0 x2 < 0 then (Q (some (.int 0)) h) else (if 0 < O.2.2.2.2 x0 x4 then (Q (some (.int 0)) h) else (Q (some (.int 1)) h))) 60 (by decide) (fun _ q => q) H
theorem cp182 {E : mv_E} {D k n : Nat} (x0 : Int64) (x2 : Int64) (x4 : Int64) {h : mv_H} {Q : mv_Q} (H : Q (some (.int (cond (pf182 x0 x2 x4) 1 0))) h) : mv_VE E D k n 182 0 [some (.long x0), none, some (.long x2), none, some (.long x4), none] [] h Q := sg182_0 x0 x2 x4 ((mv_ite (f := fun z => Q (some (.int (cond z 1 0))) h) (fun q => q) (mv_ite (f := fun z => Q (some (.int (cond z 1 0))) h) (fun q => q) (fun q => q))) H)
def mv_pe182 (av : List Value) (h : mv_H) : Option (Nat × (Bool ⊕ Int32)) := match av with
  | [.long x0, .long x2, .long x4] => some (0, .inl (pf182 x0 x2 x4))
  | _ => none
theorem mv_peo182 {E : mv_E} {D d : Nat} {av : List Value} {h : mv_H} {r : Bool ⊕ Int32} (hd : d ≤ D) (hp : mv_pe182 av h = some (d, r)) : mv_V E (mv_S (mv_sl E)) D 0 0 182 0 (mv_ent (mv_ml 182) av) [] h (fun v h' => h' = h ∧ v = some (.int (match (generalizing := false) r with | .inl b => cond b 1 0 | .inr x => x))) := by
  unfold mv_pe182 at hp
  split at hp
  · cases hp
    obtain ⟨D, rfl⟩ : ∃ q, D = q + 0 := ⟨D - 0, by omega⟩
    exact cp182 (D := D) _ _ _ ⟨rfl, rfl⟩
  · cases hp
-- RaftHoldModel.isSmall
def pf185 (x0 : Int32) : Bool := if x0 < 97 then false else if 122 < x0 then false else true
set_option maxHeartbeats 20000000 in
set_option maxRecDepth 100000 in
theorem sg185_0 {E : mv_E} {D k n : Nat} (x0 : Int32) {h : mv_H} {Q : mv_Q} (H : if x0 < 97 then (Q (some (.int 0)) h) else (if 122 < x0 then (Q (some (.int 0)) h) else (Q (some (.int 1)) h))) : mv_VE E D k n 185 0 [some (.int x0)] [] h Q := mv_s0 (fun O => if x0 < 97 then (Q (some (.int 0)) h) else (if 122 < x0 then (Q (some (.int 0)) h) else (Q (some (.int 1)) h))) 60 (by decide) (fun _ q => q) H
theorem cp185 {E : mv_E} {D k n : Nat} (x0 : Int32) {h : mv_H} {Q : mv_Q} (H : Q (some (.int (cond (pf185 x0) 1 0))) h) : mv_VE E D k n 185 0 [some (.int x0)] [] h Q := sg185_0 x0 ((mv_ite (f := fun z => Q (some (.int (cond z 1 0))) h) (fun q => q) (mv_ite (f := fun z => Q (some (.int (cond z 1 0))) h) (fun q => q) (fun q => q))) H)
def mv_pe185 (av : List Value) (h : mv_H) : Option (Nat × (Bool ⊕ Int32)) := match av with
  | [.int x0] => some (0, .inl (pf185 x0))
  | _ => none
theorem mv_peo185 {E : mv_E} {D d : Nat} {av : List Value} {h : mv_H} {r : Bool ⊕ Int32} (hd : d ≤ D) (hp : mv_pe185 av h = some (d, r)) : mv_V E (mv_S (mv_sl E)) D 0 0 185 0 (mv_ent (mv_ml 185) av) [] h (fun v h' => h' = h ∧ v = some (.int (match (generalizing := false) r with | .inl b => cond b 1 0 | .inr x => x))) := by
  unfold mv_pe185 at hp
  split at hp
  · cases hp
    obtain ⟨D, rfl⟩ : ∃ q, D = q + 0 := ⟨D - 0, by omega⟩
    exact cp185 (D := D) _ ⟨rfl, rfl⟩
  · cases hp
-- RaftHoldModel.isDigit
def pf187 (x0 : Int32) : Bool := if x0 < 48 then false else if 57 < x0 then false else true
set_option maxHeartbeats 20000000 in
set_option maxRecDepth 100000 in
theorem sg187_0 {E : mv_E} {D k n : Nat} (x0 : Int32) {h : mv_H} {Q : mv_Q} (H : if x0 < 48 then (Q (some (.int 0)) h) else (if 57 < x0 then (Q (some (.int 0)) h) else (Q (some (.int 1)) h))) : mv_VE E D k n 187 0 [some (.int x0)] [] h Q := mv_s0 (fun O => if x0 < 48 then (Q (some (.int 0)) h) else (if 57 < x0 then (Q (some (.int 0)) h) else (Q (some (.int 1)) h))) 60 (by decide) (fun _ q => q) H
theorem cp187 {E : mv_E} {D k n : Nat} (x0 : Int32) {h : mv_H} {Q : mv_Q} (H : Q (some (.int (cond (pf187 x0) 1 0))) h) : mv_VE E D k n 187 0 [some (.int x0)] [] h Q := sg187_0 x0 ((mv_ite (f := fun z => Q (some (.int (cond z 1 0))) h) (fun q => q) (mv_ite (f := fun z => Q (some (.int (cond z 1 0))) h) (fun q => q) (fun q => q))) H)
def mv_pe187 (av : List Value) (h : mv_H) : Option (Nat × (Bool ⊕ Int32)) := match av with
  | [.int x0] => some (0, .inl (pf187 x0))
  | _ => none
theorem mv_peo187 {E : mv_E} {D d : Nat} {av : List Value} {h : mv_H} {r : Bool ⊕ Int32} (hd : d ≤ D) (hp : mv_pe187 av h = some (d, r)) : mv_V E (mv_S (mv_sl E)) D 0 0 187 0 (mv_ent (mv_ml 187) av) [] h (fun v h' => h' = h ∧ v = some (.int (match (generalizing := false) r with | .inl b => cond b 1 0 | .inr x => x))) := by
  unfold mv_pe187 at hp
  split at hp
  · cases hp
    obtain ⟨D, rfl⟩ : ∃ q, D = q + 0 := ⟨D - 0, by omega⟩
    exact cp187 (D := D) _ ⟨rfl, rfl⟩
  · cases hp
-- RaftHoldModel.is
def pf189 (h : mv_H) (x1 : Int32) : Bool := if mv_I h 148 11 = 0 then if mv_I h 148 9 = x1 then true else false else false
set_option maxHeartbeats 20000000 in
set_option maxRecDepth 100000 in
theorem sg189_0 {E : mv_E} {D k n : Nat} (x1 : Int32) {h : mv_H} {Q : mv_Q} (H : if mv_I h 148 11 = 0 then (if mv_I h 148 9 = x1 then (Q (some (.int 1)) h) else (Q (some (.int 0)) h)) else (Q (some (.int 0)) h)) : mv_VE E D k n 189 0 [some (.ref 148), some (.int x1)] [] h Q := mv_s0 (fun O => if mv_I h 148 11 = 0 then (if mv_I h 148 9 = x1 then (Q (some (.int 1)) h) else (Q (some (.int 0)) h)) else (Q (some (.int 0)) h)) 60 (by decide) (fun _ q => q) H
theorem cp189 {E : mv_E} {D k n : Nat} (x1 : Int32) {h : mv_H} {Q : mv_Q} (H : Q (some (.int (cond (pf189 h x1) 1 0))) h) : mv_VE E D k n 189 0 [some (.ref 148), some (.int x1)] [] h Q := sg189_0 x1 ((mv_ite (f := fun z => Q (some (.int (cond z 1 0))) h) (mv_ite (f := fun z => Q (some (.int (cond z 1 0))) h) (fun q => q) (fun q => q)) (fun q => q)) H)
def mv_pe189 (av : List Value) (h : mv_H) : Option (Nat × (Bool ⊕ Int32)) := match av with
  | [.ref a, .int x1] => cond (Nat.beq a 148) (some (0, .inl (pf189 h x1))) none
  | _ => none
theorem mv_peo189 {E : mv_E} {D d : Nat} {av : List Value} {h : mv_H} {r : Bool ⊕ Int32} (hd : d ≤ D) (hp : mv_pe189 av h = some (d, r)) : mv_V E (mv_S (mv_sl E)) D 0 0 189 0 (mv_ent (mv_ml 189) av) [] h (fun v h' => h' = h ∧ v = some (.int (match (generalizing := false) r with | .inl b => cond b 1 0 | .inr x => x))) := by
  unfold mv_pe189 at hp
  split at hp
  · rcases mv_cE hp with ⟨hb, hp⟩ | ⟨hb, hp⟩
    · cases hp
      obtain rfl := mv_bq hb
      obtain ⟨D, rfl⟩ : ∃ q, D = q + 0 := ⟨D - 0, by omega⟩
      exact cp189 (D := D) _ ⟨rfl, rfl⟩
    · cases hp
  · cases hp
-- RaftHoldModel.wordOf
def pf207 (h : mv_H) (x1 : Int32) : Int32 := if x1 = 3 then 2 else if x1 = 4 then 3 else if x1 = 5 then (-1) else if x1 = 6 then (-1) else if x1 = 7 then (-1) else if x1 = 8 then (-1) else if x1 = 9 then (-1) else if x1 = 10 then 1 else if x1 = 11 then (-1) else if x1 = 12 then (-1) else if x1 = 13 then 0 else if x1 = 14 then if mv_I h 148 15 = 0 then 4 else (-1) else if x1 = 15 then if mv_I h 148 15 = 0 then 5 else (-1) else if x1 = 16 then if mv_I h 148 15 = 0 then 6 else (-1) else if x1 = 17 then if mv_I h 148 15 = 1 then 7 else (-1) else (-1)
set_option maxHeartbeats 20000000 in
set_option maxRecDepth 100000 in
theorem sg207_0 {E : mv_E} {D k n : Nat} (x1 : Int32) {h : mv_H} {Q : mv_Q} (H : if x1 = 3 then (Q (some (.int 2)) h) else (if x1 = 4 then (Q (some (.int 3)) h) else (if x1 = 5 then (Q (some (.int (-1))) h) else (if x1 = 6 then (Q (some (.int (-1))) h) else (if x1 = 7 then (Q (some (.int (-1))) h) else (if x1 = 8 then (Q (some (.int (-1))) h) else (if x1 = 9 then (Q (some (.int (-1))) h) else (if x1 = 10 then (Q (some (.int 1)) h) else (if x1 = 11 then (Q (some (.int (-1))) h) else (if x1 = 12 then (Q (some (.int (-1))) h) else (if x1 = 13 then (Q (some (.int 0)) h) else (if x1 = 14 then (if mv_I h 148 15 = 0 then (Q (some (.int 4)) h) else (Q (some (.int (-1))) h)) else (if x1 = 15 then (if mv_I h 148 15 = 0 then (Q (some (.int 5)) h) else (Q (some (.int (-1))) h)) else (if x1 = 16 then (if mv_I h 148 15 = 0 then (Q (some (.int 6)) h) else (Q (some (.int (-1))) h)) else (if x1 = 17 then (if mv_I h 148 15 = 1 then (Q (some (.int 7)) h) else (Q (some (.int (-1))) h)) else (Q (some (.int (-1))) h)))))))))))))))) : mv_VE E D k n 207 0 [some (.ref 148), some (.int x1)] [] h Q := mv_s0 (fun O => if x1 = 3 then (Q (some (.int 2)) h) else (if x1 = 4 then (Q (some (.int 3)) h) else (if x1 = 5 then (Q (some (.int (-1))) h) else (if x1 = 6 then (Q (some (.int (-1))) h) else (if x1 = 7 then (Q (some (.int (-1))) h) else (if x1 = 8 then (Q (some (.int (-1))) h) else (if x1 = 9 then (Q (some (.int (-1))) h) else (if x1 = 10 then (Q (some (.int 1)) h) else (if x1 = 11 then (Q (some (.int (-1))) h) else (if x1 = 12 then (Q (some (.int (-1))) h) else (if x1 = 13 then (Q (some (.int 0)) h) else (if x1 = 14 then (if mv_I h 148 15 = 0 then (Q (some (.int 4)) h) else (Q (some (.int (-1))) h)) else (if x1 = 15 then (if mv_I h 148 15 = 0 then (Q (some (.int 5)) h) else (Q (some (.int (-1))) h)) else (if x1 = 16 then (if mv_I h 148 15 = 0 then (Q (some (.int 6)) h) else (Q (some (.int (-1))) h)) else (if x1 = 17 then (if mv_I h 148 15 = 1 then (Q (some (.int 7)) h) else (Q (some (.int (-1))) h)) else (Q (some (.int (-1))) h)))))))))))))))) 60 (by decide) (fun _ q => q) H
theorem cp207 {E : mv_E} {D k n : Nat} (x1 : Int32) {h : mv_H} {Q : mv_Q} (H : Q (some (.int (pf207 h x1))) h) : mv_VE E D k n 207 0 [some (.ref 148), some (.int x1)] [] h Q := sg207_0 x1 ((mv_ite (f := fun z => Q (some (.int (z))) h) (fun q => q) (mv_ite (f := fun z => Q (some (.int (z))) h) (fun q => q) (mv_ite (f := fun z => Q (some (.int (z))) h) (fun q => q) (mv_ite (f := fun z => Q (some (.int (z))) h) (fun q => q) (mv_ite (f := fun z => Q (some (.int (z))) h) (fun q => q) (mv_ite (f := fun z => Q (some (.int (z))) h) (fun q => q) (mv_ite (f := fun z => Q (some (.int (z))) h) (fun q => q) (mv_ite (f := fun z => Q (some (.int (z))) h) (fun q => q) (mv_ite (f := fun z => Q (some (.int (z))) h) (fun q => q) (mv_ite (f := fun z => Q (some (.int (z))) h) (fun q => q) (mv_ite (f := fun z => Q (some (.int (z))) h) (fun q => q) (mv_ite (f := fun z => Q (some (.int (z))) h) (mv_ite (f := fun z => Q (some (.int (z))) h) (fun q => q) (fun q => q)) (mv_ite (f := fun z => Q (some (.int (z))) h) (mv_ite (f := fun z => Q (some (.int (z))) h) (fun q => q) (fun q => q)) (mv_ite (f := fun z => Q (some (.int (z))) h) (mv_ite (f := fun z => Q (some (.int (z))) h) (fun q => q) (fun q => q)) (mv_ite (f := fun z => Q (some (.int (z))) h) (mv_ite (f := fun z => Q (some (.int (z))) h) (fun q => q) (fun q => q)) (fun q => q)))))))))))))))) H)
def mv_pe207 (av : List Value) (h : mv_H) : Option (Nat × (Bool ⊕ Int32)) := match av with
  | [.ref a, .int x1] => cond (Nat.beq a 148) (some (0, .inr (pf207 h x1))) none
  | _ => none
theorem mv_peo207 {E : mv_E} {D d : Nat} {av : List Value} {h : mv_H} {r : Bool ⊕ Int32} (hd : d ≤ D) (hp : mv_pe207 av h = some (d, r)) : mv_V E (mv_S (mv_sl E)) D 0 0 207 0 (mv_ent (mv_ml 207) av) [] h (fun v h' => h' = h ∧ v = some (.int (match (generalizing := false) r with | .inl b => cond b 1 0 | .inr x => x))) := by
  unfold mv_pe207 at hp
  split at hp
  · rcases mv_cE hp with ⟨hb, hp⟩ | ⟨hb, hp⟩
    · cases hp
      obtain rfl := mv_bq hb
      obtain ⟨D, rfl⟩ : ∃ q, D = q + 0 := ⟨D - 0, by omega⟩
      exact cp207 (D := D) _ ⟨rfl, rfl⟩
    · cases hp
  · cases hp
-- RaftHoldModel.isIn
def pf213 (x0 : Int64) (x2 : Int32) : Bool := if lg_cmp ((x0 >>> (x2.toInt64 &&& 63)) &&& 1) 1 = 0 then true else false
set_option maxHeartbeats 20000000 in
set_option maxRecDepth 100000 in
theorem sg213_0 {E : mv_E} {D k n : Nat} (x0 : Int64) (x2 : Int32) {h : mv_H} {Q : mv_Q} (H : if lg_cmp ((x0 >>> (x2.toInt64 &&& 63)) &&& 1) 1 = 0 then (Q (some (.int 1)) h) else (Q (some (.int 0)) h)) : mv_VE E D k n 213 0 [some (.long x0), none, some (.int x2)] [] h Q := mv_s0 (fun O => if O.2.2.2.2 (O.2.1 3 (O.2.1 8 x0 (O.2.2.1 x2)) 1) 1 = 0 then (Q (some (.int 1)) h) else (Q (some (.int 0)) h)) 60 (by decide) (fun _ q => q) H
theorem cp213 {E : mv_E} {D k n : Nat} (x0 : Int64) (x2 : Int32) {h : mv_H} {Q : mv_Q} (H : Q (some (.int (cond (pf213 x0 x2) 1 0))) h) : mv_VE E D k n 213 0 [some (.long x0), none, some (.int x2)] [] h Q := sg213_0 x0 x2 ((mv_ite (f := fun z => Q (some (.int (cond z 1 0))) h) (fun q => q) (fun q => q)) H)
def mv_pe213 (av : List Value) (h : mv_H) : Option (Nat × (Bool ⊕ Int32)) := match av with
  | [.long x0, .int x2] => some (0, .inl (pf213 x0 x2))
  | _ => none
theorem mv_peo213 {E : mv_E} {D d : Nat} {av : List Value} {h : mv_H} {r : Bool ⊕ Int32} (hd : d ≤ D) (hp : mv_pe213 av h = some (d, r)) : mv_V E (mv_S (mv_sl E)) D 0 0 213 0 (mv_ent (mv_ml 213) av) [] h (fun v h' => h' = h ∧ v = some (.int (match (generalizing := false) r with | .inl b => cond b 1 0 | .inr x => x))) := by
  unfold mv_pe213 at hp
  split at hp
  · cases hp
    obtain ⟨D, rfl⟩ : ∃ q, D = q + 0 := ⟨D - 0, by omega⟩
    exact cp213 (D := D) _ _ ⟨rfl, rfl⟩
  · cases hp
-- RaftHoldModel.between
def pf216 (x0 : Int32) (x1 : Int32) (x2 : Int32) : Int32 := if x0 = 3003 then if x1 = x2 then 1 else 0 else if x0 = 3004 then if x1 < x2 then 1 else 0 else if x0 = 3005 then if x2 < x1 then 1 else 0 else if x0 = 3006 then if x0 = 3000 then if 0 < lg_cmp (x1.toInt64 + x2.toInt64) 1000000 then (1000000 : Int64).toInt32 else if lg_cmp (x1.toInt64 + x2.toInt64) (-1000000) < 0 then ((-1000000) : Int64).toInt32 else (x1.toInt64 + x2.toInt64).toInt32 else if x0 = 3001 then if 0 < lg_cmp (x1.toInt64 - x2.toInt64) 1000000 then (1000000 : Int64).toInt32 else if lg_cmp (x1.toInt64 - x2.toInt64) (-1000000) < 0 then ((-1000000) : Int64).toInt32 else (x1.toInt64 - x2.toInt64).toInt32 else if 0 < lg_cmp (x1.toInt64 * x2.toInt64) 1000000 then (1000000 : Int64).toInt32 else if lg_cmp (x1.toInt64 * x2.toInt64) (-1000000) < 0 then ((-1000000) : Int64).toInt32 else (x1.toInt64 * x2.toInt64).toInt32 else if x0 = 3007 then x1 &&& x2 else if x0 = 3008 then x1 ||| x2 else if x0 = 3000 then if 0 < lg_cmp (x1.toInt64 + x2.toInt64) 1000000 then (1000000 : Int64).toInt32 else if lg_cmp (x1.toInt64 + x2.toInt64) (-1000000) < 0 then ((-1000000) : Int64).toInt32 else (x1.toInt64 + x2.toInt64).toInt32 else if x0 = 3001 then if 0 < lg_cmp (x1.toInt64 - x2.toInt64) 1000000 then (1000000 : Int64).toInt32 else if lg_cmp (x1.toInt64 - x2.toInt64) (-1000000) < 0 then ((-1000000) : Int64).toInt32 else (x1.toInt64 - x2.toInt64).toInt32 else if 0 < lg_cmp (x1.toInt64 * x2.toInt64) 1000000 then (1000000 : Int64).toInt32 else if lg_cmp (x1.toInt64 * x2.toInt64) (-1000000) < 0 then ((-1000000) : Int64).toInt32 else (x1.toInt64 * x2.toInt64).toInt32
set_option maxHeartbeats 20000000 in
set_option maxRecDepth 100000 in
theorem sg216_0 {E : mv_E} {D k n : Nat} (x0 : Int32) (x1 : Int32) (x2 : Int32) {h : mv_H} {Q : mv_Q} (H : if x0 = 3003 then (if x1 = x2 then (Q (some (.int 1)) h) else (Q (some (.int 0)) h)) else (if x0 = 3004 then (if x1 < x2 then (Q (some (.int 1)) h) else (Q (some (.int 0)) h)) else (if x0 = 3005 then (if x2 < x1 then (Q (some (.int 1)) h) else (Q (some (.int 0)) h)) else (if x0 = 3006 then (if x0 = 3000 then (if 0 < lg_cmp (x1.toInt64 + x2.toInt64) 1000000 then (Q (some (.int ((1000000 : Int64).toInt32))) h) else (if lg_cmp (x1.toInt64 + x2.toInt64) (-1000000) < 0 then (Q (some (.int (((-1000000) : Int64).toInt32))) h) else (Q (some (.int ((x1.toInt64 + x2.toInt64).toInt32))) h))) else (if x0 = 3001 then (if 0 < lg_cmp (x1.toInt64 - x2.toInt64) 1000000 then (Q (some (.int ((1000000 : Int64).toInt32))) h) else (if lg_cmp (x1.toInt64 - x2.toInt64) (-1000000) < 0 then (Q (some (.int (((-1000000) : Int64).toInt32))) h) else (Q (some (.int ((x1.toInt64 - x2.toInt64).toInt32))) h))) else (if 0 < lg_cmp (x1.toInt64 * x2.toInt64) 1000000 then (Q (some (.int ((1000000 : Int64).toInt32))) h) else (if lg_cmp (x1.toInt64 * x2.toInt64) (-1000000) < 0 then (Q (some (.int (((-1000000) : Int64).toInt32))) h) else (Q (some (.int ((x1.toInt64 * x2.toInt64).toInt32))) h))))) else (if x0 = 3007 then (Q (some (.int (x1 &&& x2))) h) else (if x0 = 3008 then (Q (some (.int (x1 ||| x2))) h) else (if x0 = 3000 then (if 0 < lg_cmp (x1.toInt64 + x2.toInt64) 1000000 then (Q (some (.int ((1000000 : Int64).toInt32))) h) else (if lg_cmp (x1.toInt64 + x2.toInt64) (-1000000) < 0 then (Q (some (.int (((-1000000) : Int64).toInt32))) h) else (Q (some (.int ((x1.toInt64 + x2.toInt64).toInt32))) h))) else (if x0 = 3001 then (if 0 < lg_cmp (x1.toInt64 - x2.toInt64) 1000000 then (Q (some (.int ((1000000 : Int64).toInt32))) h) else (if lg_cmp (x1.toInt64 - x2.toInt64) (-1000000) < 0 then (Q (some (.int (((-1000000) : Int64).toInt32))) h) else (Q (some (.int ((x1.toInt64 - x2.toInt64).toInt32))) h))) else (if 0 < lg_cmp (x1.toInt64 * x2.toInt64) 1000000 then (Q (some (.int ((1000000 : Int64).toInt32))) h) else (if lg_cmp (x1.toInt64 * x2.toInt64) (-1000000) < 0 then (Q (some (.int (((-1000000) : Int64).toInt32))) h) else (Q (some (.int ((x1.toInt64 * x2.toInt64).toInt32))) h))))))))))) : mv_VE E D k n 216 0 [some (.int x0), some (.int x1), some (.int x2), none, none] [] h Q := mv_s0 (fun O => if x0 = 3003 then (if x1 = x2 then (Q (some (.int 1)) h) else (Q (some (.int 0)) h)) else (if x0 = 3004 then (if x1 < x2 then (Q (some (.int 1)) h) else (Q (some (.int 0)) h)) else (if x0 = 3005 then (if x2 < x1 then (Q (some (.int 1)) h) else (Q (some (.int 0)) h)) else (if x0 = 3006 then (if x0 = 3000 then (if 0 < O.2.2.2.2 (O.2.1 0 (O.2.2.1 x1) (O.2.2.1 x2)) 1000000 then (Q (some (.int (O.2.2.2.1 1000000))) h) else (if O.2.2.2.2 (O.2.1 0 (O.2.2.1 x1) (O.2.2.1 x2)) (-1000000) < 0 then (Q (some (.int (O.2.2.2.1 (-1000000)))) h) else (Q (some (.int (O.2.2.2.1 (O.2.1 0 (O.2.2.1 x1) (O.2.2.1 x2))))) h))) else (if x0 = 3001 then (if 0 < O.2.2.2.2 (O.2.1 1 (O.2.2.1 x1) (O.2.2.1 x2)) 1000000 then (Q (some (.int (O.2.2.2.1 1000000))) h) else (if O.2.2.2.2 (O.2.1 1 (O.2.2.1 x1) (O.2.2.1 x2)) (-1000000) < 0 then (Q (some (.int (O.2.2.2.1 (-1000000)))) h) else (Q (some (.int (O.2.2.2.1 (O.2.1 1 (O.2.2.1 x1) (O.2.2.1 x2))))) h))) else (if 0 < O.2.2.2.2 (O.2.1 2 (O.2.2.1 x1) (O.2.2.1 x2)) 1000000 then (Q (some (.int (O.2.2.2.1 1000000))) h) else (if O.2.2.2.2 (O.2.1 2 (O.2.2.1 x1) (O.2.2.1 x2)) (-1000000) < 0 then (Q (some (.int (O.2.2.2.1 (-1000000)))) h) else (Q (some (.int (O.2.2.2.1 (O.2.1 2 (O.2.2.1 x1) (O.2.2.1 x2))))) h))))) else (if x0 = 3007 then (Q (some (.int (O.1 3 x1 x2))) h) else (if x0 = 3008 then (Q (some (.int (O.1 4 x1 x2))) h) else (if x0 = 3000 then (if 0 < O.2.2.2.2 (O.2.1 0 (O.2.2.1 x1) (O.2.2.1 x2)) 1000000 then (Q (some (.int (O.2.2.2.1 1000000))) h) else (if O.2.2.2.2 (O.2.1 0 (O.2.2.1 x1) (O.2.2.1 x2)) (-1000000) < 0 then (Q (some (.int (O.2.2.2.1 (-1000000)))) h) else (Q (some (.int (O.2.2.2.1 (O.2.1 0 (O.2.2.1 x1) (O.2.2.1 x2))))) h))) else (if x0 = 3001 then (if 0 < O.2.2.2.2 (O.2.1 1 (O.2.2.1 x1) (O.2.2.1 x2)) 1000000 then (Q (some (.int (O.2.2.2.1 1000000))) h) else (if O.2.2.2.2 (O.2.1 1 (O.2.2.1 x1) (O.2.2.1 x2)) (-1000000) < 0 then (Q (some (.int (O.2.2.2.1 (-1000000)))) h) else (Q (some (.int (O.2.2.2.1 (O.2.1 1 (O.2.2.1 x1) (O.2.2.1 x2))))) h))) else (if 0 < O.2.2.2.2 (O.2.1 2 (O.2.2.1 x1) (O.2.2.1 x2)) 1000000 then (Q (some (.int (O.2.2.2.1 1000000))) h) else (if O.2.2.2.2 (O.2.1 2 (O.2.2.1 x1) (O.2.2.1 x2)) (-1000000) < 0 then (Q (some (.int (O.2.2.2.1 (-1000000)))) h) else (Q (some (.int (O.2.2.2.1 (O.2.1 2 (O.2.2.1 x1) (O.2.2.1 x2))))) h))))))))))) 220 (by decide) (fun _ q => q) H
theorem cp216 {E : mv_E} {D k n : Nat} (x0 : Int32) (x1 : Int32) (x2 : Int32) {h : mv_H} {Q : mv_Q} (H : Q (some (.int (pf216 x0 x1 x2))) h) : mv_VE E D k n 216 0 [some (.int x0), some (.int x1), some (.int x2), none, none] [] h Q := sg216_0 x0 x1 x2 ((mv_ite (f := fun z => Q (some (.int (z))) h) (mv_ite (f := fun z => Q (some (.int (z))) h) (fun q => q) (fun q => q)) (mv_ite (f := fun z => Q (some (.int (z))) h) (mv_ite (f := fun z => Q (some (.int (z))) h) (fun q => q) (fun q => q)) (mv_ite (f := fun z => Q (some (.int (z))) h) (mv_ite (f := fun z => Q (some (.int (z))) h) (fun q => q) (fun q => q)) (mv_ite (f := fun z => Q (some (.int (z))) h) (mv_ite (f := fun z => Q (some (.int (z))) h) (mv_ite (f := fun z => Q (some (.int (z))) h) (fun q => q) (mv_ite (f := fun z => Q (some (.int (z))) h) (fun q => q) (fun q => q))) (mv_ite (f := fun z => Q (some (.int (z))) h) (mv_ite (f := fun z => Q (some (.int (z))) h) (fun q => q) (mv_ite (f := fun z => Q (some (.int (z))) h) (fun q => q) (fun q => q))) (mv_ite (f := fun z => Q (some (.int (z))) h) (fun q => q) (mv_ite (f := fun z => Q (some (.int (z))) h) (fun q => q) (fun q => q))))) (mv_ite (f := fun z => Q (some (.int (z))) h) (fun q => q) (mv_ite (f := fun z => Q (some (.int (z))) h) (fun q => q) (mv_ite (f := fun z => Q (some (.int (z))) h) (mv_ite (f := fun z => Q (some (.int (z))) h) (fun q => q) (mv_ite (f := fun z => Q (some (.int (z))) h) (fun q => q) (fun q => q))) (mv_ite (f := fun z => Q (some (.int (z))) h) (mv_ite (f := fun z => Q (some (.int (z))) h) (fun q => q) (mv_ite (f := fun z => Q (some (.int (z))) h) (fun q => q) (fun q => q))) (mv_ite (f := fun z => Q (some (.int (z))) h) (fun q => q) (mv_ite (f := fun z => Q (some (.int (z))) h) (fun q => q) (fun q => q))))))))))) H)
def mv_pe216 (av : List Value) (h : mv_H) : Option (Nat × (Bool ⊕ Int32)) := match av with
  | [.int x0, .int x1, .int x2] => some (0, .inr (pf216 x0 x1 x2))
  | _ => none
theorem mv_peo216 {E : mv_E} {D d : Nat} {av : List Value} {h : mv_H} {r : Bool ⊕ Int32} (hd : d ≤ D) (hp : mv_pe216 av h = some (d, r)) : mv_V E (mv_S (mv_sl E)) D 0 0 216 0 (mv_ent (mv_ml 216) av) [] h (fun v h' => h' = h ∧ v = some (.int (match (generalizing := false) r with | .inl b => cond b 1 0 | .inr x => x))) := by
  unfold mv_pe216 at hp
  split at hp
  · cases hp
    obtain ⟨D, rfl⟩ : ∃ q, D = q + 0 := ⟨D - 0, by omega⟩
    exact cp216 (D := D) _ _ _ ⟨rfl, rfl⟩
  · cases hp
-- RaftHoldModel.everybody
def pf219 (h : mv_H)  : Int32 := (1 <<< ((mv_I h 149 1) &&& 31)) - 1
set_option maxHeartbeats 20000000 in
set_option maxRecDepth 100000 in
theorem sg219_0 {E : mv_E} {D k n : Nat}  {h : mv_H} {Q : mv_Q} (H : Q (some (.int ((1 <<< ((mv_I h 149 1) &&& 31)) - 1))) h) : mv_VE E D k n 219 0 [some (.ref 148)] [] h Q := mv_s0 (fun O => Q (some (.int (O.1 1 (O.1 6 1 (mv_I h 149 1)) 1))) h) 60 (by decide) (fun _ q => q) H
theorem cp219 {E : mv_E} {D k n : Nat}  {h : mv_H} {Q : mv_Q} (H : Q (some (.int (pf219 h))) h) : mv_VE E D k n 219 0 [some (.ref 148)] [] h Q := sg219_0 ((fun q => q) H)
def mv_pe219 (av : List Value) (h : mv_H) : Option (Nat × (Bool ⊕ Int32)) := match av with
  | [.ref a] => cond (Nat.beq a 148) (some (0, .inr (pf219 h))) none
  | _ => none
theorem mv_peo219 {E : mv_E} {D d : Nat} {av : List Value} {h : mv_H} {r : Bool ⊕ Int32} (hd : d ≤ D) (hp : mv_pe219 av h = some (d, r)) : mv_V E (mv_S (mv_sl E)) D 0 0 219 0 (mv_ent (mv_ml 219) av) [] h (fun v h' => h' = h ∧ v = some (.int (match (generalizing := false) r with | .inl b => cond b 1 0 | .inr x => x))) := by
  unfold mv_pe219 at hp
  split at hp
  · rcases mv_cE hp with ⟨hb, hp⟩ | ⟨hb, hp⟩
    · cases hp
      obtain rfl := mv_bq hb
      obtain ⟨D, rfl⟩ : ∃ q, D = q + 0 := ⟨D - 0, by omega⟩
      exact cp219 (D := D) ⟨rfl, rfl⟩
    · cases hp
  · cases hp
-- RaftHoldModel.told
def pf224 (x1 : Int32) : Int32 := if x1 = 0 then 0 else 1
set_option maxHeartbeats 20000000 in
set_option maxRecDepth 100000 in
theorem sg224_0 {E : mv_E} {D k n : Nat} (x1 : Int32) {h : mv_H} {Q : mv_Q} (H : if x1 = 0 then (Q (some (.int 0)) h) else (Q (some (.int 1)) h)) : mv_VE E D k n 224 0 [some (.ref 148), some (.int x1)] [] h Q := mv_s0 (fun O => if x1 = 0 then (Q (some (.int 0)) h) else (Q (some (.int 1)) h)) 60 (by decide) (fun _ q => q) H
theorem cp224 {E : mv_E} {D k n : Nat} (x1 : Int32) {h : mv_H} {Q : mv_Q} (H : Q (some (.int (pf224 x1))) h) : mv_VE E D k n 224 0 [some (.ref 148), some (.int x1)] [] h Q := sg224_0 x1 ((mv_ite (f := fun z => Q (some (.int (z))) h) (fun q => q) (fun q => q)) H)
def mv_pe224 (av : List Value) (h : mv_H) : Option (Nat × (Bool ⊕ Int32)) := match av with
  | [.ref a, .int x1] => cond (Nat.beq a 148) (some (0, .inr (pf224 x1))) none
  | _ => none
theorem mv_peo224 {E : mv_E} {D d : Nat} {av : List Value} {h : mv_H} {r : Bool ⊕ Int32} (hd : d ≤ D) (hp : mv_pe224 av h = some (d, r)) : mv_V E (mv_S (mv_sl E)) D 0 0 224 0 (mv_ent (mv_ml 224) av) [] h (fun v h' => h' = h ∧ v = some (.int (match (generalizing := false) r with | .inl b => cond b 1 0 | .inr x => x))) := by
  unfold mv_pe224 at hp
  split at hp
  · rcases mv_cE hp with ⟨hb, hp⟩ | ⟨hb, hp⟩
    · cases hp
      obtain rfl := mv_bq hb
      obtain ⟨D, rfl⟩ : ∃ q, D = q + 0 := ⟨D - 0, by omega⟩
      exact cp224 (D := D) _ ⟨rfl, rfl⟩
    · cases hp
  · cases hp
-- java/lang/Integer.bitCount
def pf305 (x0 : Int32) : Int32 := (((((((x0 - (((x0.toUInt32 >>> ((1 : Int32).toUInt32 &&& Int32.toUInt32 31)).toInt32) &&& 1431655765)) &&& 858993459) + ((((x0 - (((x0.toUInt32 >>> ((1 : Int32).toUInt32 &&& Int32.toUInt32 31)).toInt32) &&& 1431655765)).toUInt32 >>> ((2 : Int32).toUInt32 &&& Int32.toUInt32 31)).toInt32) &&& 858993459)) + (((((x0 - (((x0.toUInt32 >>> ((1 : Int32).toUInt32 &&& Int32.toUInt32 31)).toInt32) &&& 1431655765)) &&& 858993459) + ((((x0 - (((x0.toUInt32 >>> ((1 : Int32).toUInt32 &&& Int32.toUInt32 31)).toInt32) &&& 1431655765)).toUInt32 >>> ((2 : Int32).toUInt32 &&& Int32.toUInt32 31)).toInt32) &&& 858993459)).toUInt32 >>> ((4 : Int32).toUInt32 &&& Int32.toUInt32 31)).toInt32)) &&& 252645135) + (((((((x0 - (((x0.toUInt32 >>> ((1 : Int32).toUInt32 &&& Int32.toUInt32 31)).toInt32) &&& 1431655765)) &&& 858993459) + ((((x0 - (((x0.toUInt32 >>> ((1 : Int32).toUInt32 &&& Int32.toUInt32 31)).toInt32) &&& 1431655765)).toUInt32 >>> ((2 : Int32).toUInt32 &&& Int32.toUInt32 31)).toInt32) &&& 858993459)) + (((((x0 - (((x0.toUInt32 >>> ((1 : Int32).toUInt32 &&& Int32.toUInt32 31)).toInt32) &&& 1431655765)) &&& 858993459) + ((((x0 - (((x0.toUInt32 >>> ((1 : Int32).toUInt32 &&& Int32.toUInt32 31)).toInt32) &&& 1431655765)).toUInt32 >>> ((2 : Int32).toUInt32 &&& Int32.toUInt32 31)).toInt32) &&& 858993459)).toUInt32 >>> ((4 : Int32).toUInt32 &&& Int32.toUInt32 31)).toInt32)) &&& 252645135).toUInt32 >>> ((8 : Int32).toUInt32 &&& Int32.toUInt32 31)).toInt32)) + ((((((((x0 - (((x0.toUInt32 >>> ((1 : Int32).toUInt32 &&& Int32.toUInt32 31)).toInt32) &&& 1431655765)) &&& 858993459) + ((((x0 - (((x0.toUInt32 >>> ((1 : Int32).toUInt32 &&& Int32.toUInt32 31)).toInt32) &&& 1431655765)).toUInt32 >>> ((2 : Int32).toUInt32 &&& Int32.toUInt32 31)).toInt32) &&& 858993459)) + (((((x0 - (((x0.toUInt32 >>> ((1 : Int32).toUInt32 &&& Int32.toUInt32 31)).toInt32) &&& 1431655765)) &&& 858993459) + ((((x0 - (((x0.toUInt32 >>> ((1 : Int32).toUInt32 &&& Int32.toUInt32 31)).toInt32) &&& 1431655765)).toUInt32 >>> ((2 : Int32).toUInt32 &&& Int32.toUInt32 31)).toInt32) &&& 858993459)).toUInt32 >>> ((4 : Int32).toUInt32 &&& Int32.toUInt32 31)).toInt32)) &&& 252645135) + (((((((x0 - (((x0.toUInt32 >>> ((1 : Int32).toUInt32 &&& Int32.toUInt32 31)).toInt32) &&& 1431655765)) &&& 858993459) + ((((x0 - (((x0.toUInt32 >>> ((1 : Int32).toUInt32 &&& Int32.toUInt32 31)).toInt32) &&& 1431655765)).toUInt32 >>> ((2 : Int32).toUInt32 &&& Int32.toUInt32 31)).toInt32) &&& 858993459)) + (((((x0 - (((x0.toUInt32 >>> ((1 : Int32).toUInt32 &&& Int32.toUInt32 31)).toInt32) &&& 1431655765)) &&& 858993459) + ((((x0 - (((x0.toUInt32 >>> ((1 : Int32).toUInt32 &&& Int32.toUInt32 31)).toInt32) &&& 1431655765)).toUInt32 >>> ((2 : Int32).toUInt32 &&& Int32.toUInt32 31)).toInt32) &&& 858993459)).toUInt32 >>> ((4 : Int32).toUInt32 &&& Int32.toUInt32 31)).toInt32)) &&& 252645135).toUInt32 >>> ((8 : Int32).toUInt32 &&& Int32.toUInt32 31)).toInt32)).toUInt32 >>> ((16 : Int32).toUInt32 &&& Int32.toUInt32 31)).toInt32)) &&& 63
set_option maxHeartbeats 20000000 in
set_option maxRecDepth 100000 in
theorem sg305_0 {E : mv_E} {D k n : Nat} (x0 : Int32) {h : mv_H} {Q : mv_Q} (H : Q (some (.int ((((((((x0 - (((x0.toUInt32 >>> ((1 : Int32).toUInt32 &&& Int32.toUInt32 31)).toInt32) &&& 1431655765)) &&& 858993459) + ((((x0 - (((x0.toUInt32 >>> ((1 : Int32).toUInt32 &&& Int32.toUInt32 31)).toInt32) &&& 1431655765)).toUInt32 >>> ((2 : Int32).toUInt32 &&& Int32.toUInt32 31)).toInt32) &&& 858993459)) + (((((x0 - (((x0.toUInt32 >>> ((1 : Int32).toUInt32 &&& Int32.toUInt32 31)).toInt32) &&& 1431655765)) &&& 858993459) + ((((x0 - (((x0.toUInt32 >>> ((1 : Int32).toUInt32 &&& Int32.toUInt32 31)).toInt32) &&& 1431655765)).toUInt32 >>> ((2 : Int32).toUInt32 &&& Int32.toUInt32 31)).toInt32) &&& 858993459)).toUInt32 >>> ((4 : Int32).toUInt32 &&& Int32.toUInt32 31)).toInt32)) &&& 252645135) + (((((((x0 - (((x0.toUInt32 >>> ((1 : Int32).toUInt32 &&& Int32.toUInt32 31)).toInt32) &&& 1431655765)) &&& 858993459) + ((((x0 - (((x0.toUInt32 >>> ((1 : Int32).toUInt32 &&& Int32.toUInt32 31)).toInt32) &&& 1431655765)).toUInt32 >>> ((2 : Int32).toUInt32 &&& Int32.toUInt32 31)).toInt32) &&& 858993459)) + (((((x0 - (((x0.toUInt32 >>> ((1 : Int32).toUInt32 &&& Int32.toUInt32 31)).toInt32) &&& 1431655765)) &&& 858993459) + ((((x0 - (((x0.toUInt32 >>> ((1 : Int32).toUInt32 &&& Int32.toUInt32 31)).toInt32) &&& 1431655765)).toUInt32 >>> ((2 : Int32).toUInt32 &&& Int32.toUInt32 31)).toInt32) &&& 858993459)).toUInt32 >>> ((4 : Int32).toUInt32 &&& Int32.toUInt32 31)).toInt32)) &&& 252645135).toUInt32 >>> ((8 : Int32).toUInt32 &&& Int32.toUInt32 31)).toInt32)) + ((((((((x0 - (((x0.toUInt32 >>> ((1 : Int32).toUInt32 &&& Int32.toUInt32 31)).toInt32) &&& 1431655765)) &&& 858993459) + ((((x0 - (((x0.toUInt32 >>> ((1 : Int32).toUInt32 &&& Int32.toUInt32 31)).toInt32) &&& 1431655765)).toUInt32 >>> ((2 : Int32).toUInt32 &&& Int32.toUInt32 31)).toInt32) &&& 858993459)) + (((((x0 - (((x0.toUInt32 >>> ((1 : Int32).toUInt32 &&& Int32.toUInt32 31)).toInt32) &&& 1431655765)) &&& 858993459) + ((((x0 - (((x0.toUInt32 >>> ((1 : Int32).toUInt32 &&& Int32.toUInt32 31)).toInt32) &&& 1431655765)).toUInt32 >>> ((2 : Int32).toUInt32 &&& Int32.toUInt32 31)).toInt32) &&& 858993459)).toUInt32 >>> ((4 : Int32).toUInt32 &&& Int32.toUInt32 31)).toInt32)) &&& 252645135) + (((((((x0 - (((x0.toUInt32 >>> ((1 : Int32).toUInt32 &&& Int32.toUInt32 31)).toInt32) &&& 1431655765)) &&& 858993459) + ((((x0 - (((x0.toUInt32 >>> ((1 : Int32).toUInt32 &&& Int32.toUInt32 31)).toInt32) &&& 1431655765)).toUInt32 >>> ((2 : Int32).toUInt32 &&& Int32.toUInt32 31)).toInt32) &&& 858993459)) + (((((x0 - (((x0.toUInt32 >>> ((1 : Int32).toUInt32 &&& Int32.toUInt32 31)).toInt32) &&& 1431655765)) &&& 858993459) + ((((x0 - (((x0.toUInt32 >>> ((1 : Int32).toUInt32 &&& Int32.toUInt32 31)).toInt32) &&& 1431655765)).toUInt32 >>> ((2 : Int32).toUInt32 &&& Int32.toUInt32 31)).toInt32) &&& 858993459)).toUInt32 >>> ((4 : Int32).toUInt32 &&& Int32.toUInt32 31)).toInt32)) &&& 252645135).toUInt32 >>> ((8 : Int32).toUInt32 &&& Int32.toUInt32 31)).toInt32)).toUInt32 >>> ((16 : Int32).toUInt32 &&& Int32.toUInt32 31)).toInt32)) &&& 63))) h) : mv_VE E D k n 305 0 [some (.int x0)] [] h Q := mv_s0 (fun O => Q (some (.int (O.1 3 (O.1 0 (O.1 0 (O.1 3 (O.1 0 (O.1 0 (O.1 3 (O.1 1 x0 (O.1 3 (O.1 8 x0 1) 1431655765)) 858993459) (O.1 3 (O.1 8 (O.1 1 x0 (O.1 3 (O.1 8 x0 1) 1431655765)) 2) 858993459)) (O.1 8 (O.1 0 (O.1 3 (O.1 1 x0 (O.1 3 (O.1 8 x0 1) 1431655765)) 858993459) (O.1 3 (O.1 8 (O.1 1 x0 (O.1 3 (O.1 8 x0 1) 1431655765)) 2) 858993459)) 4)) 252645135) (O.1 8 (O.1 3 (O.1 0 (O.1 0 (O.1 3 (O.1 1 x0 (O.1 3 (O.1 8 x0 1) 1431655765)) 858993459) (O.1 3 (O.1 8 (O.1 1 x0 (O.1 3 (O.1 8 x0 1) 1431655765)) 2) 858993459)) (O.1 8 (O.1 0 (O.1 3 (O.1 1 x0 (O.1 3 (O.1 8 x0 1) 1431655765)) 858993459) (O.1 3 (O.1 8 (O.1 1 x0 (O.1 3 (O.1 8 x0 1) 1431655765)) 2) 858993459)) 4)) 252645135) 8)) (O.1 8 (O.1 0 (O.1 3 (O.1 0 (O.1 0 (O.1 3 (O.1 1 x0 (O.1 3 (O.1 8 x0 1) 1431655765)) 858993459) (O.1 3 (O.1 8 (O.1 1 x0 (O.1 3 (O.1 8 x0 1) 1431655765)) 2) 858993459)) (O.1 8 (O.1 0 (O.1 3 (O.1 1 x0 (O.1 3 (O.1 8 x0 1) 1431655765)) 858993459) (O.1 3 (O.1 8 (O.1 1 x0 (O.1 3 (O.1 8 x0 1) 1431655765)) 2) 858993459)) 4)) 252645135) (O.1 8 (O.1 3 (O.1 0 (O.1 0 (O.1 3 (O.1 1 x0 (O.1 3 (O.1 8 x0 1) 1431655765)) 858993459) (O.1 3 (O.1 8 (O.1 1 x0 (O.1 3 (O.1 8 x0 1) 1431655765)) 2) 858993459)) (O.1 8 (O.1 0 (O.1 3 (O.1 1 x0 (O.1 3 (O.1 8 x0 1) 1431655765)) 858993459) (O.1 3 (O.1 8 (O.1 1 x0 (O.1 3 (O.1 8 x0 1) 1431655765)) 2) 858993459)) 4)) 252645135) 8)) 16)) 63))) h) 60 (by decide) (fun _ q => q) H
theorem cp305 {E : mv_E} {D k n : Nat} (x0 : Int32) {h : mv_H} {Q : mv_Q} (H : Q (some (.int (pf305 x0))) h) : mv_VE E D k n 305 0 [some (.int x0)] [] h Q := sg305_0 x0 ((fun q => q) H)
def mv_pe305 (av : List Value) (h : mv_H) : Option (Nat × (Bool ⊕ Int32)) := match av with
  | [.int x0] => some (0, .inr (pf305 x0))
  | _ => none
theorem mv_peo305 {E : mv_E} {D d : Nat} {av : List Value} {h : mv_H} {r : Bool ⊕ Int32} (hd : d ≤ D) (hp : mv_pe305 av h = some (d, r)) : mv_V E (mv_S (mv_sl E)) D 0 0 305 0 (mv_ent (mv_ml 305) av) [] h (fun v h' => h' = h ∧ v = some (.int (match (generalizing := false) r with | .inl b => cond b 1 0 | .inr x => x))) := by
  unfold mv_pe305 at hp
  split at hp
  · cases hp
    obtain ⟨D, rfl⟩ : ∃ q, D = q + 0 := ⟨D - 0, by omega⟩
    exact cp305 (D := D) _ ⟨rfl, rfl⟩
  · cases hp
-- java/lang/Integer.compare
def pf306 (x0 : Int32) (x1 : Int32) : Int32 := if x0 < x1 then (-1) else if x0 = x1 then 0 else 1
set_option maxHeartbeats 20000000 in
set_option maxRecDepth 100000 in
theorem sg306_0 {E : mv_E} {D k n : Nat} (x0 : Int32) (x1 : Int32) {h : mv_H} {Q : mv_Q} (H : if x0 < x1 then (Q (some (.int (-1))) h) else (if x0 = x1 then (Q (some (.int 0)) h) else (Q (some (.int 1)) h))) : mv_VE E D k n 306 0 [some (.int x0), some (.int x1)] [] h Q := mv_s0 (fun O => if x0 < x1 then (Q (some (.int (-1))) h) else (if x0 = x1 then (Q (some (.int 0)) h) else (Q (some (.int 1)) h))) 60 (by decide) (fun _ q => q) H
theorem cp306 {E : mv_E} {D k n : Nat} (x0 : Int32) (x1 : Int32) {h : mv_H} {Q : mv_Q} (H : Q (some (.int (pf306 x0 x1))) h) : mv_VE E D k n 306 0 [some (.int x0), some (.int x1)] [] h Q := sg306_0 x0 x1 ((mv_ite (f := fun z => Q (some (.int (z))) h) (fun q => q) (mv_ite (f := fun z => Q (some (.int (z))) h) (fun q => q) (fun q => q))) H)
def mv_pe306 (av : List Value) (h : mv_H) : Option (Nat × (Bool ⊕ Int32)) := match av with
  | [.int x0, .int x1] => some (0, .inr (pf306 x0 x1))
  | _ => none
theorem mv_peo306 {E : mv_E} {D d : Nat} {av : List Value} {h : mv_H} {r : Bool ⊕ Int32} (hd : d ≤ D) (hp : mv_pe306 av h = some (d, r)) : mv_V E (mv_S (mv_sl E)) D 0 0 306 0 (mv_ent (mv_ml 306) av) [] h (fun v h' => h' = h ∧ v = some (.int (match (generalizing := false) r with | .inl b => cond b 1 0 | .inr x => x))) := by
  unfold mv_pe306 at hp
  split at hp
  · cases hp
    obtain ⟨D, rfl⟩ : ∃ q, D = q + 0 := ⟨D - 0, by omega⟩
    exact cp306 (D := D) _ _ ⟨rfl, rfl⟩
  · cases hp
def mp_1 : mv_PT := fun m av h => (cond (Nat.ble m 128) (cond (Nat.ble m 56) (cond (Nat.ble m 11) (cond (Nat.ble m 4) (cond (Nat.beq m 4) (mv_pe4 av h) none) (cond (Nat.ble m 7) (cond (Nat.beq m 7) (mv_pe7 av h) none) (cond (Nat.beq m 11) (mv_pe11 av h) none))) (cond (Nat.ble m 45) (cond (Nat.beq m 45) (mv_pe45 av h) none) (cond (Nat.ble m 55) (cond (Nat.beq m 55) (mv_pe55 av h) none) (cond (Nat.beq m 56) (mv_pe56 av h) none)))) (cond (Nat.ble m 79) (cond (Nat.ble m 71) (cond (Nat.beq m 71) (mv_pe71 av h) none) (cond (Nat.ble m 73) (cond (Nat.beq m 73) (mv_pe73 av h) none) (cond (Nat.beq m 79) (mv_pe79 av h) none))) (cond (Nat.ble m 102) (cond (Nat.beq m 102) (mv_pe102 av h) none) (cond (Nat.ble m 119) (cond (Nat.beq m 119) (mv_pe119 av h) none) (cond (Nat.beq m 128) (mv_pe128 av h) none))))) (cond (Nat.ble m 207) (cond (Nat.ble m 185) (cond (Nat.ble m 148) (cond (Nat.beq m 148) (mv_pe148 av h) none) (cond (Nat.ble m 182) (cond (Nat.beq m 182) (mv_pe182 av h) none) (cond (Nat.beq m 185) (mv_pe185 av h) none))) (cond (Nat.ble m 187) (cond (Nat.beq m 187) (mv_pe187 av h) none) (cond (Nat.ble m 189) (cond (Nat.beq m 189) (mv_pe189 av h) none) (cond (Nat.beq m 207) (mv_pe207 av h) none)))) (cond (Nat.ble m 219) (cond (Nat.ble m 213) (cond (Nat.beq m 213) (mv_pe213 av h) none) (cond (Nat.ble m 216) (cond (Nat.beq m 216) (mv_pe216 av h) none) (cond (Nat.beq m 219) (mv_pe219 av h) none))) (cond (Nat.ble m 224) (cond (Nat.beq m 224) (mv_pe224 av h) none) (cond (Nat.ble m 305) (cond (Nat.beq m 305) (mv_pe305 av h) none) (cond (Nat.beq m 306) (mv_pe306 av h) none))))))
theorem mp_1ok {E : mv_E} : mv_Pok E (mv_S (mv_sl E)) mp_1 := by
  intro D m av h d r hd hp
  unfold mp_1 at hp
  rcases mv_cE hp with ⟨hb, hp⟩ | ⟨hb, hp⟩
  · rcases mv_cE hp with ⟨hb, hp⟩ | ⟨hb, hp⟩
    · rcases mv_cE hp with ⟨hb, hp⟩ | ⟨hb, hp⟩
      · rcases mv_cE hp with ⟨hb, hp⟩ | ⟨hb, hp⟩
        · rcases mv_cE hp with ⟨hb, hp⟩ | ⟨hb, hp⟩
          · obtain rfl := mv_bq hb; exact mv_peo4 hd hp
          · cases hp
        · rcases mv_cE hp with ⟨hb, hp⟩ | ⟨hb, hp⟩
          · rcases mv_cE hp with ⟨hb, hp⟩ | ⟨hb, hp⟩
            · obtain rfl := mv_bq hb; exact mv_peo7 hd hp
            · cases hp
          · rcases mv_cE hp with ⟨hb, hp⟩ | ⟨hb, hp⟩
            · obtain rfl := mv_bq hb; exact mv_peo11 hd hp
            · cases hp
      · rcases mv_cE hp with ⟨hb, hp⟩ | ⟨hb, hp⟩
        · rcases mv_cE hp with ⟨hb, hp⟩ | ⟨hb, hp⟩
          · obtain rfl := mv_bq hb; exact mv_peo45 hd hp
          · cases hp
        · rcases mv_cE hp with ⟨hb, hp⟩ | ⟨hb, hp⟩
          · rcases mv_cE hp with ⟨hb, hp⟩ | ⟨hb, hp⟩
            · obtain rfl := mv_bq hb; exact mv_peo55 hd hp
            · cases hp
          · rcases mv_cE hp with ⟨hb, hp⟩ | ⟨hb, hp⟩
            · obtain rfl := mv_bq hb; exact mv_peo56 hd hp
            · cases hp
    · rcases mv_cE hp with ⟨hb, hp⟩ | ⟨hb, hp⟩
      · rcases mv_cE hp with ⟨hb, hp⟩ | ⟨hb, hp⟩
        · rcases mv_cE hp with ⟨hb, hp⟩ | ⟨hb, hp⟩
          · obtain rfl := mv_bq hb; exact mv_peo71 hd hp
          · cases hp
        · rcases mv_cE hp with ⟨hb, hp⟩ | ⟨hb, hp⟩
          · rcases mv_cE hp with ⟨hb, hp⟩ | ⟨hb, hp⟩
            · obtain rfl := mv_bq hb; exact mv_peo73 hd hp
            · cases hp
          · rcases mv_cE hp with ⟨hb, hp⟩ | ⟨hb, hp⟩
            · obtain rfl := mv_bq hb; exact mv_peo79 hd hp
            · cases hp
      · rcases mv_cE hp with ⟨hb, hp⟩ | ⟨hb, hp⟩
        · rcases mv_cE hp with ⟨hb, hp⟩ | ⟨hb, hp⟩
          · obtain rfl := mv_bq hb; exact mv_peo102 hd hp
          · cases hp
        · rcases mv_cE hp with ⟨hb, hp⟩ | ⟨hb, hp⟩
          · rcases mv_cE hp with ⟨hb, hp⟩ | ⟨hb, hp⟩
            · obtain rfl := mv_bq hb; exact mv_peo119 hd hp
            · cases hp
          · rcases mv_cE hp with ⟨hb, hp⟩ | ⟨hb, hp⟩
            · obtain rfl := mv_bq hb; exact mv_peo128 hd hp
            · cases hp
  · rcases mv_cE hp with ⟨hb, hp⟩ | ⟨hb, hp⟩
    · rcases mv_cE hp with ⟨hb, hp⟩ | ⟨hb, hp⟩
      · rcases mv_cE hp with ⟨hb, hp⟩ | ⟨hb, hp⟩
        · rcases mv_cE hp with ⟨hb, hp⟩ | ⟨hb, hp⟩
          · obtain rfl := mv_bq hb; exact mv_peo148 hd hp
          · cases hp
        · rcases mv_cE hp with ⟨hb, hp⟩ | ⟨hb, hp⟩
          · rcases mv_cE hp with ⟨hb, hp⟩ | ⟨hb, hp⟩
            · obtain rfl := mv_bq hb; exact mv_peo182 hd hp
            · cases hp
          · rcases mv_cE hp with ⟨hb, hp⟩ | ⟨hb, hp⟩
            · obtain rfl := mv_bq hb; exact mv_peo185 hd hp
            · cases hp
      · rcases mv_cE hp with ⟨hb, hp⟩ | ⟨hb, hp⟩
        · rcases mv_cE hp with ⟨hb, hp⟩ | ⟨hb, hp⟩
          · obtain rfl := mv_bq hb; exact mv_peo187 hd hp
          · cases hp
        · rcases mv_cE hp with ⟨hb, hp⟩ | ⟨hb, hp⟩
          · rcases mv_cE hp with ⟨hb, hp⟩ | ⟨hb, hp⟩
            · obtain rfl := mv_bq hb; exact mv_peo189 hd hp
            · cases hp
          · rcases mv_cE hp with ⟨hb, hp⟩ | ⟨hb, hp⟩
            · obtain rfl := mv_bq hb; exact mv_peo207 hd hp
            · cases hp
    · rcases mv_cE hp with ⟨hb, hp⟩ | ⟨hb, hp⟩
      · rcases mv_cE hp with ⟨hb, hp⟩ | ⟨hb, hp⟩
        · rcases mv_cE hp with ⟨hb, hp⟩ | ⟨hb, hp⟩
          · obtain rfl := mv_bq hb; exact mv_peo213 hd hp
          · cases hp
        · rcases mv_cE hp with ⟨hb, hp⟩ | ⟨hb, hp⟩
          · rcases mv_cE hp with ⟨hb, hp⟩ | ⟨hb, hp⟩
            · obtain rfl := mv_bq hb; exact mv_peo216 hd hp
            · cases hp
          · rcases mv_cE hp with ⟨hb, hp⟩ | ⟨hb, hp⟩
            · obtain rfl := mv_bq hb; exact mv_peo219 hd hp
            · cases hp
      · rcases mv_cE hp with ⟨hb, hp⟩ | ⟨hb, hp⟩
        · rcases mv_cE hp with ⟨hb, hp⟩ | ⟨hb, hp⟩
          · obtain rfl := mv_bq hb; exact mv_peo224 hd hp
          · cases hp
        · rcases mv_cE hp with ⟨hb, hp⟩ | ⟨hb, hp⟩
          · rcases mv_cE hp with ⟨hb, hp⟩ | ⟨hb, hp⟩
            · obtain rfl := mv_bq hb; exact mv_peo305 hd hp
            · cases hp
          · rcases mv_cE hp with ⟨hb, hp⟩ | ⟨hb, hp⟩
            · obtain rfl := mv_bq hb; exact mv_peo306 hd hp
            · cases hp
theorem mp_1s {E : mv_E} {D k n m pc : Nat} {ls : List (Option Value)} {st : List Value} {h : mv_H} {Q : mv_Q} (R : mv_OT → Prop) (f : Nat) (hm : m < 324) (HR : ∀ O, R O → mv_wq O (mv_S (mv_sl E)) (mv_V E (mv_S (mv_sl E))) mp_1 mv_ml mv_al (mv_ql m) (mv_lv m) D m Q f k n pc ls st h) (H : R mv_O) : mv_VE E D k n m pc ls st h Q := mv_soundq mp_1ok mv_al (mv_lv m) hm f k n pc ls st h (HR mv_O H)
-- RaftHold.refuseChance
def pf167 (x0 : Int32) (x1 : Int32) : Int32 := cond (pf128 x1) (if x0 < 0 then (-3) else if 8 < x0 then (-3) else 0) ((-2))
set_option maxHeartbeats 20000000 in
set_option maxRecDepth 100000 in
theorem sg167_0 {E : mv_E} {D k n : Nat} (x0 : Int32) (x1 : Int32) {h : mv_H} {Q : mv_Q} (H : cond (pf128 x1) (if x0 < 0 then (Q (some (.int (-3))) h) else (if 8 < x0 then (Q (some (.int (-3))) h) else (Q (some (.int 0)) h))) (Q (some (.int (-2))) h)) : mv_VE E (D + 1) k n 167 0 [some (.int x0), some (.int x1)] [] h Q := mp_1s (fun O => cond (pf128 x1) (if x0 < 0 then (Q (some (.int (-3))) h) else (if 8 < x0 then (Q (some (.int (-3))) h) else (Q (some (.int 0)) h))) (Q (some (.int (-2))) h)) 60 (by decide) (fun _ q => q) H
theorem cp167 {E : mv_E} {D k n : Nat} (x0 : Int32) (x1 : Int32) {h : mv_H} {Q : mv_Q} (H : Q (some (.int (pf167 x0 x1))) h) : mv_VE E (D + 1) k n 167 0 [some (.int x0), some (.int x1)] [] h Q := sg167_0 x0 x1 ((mv_cnd (f := fun z => Q (some (.int (z))) h) (mv_ite (f := fun z => Q (some (.int (z))) h) (fun q => q) (mv_ite (f := fun z => Q (some (.int (z))) h) (fun q => q) (fun q => q))) (fun q => q)) H)
def mv_pe167 (av : List Value) (h : mv_H) : Option (Nat × (Bool ⊕ Int32)) := match av with
  | [.int x0, .int x1] => some (1, .inr (pf167 x0 x1))
  | _ => none
theorem mv_peo167 {E : mv_E} {D d : Nat} {av : List Value} {h : mv_H} {r : Bool ⊕ Int32} (hd : d ≤ D) (hp : mv_pe167 av h = some (d, r)) : mv_V E (mv_S (mv_sl E)) D 0 0 167 0 (mv_ent (mv_ml 167) av) [] h (fun v h' => h' = h ∧ v = some (.int (match (generalizing := false) r with | .inl b => cond b 1 0 | .inr x => x))) := by
  unfold mv_pe167 at hp
  split at hp
  · cases hp
    obtain ⟨D, rfl⟩ : ∃ q, D = q + 1 := ⟨D - 1, by omega⟩
    exact cp167 (D := D) _ _ ⟨rfl, rfl⟩
  · cases hp
-- RaftHoldModel.isOne
def pf210 (h : mv_H) (x1 : Int64) : Bool := cond (pf182 x1 0 (((mv_I h 149 1) - 1).toInt64)) (true) (false)
set_option maxHeartbeats 20000000 in
set_option maxRecDepth 100000 in
theorem sg210_0 {E : mv_E} {D k n : Nat} (x1 : Int64) {h : mv_H} {Q : mv_Q} (H : cond (pf182 x1 0 (((mv_I h 149 1) - 1).toInt64)) (Q (some (.int 1)) h) (Q (some (.int 0)) h)) : mv_VE E (D + 1) k n 210 0 [some (.ref 148), some (.long x1), none] [] h Q := mp_1s (fun O => cond (pf182 x1 0 (O.2.2.1 (O.1 1 (mv_I h 149 1) 1))) (Q (some (.int 1)) h) (Q (some (.int 0)) h)) 60 (by decide) (fun _ q => q) H
theorem cp210 {E : mv_E} {D k n : Nat} (x1 : Int64) {h : mv_H} {Q : mv_Q} (H : Q (some (.int (cond (pf210 h x1) 1 0))) h) : mv_VE E (D + 1) k n 210 0 [some (.ref 148), some (.long x1), none] [] h Q := sg210_0 x1 ((mv_cnd (f := fun z => Q (some (.int (cond z 1 0))) h) (fun q => q) (fun q => q)) H)
def mv_pe210 (av : List Value) (h : mv_H) : Option (Nat × (Bool ⊕ Int32)) := match av with
  | [.ref a, .long x1] => cond (Nat.beq a 148) (some (1, .inl (pf210 h x1))) none
  | _ => none
theorem mv_peo210 {E : mv_E} {D d : Nat} {av : List Value} {h : mv_H} {r : Bool ⊕ Int32} (hd : d ≤ D) (hp : mv_pe210 av h = some (d, r)) : mv_V E (mv_S (mv_sl E)) D 0 0 210 0 (mv_ent (mv_ml 210) av) [] h (fun v h' => h' = h ∧ v = some (.int (match (generalizing := false) r with | .inl b => cond b 1 0 | .inr x => x))) := by
  unfold mv_pe210 at hp
  split at hp
  · rcases mv_cE hp with ⟨hb, hp⟩ | ⟨hb, hp⟩
    · cases hp
      obtain rfl := mv_bq hb
      obtain ⟨D, rfl⟩ : ∃ q, D = q + 1 := ⟨D - 1, by omega⟩
      exact cp210 (D := D) _ ⟨rfl, rfl⟩
    · cases hp
  · cases hp
-- RaftHoldModel.noChance
def pf292 (x1 : Int32) (x2 : Int32) : Int32 := cond (pf182 x2.toInt64 0 1) (cond (pf182 x1.toInt64 0 8) (0) ((-3))) ((-2))
set_option maxHeartbeats 20000000 in
set_option maxRecDepth 100000 in
theorem sg292_0 {E : mv_E} {D k n : Nat} (x1 : Int32) (x2 : Int32) {h : mv_H} {Q : mv_Q} (H : cond (pf182 x2.toInt64 0 1) (cond (pf182 x1.toInt64 0 8) (Q (some (.int 0)) h) (Q (some (.int (-3))) h)) (Q (some (.int (-2))) h)) : mv_VE E (D + 1) k n 292 0 [some (.ref 148), some (.int x1), some (.int x2)] [] h Q := mp_1s (fun O => cond (pf182 (O.2.2.1 x2) 0 1) (cond (pf182 (O.2.2.1 x1) 0 8) (Q (some (.int 0)) h) (Q (some (.int (-3))) h)) (Q (some (.int (-2))) h)) 60 (by decide) (fun _ q => q) H
theorem cp292 {E : mv_E} {D k n : Nat} (x1 : Int32) (x2 : Int32) {h : mv_H} {Q : mv_Q} (H : Q (some (.int (pf292 x1 x2))) h) : mv_VE E (D + 1) k n 292 0 [some (.ref 148), some (.int x1), some (.int x2)] [] h Q := sg292_0 x1 x2 ((mv_cnd (f := fun z => Q (some (.int (z))) h) (mv_cnd (f := fun z => Q (some (.int (z))) h) (fun q => q) (fun q => q)) (fun q => q)) H)
def mv_pe292 (av : List Value) (h : mv_H) : Option (Nat × (Bool ⊕ Int32)) := match av with
  | [.ref a, .int x1, .int x2] => cond (Nat.beq a 148) (some (1, .inr (pf292 x1 x2))) none
  | _ => none
theorem mv_peo292 {E : mv_E} {D d : Nat} {av : List Value} {h : mv_H} {r : Bool ⊕ Int32} (hd : d ≤ D) (hp : mv_pe292 av h = some (d, r)) : mv_V E (mv_S (mv_sl E)) D 0 0 292 0 (mv_ent (mv_ml 292) av) [] h (fun v h' => h' = h ∧ v = some (.int (match (generalizing := false) r with | .inl b => cond b 1 0 | .inr x => x))) := by
  unfold mv_pe292 at hp
  split at hp
  · rcases mv_cE hp with ⟨hb, hp⟩ | ⟨hb, hp⟩
    · cases hp
      obtain rfl := mv_bq hb
      obtain ⟨D, rfl⟩ : ∃ q, D = q + 1 := ⟨D - 1, by omega⟩
      exact cp292 (D := D) _ _ ⟨rfl, rfl⟩
    · cases hp
  · cases hp
-- RaftHold.isFewer
def pf133 (x0 : Int32) (x1 : Int32) : Bool := if x1 = (-1) then true else if pf305 x0 < pf305 x1 then true else false
set_option maxHeartbeats 20000000 in
set_option maxRecDepth 100000 in
theorem sg133_0 {E : mv_E} {D k n : Nat} (x0 : Int32) (x1 : Int32) {h : mv_H} {Q : mv_Q} (H : if x1 = (-1) then (Q (some (.int 1)) h) else (if pf305 x0 < pf305 x1 then (Q (some (.int 1)) h) else (Q (some (.int 0)) h))) : mv_VE E (D + 1) k n 133 0 [some (.int x0), some (.int x1)] [] h Q := mp_1s (fun O => if x1 = (-1) then (Q (some (.int 1)) h) else (if pf305 x0 < pf305 x1 then (Q (some (.int 1)) h) else (Q (some (.int 0)) h))) 60 (by decide) (fun _ q => q) H
theorem cp133 {E : mv_E} {D k n : Nat} (x0 : Int32) (x1 : Int32) {h : mv_H} {Q : mv_Q} (H : Q (some (.int (cond (pf133 x0 x1) 1 0))) h) : mv_VE E (D + 1) k n 133 0 [some (.int x0), some (.int x1)] [] h Q := sg133_0 x0 x1 ((mv_ite (f := fun z => Q (some (.int (cond z 1 0))) h) (fun q => q) (mv_ite (f := fun z => Q (some (.int (cond z 1 0))) h) (fun q => q) (fun q => q))) H)
def mv_pe133 (av : List Value) (h : mv_H) : Option (Nat × (Bool ⊕ Int32)) := match av with
  | [.int x0, .int x1] => some (1, .inl (pf133 x0 x1))
  | _ => none
theorem mv_peo133 {E : mv_E} {D d : Nat} {av : List Value} {h : mv_H} {r : Bool ⊕ Int32} (hd : d ≤ D) (hp : mv_pe133 av h = some (d, r)) : mv_V E (mv_S (mv_sl E)) D 0 0 133 0 (mv_ent (mv_ml 133) av) [] h (fun v h' => h' = h ∧ v = some (.int (match (generalizing := false) r with | .inl b => cond b 1 0 | .inr x => x))) := by
  unfold mv_pe133 at hp
  split at hp
  · cases hp
    obtain ⟨D, rfl⟩ : ∃ q, D = q + 1 := ⟨D - 1, by omega⟩
    exact cp133 (D := D) _ _ ⟨rfl, rfl⟩
  · cases hp
-- RaftHold.toldSet
def pf135 (x0 : Int32) (x1 : Int32) : Int32 := if x0 = (-1) then x0 else if x1 = 1 then x0 else pf305 x0
set_option maxHeartbeats 20000000 in
set_option maxRecDepth 100000 in
theorem sg135_0 {E : mv_E} {D k n : Nat} (x0 : Int32) (x1 : Int32) {h : mv_H} {Q : mv_Q} (H : if x0 = (-1) then (Q (some (.int x0)) h) else (if x1 = 1 then (Q (some (.int x0)) h) else (Q (some (.int (pf305 x0))) h))) : mv_VE E (D + 1) k n 135 0 [some (.int x0), some (.int x1)] [] h Q := mp_1s (fun O => if x0 = (-1) then (Q (some (.int x0)) h) else (if x1 = 1 then (Q (some (.int x0)) h) else (Q (some (.int (pf305 x0))) h))) 60 (by decide) (fun _ q => q) H
theorem cp135 {E : mv_E} {D k n : Nat} (x0 : Int32) (x1 : Int32) {h : mv_H} {Q : mv_Q} (H : Q (some (.int (pf135 x0 x1))) h) : mv_VE E (D + 1) k n 135 0 [some (.int x0), some (.int x1)] [] h Q := sg135_0 x0 x1 ((mv_ite (f := fun z => Q (some (.int (z))) h) (fun q => q) (mv_ite (f := fun z => Q (some (.int (z))) h) (fun q => q) (fun q => q))) H)
def mv_pe135 (av : List Value) (h : mv_H) : Option (Nat × (Bool ⊕ Int32)) := match av with
  | [.int x0, .int x1] => some (1, .inr (pf135 x0 x1))
  | _ => none
theorem mv_peo135 {E : mv_E} {D d : Nat} {av : List Value} {h : mv_H} {r : Bool ⊕ Int32} (hd : d ≤ D) (hp : mv_pe135 av h = some (d, r)) : mv_V E (mv_S (mv_sl E)) D 0 0 135 0 (mv_ent (mv_ml 135) av) [] h (fun v h' => h' = h ∧ v = some (.int (match (generalizing := false) r with | .inl b => cond b 1 0 | .inr x => x))) := by
  unfold mv_pe135 at hp
  split at hp
  · cases hp
    obtain ⟨D, rfl⟩ : ∃ q, D = q + 1 := ⟨D - 1, by omega⟩
    exact cp135 (D := D) _ _ ⟨rfl, rfl⟩
  · cases hp
-- RaftHoldModel.isSet
def pf218 (h : mv_H) (x1 : Int32) : Bool := cond (pf182 x1.toInt64 0 ((pf219 h).toInt64)) (true) (false)
set_option maxHeartbeats 20000000 in
set_option maxRecDepth 100000 in
theorem sg218_0 {E : mv_E} {D k n : Nat} (x1 : Int32) {h : mv_H} {Q : mv_Q} (H : cond (pf182 x1.toInt64 0 ((pf219 h).toInt64)) (Q (some (.int 1)) h) (Q (some (.int 0)) h)) : mv_VE E (D + 1) k n 218 0 [some (.ref 148), some (.int x1)] [] h Q := mp_1s (fun O => cond (pf182 (O.2.2.1 x1) 0 (O.2.2.1 (pf219 h))) (Q (some (.int 1)) h) (Q (some (.int 0)) h)) 60 (by decide) (fun _ q => q) H
theorem cp218 {E : mv_E} {D k n : Nat} (x1 : Int32) {h : mv_H} {Q : mv_Q} (H : Q (some (.int (cond (pf218 h x1) 1 0))) h) : mv_VE E (D + 1) k n 218 0 [some (.ref 148), some (.int x1)] [] h Q := sg218_0 x1 ((mv_cnd (f := fun z => Q (some (.int (cond z 1 0))) h) (fun q => q) (fun q => q)) H)
def mv_pe218 (av : List Value) (h : mv_H) : Option (Nat × (Bool ⊕ Int32)) := match av with
  | [.ref a, .int x1] => cond (Nat.beq a 148) (some (1, .inl (pf218 h x1))) none
  | _ => none
theorem mv_peo218 {E : mv_E} {D d : Nat} {av : List Value} {h : mv_H} {r : Bool ⊕ Int32} (hd : d ≤ D) (hp : mv_pe218 av h = some (d, r)) : mv_V E (mv_S (mv_sl E)) D 0 0 218 0 (mv_ent (mv_ml 218) av) [] h (fun v h' => h' = h ∧ v = some (.int (match (generalizing := false) r with | .inl b => cond b 1 0 | .inr x => x))) := by
  unfold mv_pe218 at hp
  split at hp
  · rcases mv_cE hp with ⟨hb, hp⟩ | ⟨hb, hp⟩
    · cases hp
      obtain rfl := mv_bq hb
      obtain ⟨D, rfl⟩ : ∃ q, D = q + 1 := ⟨D - 1, by omega⟩
      exact cp218 (D := D) _ ⟨rfl, rfl⟩
    · cases hp
  · cases hp
def mp_2 : mv_PT := fun m av h => (cond (Nat.ble m 148) (cond (Nat.ble m 71) (cond (Nat.ble m 11) (cond (Nat.ble m 4) (cond (Nat.beq m 4) (mv_pe4 av h) none) (cond (Nat.ble m 7) (cond (Nat.beq m 7) (mv_pe7 av h) none) (cond (Nat.beq m 11) (mv_pe11 av h) none))) (cond (Nat.ble m 55) (cond (Nat.ble m 45) (cond (Nat.beq m 45) (mv_pe45 av h) none) (cond (Nat.beq m 55) (mv_pe55 av h) none)) (cond (Nat.ble m 56) (cond (Nat.beq m 56) (mv_pe56 av h) none) (cond (Nat.beq m 71) (mv_pe71 av h) none)))) (cond (Nat.ble m 119) (cond (Nat.ble m 79) (cond (Nat.ble m 73) (cond (Nat.beq m 73) (mv_pe73 av h) none) (cond (Nat.beq m 79) (mv_pe79 av h) none)) (cond (Nat.ble m 102) (cond (Nat.beq m 102) (mv_pe102 av h) none) (cond (Nat.beq m 119) (mv_pe119 av h) none))) (cond (Nat.ble m 133) (cond (Nat.ble m 128) (cond (Nat.beq m 128) (mv_pe128 av h) none) (cond (Nat.beq m 133) (mv_pe133 av h) none)) (cond (Nat.ble m 135) (cond (Nat.beq m 135) (mv_pe135 av h) none) (cond (Nat.beq m 148) (mv_pe148 av h) none))))) (cond (Nat.ble m 210) (cond (Nat.ble m 185) (cond (Nat.ble m 167) (cond (Nat.beq m 167) (mv_pe167 av h) none) (cond (Nat.ble m 182) (cond (Nat.beq m 182) (mv_pe182 av h) none) (cond (Nat.beq m 185) (mv_pe185 av h) none))) (cond (Nat.ble m 189) (cond (Nat.ble m 187) (cond (Nat.beq m 187) (mv_pe187 av h) none) (cond (Nat.beq m 189) (mv_pe189 av h) none)) (cond (Nat.ble m 207) (cond (Nat.beq m 207) (mv_pe207 av h) none) (cond (Nat.beq m 210) (mv_pe210 av h) none)))) (cond (Nat.ble m 219) (cond (Nat.ble m 216) (cond (Nat.ble m 213) (cond (Nat.beq m 213) (mv_pe213 av h) none) (cond (Nat.beq m 216) (mv_pe216 av h) none)) (cond (Nat.ble m 218) (cond (Nat.beq m 218) (mv_pe218 av h) none) (cond (Nat.beq m 219) (mv_pe219 av h) none))) (cond (Nat.ble m 292) (cond (Nat.ble m 224) (cond (Nat.beq m 224) (mv_pe224 av h) none) (cond (Nat.beq m 292) (mv_pe292 av h) none)) (cond (Nat.ble m 305) (cond (Nat.beq m 305) (mv_pe305 av h) none) (cond (Nat.beq m 306) (mv_pe306 av h) none))))))
theorem mp_2ok {E : mv_E} : mv_Pok E (mv_S (mv_sl E)) mp_2 := by
  intro D m av h d r hd hp
  unfold mp_2 at hp
  rcases mv_cE hp with ⟨hb, hp⟩ | ⟨hb, hp⟩
  · rcases mv_cE hp with ⟨hb, hp⟩ | ⟨hb, hp⟩
    · rcases mv_cE hp with ⟨hb, hp⟩ | ⟨hb, hp⟩
      · rcases mv_cE hp with ⟨hb, hp⟩ | ⟨hb, hp⟩
        · rcases mv_cE hp with ⟨hb, hp⟩ | ⟨hb, hp⟩
          · obtain rfl := mv_bq hb; exact mv_peo4 hd hp
          · cases hp
        · rcases mv_cE hp with ⟨hb, hp⟩ | ⟨hb, hp⟩
          · rcases mv_cE hp with ⟨hb, hp⟩ | ⟨hb, hp⟩
            · obtain rfl := mv_bq hb; exact mv_peo7 hd hp
            · cases hp
          · rcases mv_cE hp with ⟨hb, hp⟩ | ⟨hb, hp⟩
            · obtain rfl := mv_bq hb; exact mv_peo11 hd hp
            · cases hp
      · rcases mv_cE hp with ⟨hb, hp⟩ | ⟨hb, hp⟩
        · rcases mv_cE hp with ⟨hb, hp⟩ | ⟨hb, hp⟩
          · rcases mv_cE hp with ⟨hb, hp⟩ | ⟨hb, hp⟩
            · obtain rfl := mv_bq hb; exact mv_peo45 hd hp
            · cases hp
          · rcases mv_cE hp with ⟨hb, hp⟩ | ⟨hb, hp⟩
            · obtain rfl := mv_bq hb; exact mv_peo55 hd hp
            · cases hp
        · rcases mv_cE hp with ⟨hb, hp⟩ | ⟨hb, hp⟩
          · rcases mv_cE hp with ⟨hb, hp⟩ | ⟨hb, hp⟩
            · obtain rfl := mv_bq hb; exact mv_peo56 hd hp
            · cases hp
          · rcases mv_cE hp with ⟨hb, hp⟩ | ⟨hb, hp⟩
            · obtain rfl := mv_bq hb; exact mv_peo71 hd hp
            · cases hp
    · rcases mv_cE hp with ⟨hb, hp⟩ | ⟨hb, hp⟩
      · rcases mv_cE hp with ⟨hb, hp⟩ | ⟨hb, hp⟩
        · rcases mv_cE hp with ⟨hb, hp⟩ | ⟨hb, hp⟩
          · rcases mv_cE hp with ⟨hb, hp⟩ | ⟨hb, hp⟩
            · obtain rfl := mv_bq hb; exact mv_peo73 hd hp
            · cases hp
          · rcases mv_cE hp with ⟨hb, hp⟩ | ⟨hb, hp⟩
            · obtain rfl := mv_bq hb; exact mv_peo79 hd hp
            · cases hp
        · rcases mv_cE hp with ⟨hb, hp⟩ | ⟨hb, hp⟩
          · rcases mv_cE hp with ⟨hb, hp⟩ | ⟨hb, hp⟩
            · obtain rfl := mv_bq hb; exact mv_peo102 hd hp
            · cases hp
          · rcases mv_cE hp with ⟨hb, hp⟩ | ⟨hb, hp⟩
            · obtain rfl := mv_bq hb; exact mv_peo119 hd hp
            · cases hp
      · rcases mv_cE hp with ⟨hb, hp⟩ | ⟨hb, hp⟩
        · rcases mv_cE hp with ⟨hb, hp⟩ | ⟨hb, hp⟩
          · rcases mv_cE hp with ⟨hb, hp⟩ | ⟨hb, hp⟩
            · obtain rfl := mv_bq hb; exact mv_peo128 hd hp
            · cases hp
          · rcases mv_cE hp with ⟨hb, hp⟩ | ⟨hb, hp⟩
            · obtain rfl := mv_bq hb; exact mv_peo133 hd hp
            · cases hp
        · rcases mv_cE hp with ⟨hb, hp⟩ | ⟨hb, hp⟩
          · rcases mv_cE hp with ⟨hb, hp⟩ | ⟨hb, hp⟩
            · obtain rfl := mv_bq hb; exact mv_peo135 hd hp
            · cases hp
          · rcases mv_cE hp with ⟨hb, hp⟩ | ⟨hb, hp⟩
            · obtain rfl := mv_bq hb; exact mv_peo148 hd hp
            · cases hp
  · rcases mv_cE hp with ⟨hb, hp⟩ | ⟨hb, hp⟩
    · rcases mv_cE hp with ⟨hb, hp⟩ | ⟨hb, hp⟩
      · rcases mv_cE hp with ⟨hb, hp⟩ | ⟨hb, hp⟩
        · rcases mv_cE hp with ⟨hb, hp⟩ | ⟨hb, hp⟩
          · obtain rfl := mv_bq hb; exact mv_peo167 hd hp
          · cases hp
        · rcases mv_cE hp with ⟨hb, hp⟩ | ⟨hb, hp⟩
          · rcases mv_cE hp with ⟨hb, hp⟩ | ⟨hb, hp⟩
            · obtain rfl := mv_bq hb; exact mv_peo182 hd hp
            · cases hp
          · rcases mv_cE hp with ⟨hb, hp⟩ | ⟨hb, hp⟩
            · obtain rfl := mv_bq hb; exact mv_peo185 hd hp
            · cases hp
      · rcases mv_cE hp with ⟨hb, hp⟩ | ⟨hb, hp⟩
        · rcases mv_cE hp with ⟨hb, hp⟩ | ⟨hb, hp⟩
          · rcases mv_cE hp with ⟨hb, hp⟩ | ⟨hb, hp⟩
            · obtain rfl := mv_bq hb; exact mv_peo187 hd hp
            · cases hp
          · rcases mv_cE hp with ⟨hb, hp⟩ | ⟨hb, hp⟩
            · obtain rfl := mv_bq hb; exact mv_peo189 hd hp
            · cases hp
        · rcases mv_cE hp with ⟨hb, hp⟩ | ⟨hb, hp⟩
          · rcases mv_cE hp with ⟨hb, hp⟩ | ⟨hb, hp⟩
            · obtain rfl := mv_bq hb; exact mv_peo207 hd hp
            · cases hp
          · rcases mv_cE hp with ⟨hb, hp⟩ | ⟨hb, hp⟩
            · obtain rfl := mv_bq hb; exact mv_peo210 hd hp
            · cases hp
    · rcases mv_cE hp with ⟨hb, hp⟩ | ⟨hb, hp⟩
      · rcases mv_cE hp with ⟨hb, hp⟩ | ⟨hb, hp⟩
        · rcases mv_cE hp with ⟨hb, hp⟩ | ⟨hb, hp⟩
          · rcases mv_cE hp with ⟨hb, hp⟩ | ⟨hb, hp⟩
            · obtain rfl := mv_bq hb; exact mv_peo213 hd hp
            · cases hp
          · rcases mv_cE hp with ⟨hb, hp⟩ | ⟨hb, hp⟩
            · obtain rfl := mv_bq hb; exact mv_peo216 hd hp
            · cases hp
        · rcases mv_cE hp with ⟨hb, hp⟩ | ⟨hb, hp⟩
          · rcases mv_cE hp with ⟨hb, hp⟩ | ⟨hb, hp⟩
            · obtain rfl := mv_bq hb; exact mv_peo218 hd hp
            · cases hp
          · rcases mv_cE hp with ⟨hb, hp⟩ | ⟨hb, hp⟩
            · obtain rfl := mv_bq hb; exact mv_peo219 hd hp
            · cases hp
      · rcases mv_cE hp with ⟨hb, hp⟩ | ⟨hb, hp⟩
        · rcases mv_cE hp with ⟨hb, hp⟩ | ⟨hb, hp⟩
          · rcases mv_cE hp with ⟨hb, hp⟩ | ⟨hb, hp⟩
            · obtain rfl := mv_bq hb; exact mv_peo224 hd hp
            · cases hp
          · rcases mv_cE hp with ⟨hb, hp⟩ | ⟨hb, hp⟩
            · obtain rfl := mv_bq hb; exact mv_peo292 hd hp
            · cases hp
        · rcases mv_cE hp with ⟨hb, hp⟩ | ⟨hb, hp⟩
          · rcases mv_cE hp with ⟨hb, hp⟩ | ⟨hb, hp⟩
            · obtain rfl := mv_bq hb; exact mv_peo305 hd hp
            · cases hp
          · rcases mv_cE hp with ⟨hb, hp⟩ | ⟨hb, hp⟩
            · obtain rfl := mv_bq hb; exact mv_peo306 hd hp
            · cases hp
theorem mp_2s {E : mv_E} {D k n m pc : Nat} {ls : List (Option Value)} {st : List Value} {h : mv_H} {Q : mv_Q} (R : mv_OT → Prop) (f : Nat) (hm : m < 324) (HR : ∀ O, R O → mv_wq O (mv_S (mv_sl E)) (mv_V E (mv_S (mv_sl E))) mp_2 mv_ml mv_al (mv_ql m) (mv_lv m) D m Q f k n pc ls st h) (H : R mv_O) : mv_VE E D k n m pc ls st h Q := mv_soundq mp_2ok mv_al (mv_lv m) hm f k n pc ls st h (HR mv_O H)
-- RaftHoldModel.whyTurn
def pf233 (h : mv_H) (x1 : Int64) (x3 : Int32) : Int32 := cond (pf210 h x1) (cond (pf213 ((mv_I h 149 65).toInt64) x1.toInt32) (if 1 = x3 then 2 else 0) (if 0 = x3 then 2 else 0)) (1)
set_option maxHeartbeats 20000000 in
set_option maxRecDepth 100000 in
theorem sg233_0 {E : mv_E} {D k n : Nat} (x1 : Int64) (x3 : Int32) {h : mv_H} {Q : mv_Q} (H : cond (pf210 h x1) (cond (pf213 ((mv_I h 149 65).toInt64) x1.toInt32) (if 1 = x3 then (Q (some (.int 2)) h) else (Q (some (.int 0)) h)) (if 0 = x3 then (Q (some (.int 2)) h) else (Q (some (.int 0)) h))) (Q (some (.int 1)) h)) : mv_VE E (D + 2) k n 233 0 [some (.ref 148), some (.long x1), none, some (.int x3)] [] h Q := mp_2s (fun O => cond (pf210 h x1) (cond (pf213 (O.2.2.1 (mv_I h 149 65)) (O.2.2.2.1 x1)) (if 1 = x3 then (Q (some (.int 2)) h) else (Q (some (.int 0)) h)) (if 0 = x3 then (Q (some (.int 2)) h) else (Q (some (.int 0)) h))) (Q (some (.int 1)) h)) 60 (by decide) (fun _ q => q) H
theorem cp233 {E : mv_E} {D k n : Nat} (x1 : Int64) (x3 : Int32) {h : mv_H} {Q : mv_Q} (H : Q (some (.int (pf233 h x1 x3))) h) : mv_VE E (D + 2) k n 233 0 [some (.ref 148), some (.long x1), none, some (.int x3)] [] h Q := sg233_0 x1 x3 ((mv_cnd (f := fun z => Q (some (.int (z))) h) (mv_cnd (f := fun z => Q (some (.int (z))) h) (mv_ite (f := fun z => Q (some (.int (z))) h) (fun q => q) (fun q => q)) (mv_ite (f := fun z => Q (some (.int (z))) h) (fun q => q) (fun q => q))) (fun q => q)) H)
def mv_pe233 (av : List Value) (h : mv_H) : Option (Nat × (Bool ⊕ Int32)) := match av with
  | [.ref a, .long x1, .int x3] => cond (Nat.beq a 148) (some (2, .inr (pf233 h x1 x3))) none
  | _ => none
theorem mv_peo233 {E : mv_E} {D d : Nat} {av : List Value} {h : mv_H} {r : Bool ⊕ Int32} (hd : d ≤ D) (hp : mv_pe233 av h = some (d, r)) : mv_V E (mv_S (mv_sl E)) D 0 0 233 0 (mv_ent (mv_ml 233) av) [] h (fun v h' => h' = h ∧ v = some (.int (match (generalizing := false) r with | .inl b => cond b 1 0 | .inr x => x))) := by
  unfold mv_pe233 at hp
  split at hp
  · rcases mv_cE hp with ⟨hb, hp⟩ | ⟨hb, hp⟩
    · cases hp
      obtain rfl := mv_bq hb
      obtain ⟨D, rfl⟩ : ∃ q, D = q + 2 := ⟨D - 2, by omega⟩
      exact cp233 (D := D) _ _ ⟨rfl, rfl⟩
    · cases hp
  · cases hp
-- RaftHoldModel.areTwo
def pf258 (h : mv_H) (x1 : Int32) (x2 : Int32) : Bool := cond (pf210 h x1.toInt64) (cond (pf210 h x2.toInt64) (if x1 = x2 then false else true) (false)) (false)
set_option maxHeartbeats 20000000 in
set_option maxRecDepth 100000 in
theorem sg258_0 {E : mv_E} {D k n : Nat} (x1 : Int32) (x2 : Int32) {h : mv_H} {Q : mv_Q} (H : cond (pf210 h x1.toInt64) (cond (pf210 h x2.toInt64) (if x1 = x2 then (Q (some (.int 0)) h) else (Q (some (.int 1)) h)) (Q (some (.int 0)) h)) (Q (some (.int 0)) h)) : mv_VE E (D + 2) k n 258 0 [some (.ref 148), some (.int x1), some (.int x2)] [] h Q := mp_2s (fun O => cond (pf210 h (O.2.2.1 x1)) (cond (pf210 h (O.2.2.1 x2)) (if x1 = x2 then (Q (some (.int 0)) h) else (Q (some (.int 1)) h)) (Q (some (.int 0)) h)) (Q (some (.int 0)) h)) 60 (by decide) (fun _ q => q) H
theorem cp258 {E : mv_E} {D k n : Nat} (x1 : Int32) (x2 : Int32) {h : mv_H} {Q : mv_Q} (H : Q (some (.int (cond (pf258 h x1 x2) 1 0))) h) : mv_VE E (D + 2) k n 258 0 [some (.ref 148), some (.int x1), some (.int x2)] [] h Q := sg258_0 x1 x2 ((mv_cnd (f := fun z => Q (some (.int (cond z 1 0))) h) (mv_cnd (f := fun z => Q (some (.int (cond z 1 0))) h) (mv_ite (f := fun z => Q (some (.int (cond z 1 0))) h) (fun q => q) (fun q => q)) (fun q => q)) (fun q => q)) H)
def mv_pe258 (av : List Value) (h : mv_H) : Option (Nat × (Bool ⊕ Int32)) := match av with
  | [.ref a, .int x1, .int x2] => cond (Nat.beq a 148) (some (2, .inl (pf258 h x1 x2))) none
  | _ => none
theorem mv_peo258 {E : mv_E} {D d : Nat} {av : List Value} {h : mv_H} {r : Bool ⊕ Int32} (hd : d ≤ D) (hp : mv_pe258 av h = some (d, r)) : mv_V E (mv_S (mv_sl E)) D 0 0 258 0 (mv_ent (mv_ml 258) av) [] h (fun v h' => h' = h ∧ v = some (.int (match (generalizing := false) r with | .inl b => cond b 1 0 | .inr x => x))) := by
  unfold mv_pe258 at hp
  split at hp
  · rcases mv_cE hp with ⟨hb, hp⟩ | ⟨hb, hp⟩
    · cases hp
      obtain rfl := mv_bq hb
      obtain ⟨D, rfl⟩ : ∃ q, D = q + 2 := ⟨D - 2, by omega⟩
      exact cp258 (D := D) _ _ ⟨rfl, rfl⟩
    · cases hp
  · cases hp
def mp_3 : mv_PT := fun m av h => (cond (Nat.ble m 167) (cond (Nat.ble m 73) (cond (Nat.ble m 45) (cond (Nat.ble m 7) (cond (Nat.ble m 4) (cond (Nat.beq m 4) (mv_pe4 av h) none) (cond (Nat.beq m 7) (mv_pe7 av h) none)) (cond (Nat.ble m 11) (cond (Nat.beq m 11) (mv_pe11 av h) none) (cond (Nat.beq m 45) (mv_pe45 av h) none))) (cond (Nat.ble m 56) (cond (Nat.ble m 55) (cond (Nat.beq m 55) (mv_pe55 av h) none) (cond (Nat.beq m 56) (mv_pe56 av h) none)) (cond (Nat.ble m 71) (cond (Nat.beq m 71) (mv_pe71 av h) none) (cond (Nat.beq m 73) (mv_pe73 av h) none)))) (cond (Nat.ble m 128) (cond (Nat.ble m 102) (cond (Nat.ble m 79) (cond (Nat.beq m 79) (mv_pe79 av h) none) (cond (Nat.beq m 102) (mv_pe102 av h) none)) (cond (Nat.ble m 119) (cond (Nat.beq m 119) (mv_pe119 av h) none) (cond (Nat.beq m 128) (mv_pe128 av h) none))) (cond (Nat.ble m 135) (cond (Nat.ble m 133) (cond (Nat.beq m 133) (mv_pe133 av h) none) (cond (Nat.beq m 135) (mv_pe135 av h) none)) (cond (Nat.ble m 148) (cond (Nat.beq m 148) (mv_pe148 av h) none) (cond (Nat.beq m 167) (mv_pe167 av h) none))))) (cond (Nat.ble m 216) (cond (Nat.ble m 189) (cond (Nat.ble m 185) (cond (Nat.ble m 182) (cond (Nat.beq m 182) (mv_pe182 av h) none) (cond (Nat.beq m 185) (mv_pe185 av h) none)) (cond (Nat.ble m 187) (cond (Nat.beq m 187) (mv_pe187 av h) none) (cond (Nat.beq m 189) (mv_pe189 av h) none))) (cond (Nat.ble m 210) (cond (Nat.ble m 207) (cond (Nat.beq m 207) (mv_pe207 av h) none) (cond (Nat.beq m 210) (mv_pe210 av h) none)) (cond (Nat.ble m 213) (cond (Nat.beq m 213) (mv_pe213 av h) none) (cond (Nat.beq m 216) (mv_pe216 av h) none)))) (cond (Nat.ble m 233) (cond (Nat.ble m 219) (cond (Nat.ble m 218) (cond (Nat.beq m 218) (mv_pe218 av h) none) (cond (Nat.beq m 219) (mv_pe219 av h) none)) (cond (Nat.ble m 224) (cond (Nat.beq m 224) (mv_pe224 av h) none) (cond (Nat.beq m 233) (mv_pe233 av h) none))) (cond (Nat.ble m 292) (cond (Nat.ble m 258) (cond (Nat.beq m 258) (mv_pe258 av h) none) (cond (Nat.beq m 292) (mv_pe292 av h) none)) (cond (Nat.ble m 305) (cond (Nat.beq m 305) (mv_pe305 av h) none) (cond (Nat.beq m 306) (mv_pe306 av h) none))))))
theorem mp_3ok {E : mv_E} : mv_Pok E (mv_S (mv_sl E)) mp_3 := by
  intro D m av h d r hd hp
  unfold mp_3 at hp
  rcases mv_cE hp with ⟨hb, hp⟩ | ⟨hb, hp⟩
  · rcases mv_cE hp with ⟨hb, hp⟩ | ⟨hb, hp⟩
    · rcases mv_cE hp with ⟨hb, hp⟩ | ⟨hb, hp⟩
      · rcases mv_cE hp with ⟨hb, hp⟩ | ⟨hb, hp⟩
        · rcases mv_cE hp with ⟨hb, hp⟩ | ⟨hb, hp⟩
          · rcases mv_cE hp with ⟨hb, hp⟩ | ⟨hb, hp⟩
            · obtain rfl := mv_bq hb; exact mv_peo4 hd hp
            · cases hp
          · rcases mv_cE hp with ⟨hb, hp⟩ | ⟨hb, hp⟩
            · obtain rfl := mv_bq hb; exact mv_peo7 hd hp
            · cases hp
        · rcases mv_cE hp with ⟨hb, hp⟩ | ⟨hb, hp⟩
          · rcases mv_cE hp with ⟨hb, hp⟩ | ⟨hb, hp⟩
            · obtain rfl := mv_bq hb; exact mv_peo11 hd hp
            · cases hp
          · rcases mv_cE hp with ⟨hb, hp⟩ | ⟨hb, hp⟩
            · obtain rfl := mv_bq hb; exact mv_peo45 hd hp
            · cases hp
      · rcases mv_cE hp with ⟨hb, hp⟩ | ⟨hb, hp⟩
        · rcases mv_cE hp with ⟨hb, hp⟩ | ⟨hb, hp⟩
          · rcases mv_cE hp with ⟨hb, hp⟩ | ⟨hb, hp⟩
            · obtain rfl := mv_bq hb; exact mv_peo55 hd hp
            · cases hp
          · rcases mv_cE hp with ⟨hb, hp⟩ | ⟨hb, hp⟩
            · obtain rfl := mv_bq hb; exact mv_peo56 hd hp
            · cases hp
        · rcases mv_cE hp with ⟨hb, hp⟩ | ⟨hb, hp⟩
          · rcases mv_cE hp with ⟨hb, hp⟩ | ⟨hb, hp⟩
            · obtain rfl := mv_bq hb; exact mv_peo71 hd hp
            · cases hp
          · rcases mv_cE hp with ⟨hb, hp⟩ | ⟨hb, hp⟩
            · obtain rfl := mv_bq hb; exact mv_peo73 hd hp
            · cases hp
    · rcases mv_cE hp with ⟨hb, hp⟩ | ⟨hb, hp⟩
      · rcases mv_cE hp with ⟨hb, hp⟩ | ⟨hb, hp⟩
        · rcases mv_cE hp with ⟨hb, hp⟩ | ⟨hb, hp⟩
          · rcases mv_cE hp with ⟨hb, hp⟩ | ⟨hb, hp⟩
            · obtain rfl := mv_bq hb; exact mv_peo79 hd hp
            · cases hp
          · rcases mv_cE hp with ⟨hb, hp⟩ | ⟨hb, hp⟩
            · obtain rfl := mv_bq hb; exact mv_peo102 hd hp
            · cases hp
        · rcases mv_cE hp with ⟨hb, hp⟩ | ⟨hb, hp⟩
          · rcases mv_cE hp with ⟨hb, hp⟩ | ⟨hb, hp⟩
            · obtain rfl := mv_bq hb; exact mv_peo119 hd hp
            · cases hp
          · rcases mv_cE hp with ⟨hb, hp⟩ | ⟨hb, hp⟩
            · obtain rfl := mv_bq hb; exact mv_peo128 hd hp
            · cases hp
      · rcases mv_cE hp with ⟨hb, hp⟩ | ⟨hb, hp⟩
        · rcases mv_cE hp with ⟨hb, hp⟩ | ⟨hb, hp⟩
          · rcases mv_cE hp with ⟨hb, hp⟩ | ⟨hb, hp⟩
            · obtain rfl := mv_bq hb; exact mv_peo133 hd hp
            · cases hp
          · rcases mv_cE hp with ⟨hb, hp⟩ | ⟨hb, hp⟩
            · obtain rfl := mv_bq hb; exact mv_peo135 hd hp
            · cases hp
        · rcases mv_cE hp with ⟨hb, hp⟩ | ⟨hb, hp⟩
          · rcases mv_cE hp with ⟨hb, hp⟩ | ⟨hb, hp⟩
            · obtain rfl := mv_bq hb; exact mv_peo148 hd hp
            · cases hp
          · rcases mv_cE hp with ⟨hb, hp⟩ | ⟨hb, hp⟩
            · obtain rfl := mv_bq hb; exact mv_peo167 hd hp
            · cases hp
  · rcases mv_cE hp with ⟨hb, hp⟩ | ⟨hb, hp⟩
    · rcases mv_cE hp with ⟨hb, hp⟩ | ⟨hb, hp⟩
      · rcases mv_cE hp with ⟨hb, hp⟩ | ⟨hb, hp⟩
        · rcases mv_cE hp with ⟨hb, hp⟩ | ⟨hb, hp⟩
          · rcases mv_cE hp with ⟨hb, hp⟩ | ⟨hb, hp⟩
            · obtain rfl := mv_bq hb; exact mv_peo182 hd hp
            · cases hp
          · rcases mv_cE hp with ⟨hb, hp⟩ | ⟨hb, hp⟩
            · obtain rfl := mv_bq hb; exact mv_peo185 hd hp
            · cases hp
        · rcases mv_cE hp with ⟨hb, hp⟩ | ⟨hb, hp⟩
          · rcases mv_cE hp with ⟨hb, hp⟩ | ⟨hb, hp⟩
            · obtain rfl := mv_bq hb; exact mv_peo187 hd hp
            · cases hp
          · rcases mv_cE hp with ⟨hb, hp⟩ | ⟨hb, hp⟩
            · obtain rfl := mv_bq hb; exact mv_peo189 hd hp
            · cases hp
      · rcases mv_cE hp with ⟨hb, hp⟩ | ⟨hb, hp⟩
        · rcases mv_cE hp with ⟨hb, hp⟩ | ⟨hb, hp⟩
          · rcases mv_cE hp with ⟨hb, hp⟩ | ⟨hb, hp⟩
            · obtain rfl := mv_bq hb; exact mv_peo207 hd hp
            · cases hp
          · rcases mv_cE hp with ⟨hb, hp⟩ | ⟨hb, hp⟩
            · obtain rfl := mv_bq hb; exact mv_peo210 hd hp
            · cases hp
        · rcases mv_cE hp with ⟨hb, hp⟩ | ⟨hb, hp⟩
          · rcases mv_cE hp with ⟨hb, hp⟩ | ⟨hb, hp⟩
            · obtain rfl := mv_bq hb; exact mv_peo213 hd hp
            · cases hp
          · rcases mv_cE hp with ⟨hb, hp⟩ | ⟨hb, hp⟩
            · obtain rfl := mv_bq hb; exact mv_peo216 hd hp
            · cases hp
    · rcases mv_cE hp with ⟨hb, hp⟩ | ⟨hb, hp⟩
      · rcases mv_cE hp with ⟨hb, hp⟩ | ⟨hb, hp⟩
        · rcases mv_cE hp with ⟨hb, hp⟩ | ⟨hb, hp⟩
          · rcases mv_cE hp with ⟨hb, hp⟩ | ⟨hb, hp⟩
            · obtain rfl := mv_bq hb; exact mv_peo218 hd hp
            · cases hp
          · rcases mv_cE hp with ⟨hb, hp⟩ | ⟨hb, hp⟩
            · obtain rfl := mv_bq hb; exact mv_peo219 hd hp
            · cases hp
        · rcases mv_cE hp with ⟨hb, hp⟩ | ⟨hb, hp⟩
          · rcases mv_cE hp with ⟨hb, hp⟩ | ⟨hb, hp⟩
            · obtain rfl := mv_bq hb; exact mv_peo224 hd hp
            · cases hp
          · rcases mv_cE hp with ⟨hb, hp⟩ | ⟨hb, hp⟩
            · obtain rfl := mv_bq hb; exact mv_peo233 hd hp
            · cases hp
      · rcases mv_cE hp with ⟨hb, hp⟩ | ⟨hb, hp⟩
        · rcases mv_cE hp with ⟨hb, hp⟩ | ⟨hb, hp⟩
          · rcases mv_cE hp with ⟨hb, hp⟩ | ⟨hb, hp⟩
            · obtain rfl := mv_bq hb; exact mv_peo258 hd hp
            · cases hp
          · rcases mv_cE hp with ⟨hb, hp⟩ | ⟨hb, hp⟩
            · obtain rfl := mv_bq hb; exact mv_peo292 hd hp
            · cases hp
        · rcases mv_cE hp with ⟨hb, hp⟩ | ⟨hb, hp⟩
          · rcases mv_cE hp with ⟨hb, hp⟩ | ⟨hb, hp⟩
            · obtain rfl := mv_bq hb; exact mv_peo305 hd hp
            · cases hp
          · rcases mv_cE hp with ⟨hb, hp⟩ | ⟨hb, hp⟩
            · obtain rfl := mv_bq hb; exact mv_peo306 hd hp
            · cases hp
theorem mp_3s {E : mv_E} {D k n m pc : Nat} {ls : List (Option Value)} {st : List Value} {h : mv_H} {Q : mv_Q} (R : mv_OT → Prop) (f : Nat) (hm : m < 324) (HR : ∀ O, R O → mv_wq O (mv_S (mv_sl E)) (mv_V E (mv_S (mv_sl E))) mp_3 mv_ml mv_al (mv_ql m) (mv_lv m) D m Q f k n pc ls st h) (H : R mv_O) : mv_VE E D k n m pc ls st h Q := mv_soundq mp_3ok mv_al (mv_lv m) hm f k n pc ls st h (HR mv_O H)
-- RaftHoldModel.whyNot
def pf241 (h : mv_H) (x1 : Int64) : Int32 := if lg_cmp x1 0 = 0 then 0 else cond (pf182 x1 30 39) (0) (cond (pf182 x1 10 29) (if lg_cmp x1 20 < 0 then pf233 h (x1 - x1 / 10 * 10) 0 else pf233 h (x1 - x1 / 10 * 10) 1) (cond (pf182 x1 100 199) (cond (pf210 h ((x1 - 100) / 10)) (0) (1)) (1)))
set_option maxHeartbeats 20000000 in
set_option maxRecDepth 100000 in
theorem sg241_0 {E : mv_E} {D k n : Nat} (x1 : Int64) {h : mv_H} {Q : mv_Q} (H : if lg_cmp x1 0 = 0 then (Q (some (.int 0)) h) else (cond (pf182 x1 30 39) (Q (some (.int 0)) h) (cond (pf182 x1 10 29) (if lg_cmp x1 20 < 0 then (Q (some (.int (pf233 h (x1 - x1 / 10 * 10) 0))) h) else (Q (some (.int (pf233 h (x1 - x1 / 10 * 10) 1))) h)) (cond (pf182 x1 100 199) (cond (pf210 h ((x1 - 100) / 10)) (Q (some (.int 0)) h) (Q (some (.int 1)) h)) (Q (some (.int 1)) h))))) : mv_VE E (D + 3) k n 241 0 [some (.ref 148), some (.long x1), none] [] h Q := mp_3s (fun O => if O.2.2.2.2 x1 0 = 0 then (Q (some (.int 0)) h) else (cond (pf182 x1 30 39) (Q (some (.int 0)) h) (cond (pf182 x1 10 29) (if O.2.2.2.2 x1 20 < 0 then (Q (some (.int (pf233 h (O.2.1 6 x1 10) 0))) h) else (Q (some (.int (pf233 h (O.2.1 6 x1 10) 1))) h)) (cond (pf182 x1 100 199) (cond (pf210 h (O.2.1 5 (O.2.1 1 x1 100) 10)) (Q (some (.int 0)) h) (Q (some (.int 1)) h)) (Q (some (.int 1)) h))))) 60 (by decide) (fun _ q => q) H
theorem cp241 {E : mv_E} {D k n : Nat} (x1 : Int64) {h : mv_H} {Q : mv_Q} (H : Q (some (.int (pf241 h x1))) h) : mv_VE E (D + 3) k n 241 0 [some (.ref 148), some (.long x1), none] [] h Q := sg241_0 x1 ((mv_ite (f := fun z => Q (some (.int (z))) h) (fun q => q) (mv_cnd (f := fun z => Q (some (.int (z))) h) (fun q => q) (mv_cnd (f := fun z => Q (some (.int (z))) h) (mv_ite (f := fun z => Q (some (.int (z))) h) (fun q => q) (fun q => q)) (mv_cnd (f := fun z => Q (some (.int (z))) h) (mv_cnd (f := fun z => Q (some (.int (z))) h) (fun q => q) (fun q => q)) (fun q => q))))) H)
def mv_pe241 (av : List Value) (h : mv_H) : Option (Nat × (Bool ⊕ Int32)) := match av with
  | [.ref a, .long x1] => cond (Nat.beq a 148) (some (3, .inr (pf241 h x1))) none
  | _ => none
theorem mv_peo241 {E : mv_E} {D d : Nat} {av : List Value} {h : mv_H} {r : Bool ⊕ Int32} (hd : d ≤ D) (hp : mv_pe241 av h = some (d, r)) : mv_V E (mv_S (mv_sl E)) D 0 0 241 0 (mv_ent (mv_ml 241) av) [] h (fun v h' => h' = h ∧ v = some (.int (match (generalizing := false) r with | .inl b => cond b 1 0 | .inr x => x))) := by
  unfold mv_pe241 at hp
  split at hp
  · rcases mv_cE hp with ⟨hb, hp⟩ | ⟨hb, hp⟩
    · cases hp
      obtain rfl := mv_bq hb
      obtain ⟨D, rfl⟩ : ∃ q, D = q + 3 := ⟨D - 3, by omega⟩
      exact cp241 (D := D) _ ⟨rfl, rfl⟩
    · cases hp
  · cases hp
def mp_4 : mv_PT := fun m av h => (cond (Nat.ble m 167) (cond (Nat.ble m 73) (cond (Nat.ble m 45) (cond (Nat.ble m 7) (cond (Nat.ble m 4) (cond (Nat.beq m 4) (mv_pe4 av h) none) (cond (Nat.beq m 7) (mv_pe7 av h) none)) (cond (Nat.ble m 11) (cond (Nat.beq m 11) (mv_pe11 av h) none) (cond (Nat.beq m 45) (mv_pe45 av h) none))) (cond (Nat.ble m 56) (cond (Nat.ble m 55) (cond (Nat.beq m 55) (mv_pe55 av h) none) (cond (Nat.beq m 56) (mv_pe56 av h) none)) (cond (Nat.ble m 71) (cond (Nat.beq m 71) (mv_pe71 av h) none) (cond (Nat.beq m 73) (mv_pe73 av h) none)))) (cond (Nat.ble m 128) (cond (Nat.ble m 102) (cond (Nat.ble m 79) (cond (Nat.beq m 79) (mv_pe79 av h) none) (cond (Nat.beq m 102) (mv_pe102 av h) none)) (cond (Nat.ble m 119) (cond (Nat.beq m 119) (mv_pe119 av h) none) (cond (Nat.beq m 128) (mv_pe128 av h) none))) (cond (Nat.ble m 135) (cond (Nat.ble m 133) (cond (Nat.beq m 133) (mv_pe133 av h) none) (cond (Nat.beq m 135) (mv_pe135 av h) none)) (cond (Nat.ble m 148) (cond (Nat.beq m 148) (mv_pe148 av h) none) (cond (Nat.beq m 167) (mv_pe167 av h) none))))) (cond (Nat.ble m 216) (cond (Nat.ble m 189) (cond (Nat.ble m 185) (cond (Nat.ble m 182) (cond (Nat.beq m 182) (mv_pe182 av h) none) (cond (Nat.beq m 185) (mv_pe185 av h) none)) (cond (Nat.ble m 187) (cond (Nat.beq m 187) (mv_pe187 av h) none) (cond (Nat.beq m 189) (mv_pe189 av h) none))) (cond (Nat.ble m 210) (cond (Nat.ble m 207) (cond (Nat.beq m 207) (mv_pe207 av h) none) (cond (Nat.beq m 210) (mv_pe210 av h) none)) (cond (Nat.ble m 213) (cond (Nat.beq m 213) (mv_pe213 av h) none) (cond (Nat.beq m 216) (mv_pe216 av h) none)))) (cond (Nat.ble m 233) (cond (Nat.ble m 219) (cond (Nat.ble m 218) (cond (Nat.beq m 218) (mv_pe218 av h) none) (cond (Nat.beq m 219) (mv_pe219 av h) none)) (cond (Nat.ble m 224) (cond (Nat.beq m 224) (mv_pe224 av h) none) (cond (Nat.beq m 233) (mv_pe233 av h) none))) (cond (Nat.ble m 258) (cond (Nat.ble m 241) (cond (Nat.beq m 241) (mv_pe241 av h) none) (cond (Nat.beq m 258) (mv_pe258 av h) none)) (cond (Nat.ble m 292) (cond (Nat.beq m 292) (mv_pe292 av h) none) (cond (Nat.ble m 305) (cond (Nat.beq m 305) (mv_pe305 av h) none) (cond (Nat.beq m 306) (mv_pe306 av h) none)))))))
theorem mp_4ok {E : mv_E} : mv_Pok E (mv_S (mv_sl E)) mp_4 := by
  intro D m av h d r hd hp
  unfold mp_4 at hp
  rcases mv_cE hp with ⟨hb, hp⟩ | ⟨hb, hp⟩
  · rcases mv_cE hp with ⟨hb, hp⟩ | ⟨hb, hp⟩
    · rcases mv_cE hp with ⟨hb, hp⟩ | ⟨hb, hp⟩
      · rcases mv_cE hp with ⟨hb, hp⟩ | ⟨hb, hp⟩
        · rcases mv_cE hp with ⟨hb, hp⟩ | ⟨hb, hp⟩
          · rcases mv_cE hp with ⟨hb, hp⟩ | ⟨hb, hp⟩
            · obtain rfl := mv_bq hb; exact mv_peo4 hd hp
            · cases hp
          · rcases mv_cE hp with ⟨hb, hp⟩ | ⟨hb, hp⟩
            · obtain rfl := mv_bq hb; exact mv_peo7 hd hp
            · cases hp
        · rcases mv_cE hp with ⟨hb, hp⟩ | ⟨hb, hp⟩
          · rcases mv_cE hp with ⟨hb, hp⟩ | ⟨hb, hp⟩
            · obtain rfl := mv_bq hb; exact mv_peo11 hd hp
            · cases hp
          · rcases mv_cE hp with ⟨hb, hp⟩ | ⟨hb, hp⟩
            · obtain rfl := mv_bq hb; exact mv_peo45 hd hp
            · cases hp
      · rcases mv_cE hp with ⟨hb, hp⟩ | ⟨hb, hp⟩
        · rcases mv_cE hp with ⟨hb, hp⟩ | ⟨hb, hp⟩
          · rcases mv_cE hp with ⟨hb, hp⟩ | ⟨hb, hp⟩
            · obtain rfl := mv_bq hb; exact mv_peo55 hd hp
            · cases hp
          · rcases mv_cE hp with ⟨hb, hp⟩ | ⟨hb, hp⟩
            · obtain rfl := mv_bq hb; exact mv_peo56 hd hp
            · cases hp
        · rcases mv_cE hp with ⟨hb, hp⟩ | ⟨hb, hp⟩
          · rcases mv_cE hp with ⟨hb, hp⟩ | ⟨hb, hp⟩
            · obtain rfl := mv_bq hb; exact mv_peo71 hd hp
            · cases hp
          · rcases mv_cE hp with ⟨hb, hp⟩ | ⟨hb, hp⟩
            · obtain rfl := mv_bq hb; exact mv_peo73 hd hp
            · cases hp
    · rcases mv_cE hp with ⟨hb, hp⟩ | ⟨hb, hp⟩
      · rcases mv_cE hp with ⟨hb, hp⟩ | ⟨hb, hp⟩
        · rcases mv_cE hp with ⟨hb, hp⟩ | ⟨hb, hp⟩
          · rcases mv_cE hp with ⟨hb, hp⟩ | ⟨hb, hp⟩
            · obtain rfl := mv_bq hb; exact mv_peo79 hd hp
            · cases hp
          · rcases mv_cE hp with ⟨hb, hp⟩ | ⟨hb, hp⟩
            · obtain rfl := mv_bq hb; exact mv_peo102 hd hp
            · cases hp
        · rcases mv_cE hp with ⟨hb, hp⟩ | ⟨hb, hp⟩
          · rcases mv_cE hp with ⟨hb, hp⟩ | ⟨hb, hp⟩
            · obtain rfl := mv_bq hb; exact mv_peo119 hd hp
            · cases hp
          · rcases mv_cE hp with ⟨hb, hp⟩ | ⟨hb, hp⟩
            · obtain rfl := mv_bq hb; exact mv_peo128 hd hp
            · cases hp
      · rcases mv_cE hp with ⟨hb, hp⟩ | ⟨hb, hp⟩
        · rcases mv_cE hp with ⟨hb, hp⟩ | ⟨hb, hp⟩
          · rcases mv_cE hp with ⟨hb, hp⟩ | ⟨hb, hp⟩
            · obtain rfl := mv_bq hb; exact mv_peo133 hd hp
            · cases hp
          · rcases mv_cE hp with ⟨hb, hp⟩ | ⟨hb, hp⟩
            · obtain rfl := mv_bq hb; exact mv_peo135 hd hp
            · cases hp
        · rcases mv_cE hp with ⟨hb, hp⟩ | ⟨hb, hp⟩
          · rcases mv_cE hp with ⟨hb, hp⟩ | ⟨hb, hp⟩
            · obtain rfl := mv_bq hb; exact mv_peo148 hd hp
            · cases hp
          · rcases mv_cE hp with ⟨hb, hp⟩ | ⟨hb, hp⟩
            · obtain rfl := mv_bq hb; exact mv_peo167 hd hp
            · cases hp
  · rcases mv_cE hp with ⟨hb, hp⟩ | ⟨hb, hp⟩
    · rcases mv_cE hp with ⟨hb, hp⟩ | ⟨hb, hp⟩
      · rcases mv_cE hp with ⟨hb, hp⟩ | ⟨hb, hp⟩
        · rcases mv_cE hp with ⟨hb, hp⟩ | ⟨hb, hp⟩
          · rcases mv_cE hp with ⟨hb, hp⟩ | ⟨hb, hp⟩
            · obtain rfl := mv_bq hb; exact mv_peo182 hd hp
            · cases hp
          · rcases mv_cE hp with ⟨hb, hp⟩ | ⟨hb, hp⟩
            · obtain rfl := mv_bq hb; exact mv_peo185 hd hp
            · cases hp
        · rcases mv_cE hp with ⟨hb, hp⟩ | ⟨hb, hp⟩
          · rcases mv_cE hp with ⟨hb, hp⟩ | ⟨hb, hp⟩
            · obtain rfl := mv_bq hb; exact mv_peo187 hd hp
            · cases hp
          · rcases mv_cE hp with ⟨hb, hp⟩ | ⟨hb, hp⟩
            · obtain rfl := mv_bq hb; exact mv_peo189 hd hp
            · cases hp
      · rcases mv_cE hp with ⟨hb, hp⟩ | ⟨hb, hp⟩
        · rcases mv_cE hp with ⟨hb, hp⟩ | ⟨hb, hp⟩
          · rcases mv_cE hp with ⟨hb, hp⟩ | ⟨hb, hp⟩
            · obtain rfl := mv_bq hb; exact mv_peo207 hd hp
            · cases hp
          · rcases mv_cE hp with ⟨hb, hp⟩ | ⟨hb, hp⟩
            · obtain rfl := mv_bq hb; exact mv_peo210 hd hp
            · cases hp
        · rcases mv_cE hp with ⟨hb, hp⟩ | ⟨hb, hp⟩
          · rcases mv_cE hp with ⟨hb, hp⟩ | ⟨hb, hp⟩
            · obtain rfl := mv_bq hb; exact mv_peo213 hd hp
            · cases hp
          · rcases mv_cE hp with ⟨hb, hp⟩ | ⟨hb, hp⟩
            · obtain rfl := mv_bq hb; exact mv_peo216 hd hp
            · cases hp
    · rcases mv_cE hp with ⟨hb, hp⟩ | ⟨hb, hp⟩
      · rcases mv_cE hp with ⟨hb, hp⟩ | ⟨hb, hp⟩
        · rcases mv_cE hp with ⟨hb, hp⟩ | ⟨hb, hp⟩
          · rcases mv_cE hp with ⟨hb, hp⟩ | ⟨hb, hp⟩
            · obtain rfl := mv_bq hb; exact mv_peo218 hd hp
            · cases hp
          · rcases mv_cE hp with ⟨hb, hp⟩ | ⟨hb, hp⟩
            · obtain rfl := mv_bq hb; exact mv_peo219 hd hp
            · cases hp
        · rcases mv_cE hp with ⟨hb, hp⟩ | ⟨hb, hp⟩
          · rcases mv_cE hp with ⟨hb, hp⟩ | ⟨hb, hp⟩
            · obtain rfl := mv_bq hb; exact mv_peo224 hd hp
            · cases hp
          · rcases mv_cE hp with ⟨hb, hp⟩ | ⟨hb, hp⟩
            · obtain rfl := mv_bq hb; exact mv_peo233 hd hp
            · cases hp
      · rcases mv_cE hp with ⟨hb, hp⟩ | ⟨hb, hp⟩
        · rcases mv_cE hp with ⟨hb, hp⟩ | ⟨hb, hp⟩
          · rcases mv_cE hp with ⟨hb, hp⟩ | ⟨hb, hp⟩
            · obtain rfl := mv_bq hb; exact mv_peo241 hd hp
            · cases hp
          · rcases mv_cE hp with ⟨hb, hp⟩ | ⟨hb, hp⟩
            · obtain rfl := mv_bq hb; exact mv_peo258 hd hp
            · cases hp
        · rcases mv_cE hp with ⟨hb, hp⟩ | ⟨hb, hp⟩
          · rcases mv_cE hp with ⟨hb, hp⟩ | ⟨hb, hp⟩
            · obtain rfl := mv_bq hb; exact mv_peo292 hd hp
            · cases hp
          · rcases mv_cE hp with ⟨hb, hp⟩ | ⟨hb, hp⟩
            · rcases mv_cE hp with ⟨hb, hp⟩ | ⟨hb, hp⟩
              · obtain rfl := mv_bq hb; exact mv_peo305 hd hp
              · cases hp
            · rcases mv_cE hp with ⟨hb, hp⟩ | ⟨hb, hp⟩
              · obtain rfl := mv_bq hb; exact mv_peo306 hd hp
              · cases hp
theorem mp_4s {E : mv_E} {D k n m pc : Nat} {ls : List (Option Value)} {st : List Value} {h : mv_H} {Q : mv_Q} (R : mv_OT → Prop) (f : Nat) (hm : m < 324) (HR : ∀ O, R O → mv_wq O (mv_S (mv_sl E)) (mv_V E (mv_S (mv_sl E))) mp_4 mv_ml mv_al (mv_ql m) (mv_lv m) D m Q f k n pc ls st h) (H : R mv_O) : mv_VE E D k n m pc ls st h Q := mv_soundq mp_4ok mv_al (mv_lv m) hm f k n pc ls st h (HR mv_O H)
/-- the tool of all stretches behind -/
theorem mv_sg {E : mv_E} {D k n m pc : Nat} {ls : List (Option Value)} {st : List Value} {h : mv_H} {Q : mv_Q} (R : mv_OT → Prop) (f : Nat) (hm : m < 324) (HR : ∀ O, R O → mv_wq O (mv_S (mv_sl E)) (mv_V E (mv_S (mv_sl E))) mp_4 mv_ml mv_al (mv_ql m) (mv_lv m) D m Q f k n pc ls st h) (H : R mv_O) : mv_VE E D k n m pc ls st h Q := mp_4s R f hm HR H
