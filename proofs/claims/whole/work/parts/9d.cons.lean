/-! The two constructors: they are run, step by step, over what was done so far. -/
/-- what was done: 0 a cell of kind, length; 1 an int; 2 a reference; 3 the first ints of a row -/
abbrev cO : Type := Nat × Nat × Nat × Nat × Int32
def cfl (h : mv_H) (a n : Nat) (v : Int32) : mv_H := (h.1, h.2.1, mv_row h.2.2.1 a (fun j => if j < n then v else h.2.2.1 a j), h.2.2.2.1, h.2.2.2.2)
def co_ap (o : cO) (h : mv_H) : mv_H := match o.1 with
  | 0 => mv_new h o.2.1 o.2.2.1
  | 1 => mv_sI h o.2.1 o.2.2.1 o.2.2.2.2
  | 2 => mv_sR h o.2.1 o.2.2.1 o.2.2.2.1
  | _ => cfl h o.2.1 o.2.2.1 o.2.2.2.2
def co_h (L : Nat) (xs : Nat → Int32) : List cO → mv_H
  | [] => mv_h0 L xs
  | o :: G => co_ap o (co_h L xs G)
def co_n : List cO → Nat
  | [] => 50
  | o :: G => cond (Nat.beq o.1 0) (co_n G + 1) (co_n G)
def co_K : List cO → Nat → Nat × Nat
  | [], _ => (99, 0)
  | o :: G, a => cond (Nat.beq o.1 0 && Nat.beq a (co_n G)) (o.2.1, o.2.2.1) (co_K G a)
def co_R : List cO → Nat → Nat → Nat
  | [], _, _ => 0
  | o :: G, a, k => cond (Nat.beq o.1 0 && Nat.beq a (co_n G)) 0 (cond (Nat.beq o.1 2 && (Nat.beq a o.2.1 && Nat.beq k o.2.2.1)) o.2.2.2.1 (co_R G a k))
def co_I : List cO → Nat → Nat → Int32
  | [], _, _ => 0
  | o :: G, a, k => cond (Nat.beq o.1 0 && Nat.beq a (co_n G)) 0 (cond (Nat.beq o.1 1 && (Nat.beq a o.2.1 && Nat.beq k o.2.2.1)) o.2.2.2.2 (cond (Nat.ble 3 o.1 && (Nat.beq a o.2.1 && Nat.ble (k + 1) o.2.2.1)) o.2.2.2.2 (co_I G a k)))
theorem co_n50 : ∀ G : List cO, 50 ≤ co_n G
  | [] => Nat.le_refl _
  | o :: G => by
    have := co_n50 G
    show 50 ≤ cond (Nat.beq o.1 0) (co_n G + 1) (co_n G)
    cases Nat.beq o.1 0 with
    | true => exact Nat.le_succ_of_le this
    | false => exact this
/-- each cell, as it was made and written -/
theorem co_eq (L : Nat) (xs : Nat → Int32) : ∀ G : List cO, (co_h L xs G).1 = co_n G ∧ (∀ a, 50 ≤ a → mv_K (co_h L xs G) a = co_K G a ∧ (∀ k, mv_R (co_h L xs G) a k = co_R G a k) ∧ ∀ k, mv_I (co_h L xs G) a k = co_I G a k)
  | [] => by
    refine ⟨rfl, fun a ha => ⟨?_, fun k => ?_, fun k => ?_⟩⟩
    · show mv_KB L a = (99, 0)
      unfold mv_KB
      rw [if_neg (by omega), if_neg (by omega), if_neg (by omega), if_neg (by omega), if_neg (by omega), if_neg (by omega)]
    · show mv_RB a k = 0
      unfold mv_RB
      rw [if_neg (by omega)]
    · show mv_IB xs a k = 0
      unfold mv_IB
      rw [if_neg (by omega), if_neg (by omega), if_neg (by omega), if_neg (by omega)]
  | (t, x, y, b, v) :: G => by
    obtain ⟨n, ih⟩ := co_eq L xs G
    match t with
    | 0 =>
      refine ⟨by show (co_h L xs G).1 + 1 = co_n G + 1; rw [n], fun a ha => ?_⟩
      obtain ⟨i1, i2, i3⟩ := ih a ha
      refine ⟨?_, fun k => ?_, fun k => ?_⟩
      · show cond (Nat.beq a (co_h L xs G).1) (x, y) (mv_K (co_h L xs G) a) = cond (Nat.beq a (co_n G)) (x, y) (co_K G a)
        rw [n, i1]
      · show mv_row (mv_R (co_h L xs G)) (co_h L xs G).1 (fun _ => 0) a k = cond (Nat.beq a (co_n G)) 0 (co_R G a k)
        unfold mv_row
        rw [n, i2]
      · show mv_row (mv_I (co_h L xs G)) (co_h L xs G).1 (fun _ => 0) a k = cond (Nat.beq a (co_n G)) 0 (co_I G a k)
        unfold mv_row
        rw [n, i3]
    | 1 =>
      refine ⟨n, fun a ha => ?_⟩
      obtain ⟨i1, i2, i3⟩ := ih a ha
      refine ⟨i1, i2, fun k => ?_⟩
      show mv_up (mv_I (co_h L xs G)) x y v a k = cond (Nat.beq a x && Nat.beq k y) v (co_I G a k)
      unfold mv_up
      rw [i3]
      cases Nat.beq a x <;> cases Nat.beq k y <;> rfl
    | 2 =>
      refine ⟨n, fun a ha => ?_⟩
      obtain ⟨i1, i2, i3⟩ := ih a ha
      refine ⟨i1, fun k => ?_, i3⟩
      show mv_up (mv_R (co_h L xs G)) x y b a k = cond (Nat.beq a x && Nat.beq k y) b (co_R G a k)
      unfold mv_up
      rw [i2]
      cases Nat.beq a x <;> cases Nat.beq k y <;> rfl
    | t + 3 =>
      refine ⟨n, fun a ha => ?_⟩
      obtain ⟨i1, i2, i3⟩ := ih a ha
      refine ⟨i1, i2, fun k => ?_⟩
      show mv_row (mv_I (co_h L xs G)) x (fun j => if j < y then v else mv_I (co_h L xs G) x j) a k = cond (Nat.ble 3 (t + 3) && (Nat.beq a x && Nat.ble (k + 1) y)) v (co_I G a k)
      rw [Nat.ble_eq_true_of_le (show 3 ≤ t + 3 by omega)]
      unfold mv_row
      by_cases q : a = x
      · subst q
        rw [mv_beq]
        show (if k < y then v else mv_I (co_h L xs G) a k) = cond (Nat.ble (k + 1) y) v (co_I G a k)
        by_cases w : k < y
        · rw [if_pos w, Nat.ble_eq_true_of_le (show k + 1 ≤ y from w)]; rfl
        · have : Nat.ble (k + 1) y = false := by
            cases z : Nat.ble (k + 1) y with
            | false => rfl
            | true => exact absurd (Nat.le_of_ble_eq_true z) (by omega)
          rw [if_neg w, this, i3]; rfl
      · rw [mv_bne q, i3]; rfl
/-- rows that are filled, by the great loops -/
theorem cfl_0 {h : mv_H} {a : Nat} {v : Int32} : cfl h a 0 v = h := by
  have : mv_row h.2.2.1 a (fun j => if j < 0 then v else h.2.2.1 a j) = h.2.2.1 := by
    funext b j
    unfold mv_row
    by_cases q : b = a
    · subst q
      rw [mv_beq]
      show (if j < 0 then v else h.2.2.1 b j) = h.2.2.1 b j
      rw [if_neg (Nat.not_lt_zero j)]
    · rw [mv_bne q]; rfl
  show (h.1, h.2.1, mv_row h.2.2.1 a (fun j => if j < 0 then v else h.2.2.1 a j), h.2.2.2.1, h.2.2.2.2) = h
  rw [this]
theorem cfl_s {h : mv_H} {a n : Nat} {v : Int32} : mv_sI (cfl h a n v) a n v = cfl h a (n + 1) v := by
  have : mv_up (mv_row h.2.2.1 a (fun j => if j < n then v else h.2.2.1 a j)) a n v = mv_row h.2.2.1 a (fun j => if j < n + 1 then v else h.2.2.1 a j) := by
    funext b j
    unfold mv_up mv_row
    by_cases q : b = a
    · subst q
      rw [mv_beq]
      show cond (Nat.beq j n) v (if j < n then v else h.2.2.1 b j) = if j < n + 1 then v else h.2.2.1 b j
      by_cases w : j = n
      · rw [w, mv_beq, if_pos (show n < n + 1 by omega)]; rfl
      · rw [mv_bne w]
        show (if j < n then v else h.2.2.1 b j) = if j < n + 1 then v else h.2.2.1 b j
        by_cases y : j < n
        · rw [if_pos y, if_pos (by omega)]
        · rw [if_neg y, if_neg (by omega)]
    · rw [mv_bne q]; rfl
  show (h.1, h.2.1, mv_up (mv_row h.2.2.1 a (fun j => if j < n then v else h.2.2.1 a j)) a n v, h.2.2.2.1, h.2.2.2.2) = (h.1, h.2.1, mv_row h.2.2.1 a (fun j => if j < n + 1 then v else h.2.2.1 a j), h.2.2.2.1, h.2.2.2.2)
  rw [this]
theorem KT0 {h : mv_H} {a : Nat} : mv_KT mv_T0 h a = mv_K h a := by
  show cond (Nat.ble 0 a) (h.2.1 a) (0, 0) = h.2.1 a
  rw [Nat.ble_eq_true_of_le (Nat.zero_le a)]; rfl
theorem RT0 {h : mv_H} {a k : Nat} : mv_RT mv_T0 h a k = mv_R h a k := by
  unfold mv_RT
  rw [show Nat.ble mv_T0.1 a = true from Nat.ble_eq_true_of_le (Nat.zero_le a)]; rfl
theorem fx0 {a k : Nat} : mv_fx mv_T0 a k = false := by
  unfold mv_fx
  rw [show Nat.ble mv_T0.1 a = true from Nat.ble_eq_true_of_le (Nat.zero_le a)]; rfl
theorem mv_sT {E : mv_E} {D k n m pc : Nat} {ls : List (Option Value)} {st : List Value} {h : mv_H} {Q : mv_Q} (R : mv_OT → Prop) (f : Nat) (hm : m < 324) (HR : ∀ O, R O → mv_wq O mv_T0 (mv_V E mv_T0) mv_P0 mv_ml mv_al (mv_ql m) (mv_lv m) D m Q f k n pc ls st h) (H : R mv_O) : mv_V E mv_T0 D k n m pc ls st h Q := mv_soundq mv_P0ok mv_al (mv_lv m) hm f k n pc ls st h (HR mv_O H)
set_option maxRecDepth 100000 in
theorem st179_0 {E : mv_E} {D k n : Nat} (x0 : Nat) {h : mv_H} {Q : mv_Q} (H : mv_V E mv_T0 D k n 179 2 [some (.ref x0), some (.int 0)] [] h Q) : mv_V E mv_T0 D k n 179 0 [some (.ref x0), none] [] h Q := mv_sT (fun O => mv_V E mv_T0 D k n 179 2 [some (.ref x0), some (.int 0)] [] h Q) 60 (by decide) (fun _ q => q) H
set_option maxRecDepth 100000 in
theorem st179_2 {E : mv_E} {D k n : Nat} (x0 : Nat) (x1 : Int32) {h : mv_H} {Q : mv_Q} (H : if x1 < 1088 then (mv_gd (Nat.beq (mv_KT mv_T0 h x0).1 20 && mv_in x1 ((mv_KT mv_T0 h x0).2)) (mv_V E mv_T0 D k n 179 2 [some (.ref x0), some (.int (x1 + 1))] [] (mv_sI h x0 x1.toNatClampNeg 0) Q)) else (mv_gd (Nat.beq (mv_KT mv_T0 h x0).1 20 && mv_in 2 ((mv_KT mv_T0 h x0).2)) (Q none (mv_sI h x0 2 1)))) : mv_V E mv_T0 D k n 179 2 [some (.ref x0), some (.int x1)] [] h Q := mv_sT (fun O => if x1 < 1088 then (mv_gd (Nat.beq (mv_KT mv_T0 h x0).1 20 && mv_in x1 ((mv_KT mv_T0 h x0).2)) (mv_V E mv_T0 D k n 179 2 [some (.ref x0), some (.int (O.1 0 x1 1))] [] (mv_sI h x0 x1.toNatClampNeg 0) Q)) else (mv_gd (Nat.beq (mv_KT mv_T0 h x0).1 20 && mv_in 2 ((mv_KT mv_T0 h x0).2)) (Q none (mv_sI h x0 2 1)))) 60 (by decide) (fun _ q => q) H
set_option maxRecDepth 100000 in
theorem st320_0 {E : mv_E} {D k n : Nat} (x0 : Nat) (x1 : Int32) {h : mv_H} {Q : mv_Q} (H : mv_gd (Nat.ble 20 (mv_KT mv_T0 h x0).1 && (Nat.ble (mv_KT mv_T0 h x0).1 26 || (Nat.ble 31 (mv_KT mv_T0 h x0).1 && Nat.ble (mv_KT mv_T0 h x0).1 33))) (mv_V E mv_T0 D k n 320 5 [some (.ref x0), some (.int x1), some (.int 0), some (.int (nI (mv_KT mv_T0 h x0).2))] [] h Q)) : mv_V E mv_T0 D k n 320 0 [some (.ref x0), some (.int x1), none, none] [] h Q := mv_sT (fun O => mv_gd (Nat.ble 20 (mv_KT mv_T0 h x0).1 && (Nat.ble (mv_KT mv_T0 h x0).1 26 || (Nat.ble 31 (mv_KT mv_T0 h x0).1 && Nat.ble (mv_KT mv_T0 h x0).1 33))) (mv_V E mv_T0 D k n 320 5 [some (.ref x0), some (.int x1), some (.int 0), some (.int (nI (mv_KT mv_T0 h x0).2))] [] h Q)) 60 (by decide) (fun _ q => q) H
set_option maxRecDepth 100000 in
theorem st320_5 {E : mv_E} {D k n : Nat} (x0 : Nat) (x1 : Int32) (x2 : Int32) (x3 : Int32) {h : mv_H} {Q : mv_Q} (H : if x2 < x3 then (mv_gd (Nat.beq (mv_KT mv_T0 h x0).1 20 && mv_in x2 ((mv_KT mv_T0 h x0).2)) (mv_V E mv_T0 D k n 320 5 [some (.ref x0), some (.int x1), some (.int (x2 + 1)), some (.int x3)] [] (mv_sI h x0 x2.toNatClampNeg x1) Q)) else (Q none h)) : mv_V E mv_T0 D k n 320 5 [some (.ref x0), some (.int x1), some (.int x2), some (.int x3)] [] h Q := mv_sT (fun O => if x2 < x3 then (mv_gd (Nat.beq (mv_KT mv_T0 h x0).1 20 && mv_in x2 ((mv_KT mv_T0 h x0).2)) (mv_V E mv_T0 D k n 320 5 [some (.ref x0), some (.int x1), some (.int (O.1 0 x2 1)), some (.int x3)] [] (mv_sI h x0 x2.toNatClampNeg x1) Q)) else (Q none h)) 60 (by decide) (fun _ q => q) H
theorem cT320 {E : mv_E} {D k n : Nat} {h : mv_H} {Q : mv_Q} {a : Nat} {v : Int32} (L : Nat) (hK : mv_K h a = (20, L)) (hL : L ≤ 10000) (H : Q none (cfl h a L v)) : mv_V E mv_T0 D k n 320 0 [some (.ref a), some (.int v), none, none] [] h Q := by
  apply st320_0
  rw [KT0, hK]
  refine mv_gdI rfl ?_
  have key : ∀ f i, i + f = L → mv_V E mv_T0 D k n 320 5 [some (.ref a), some (.int v), some (.int (nI i)), some (.int (nI L))] [] (cfl h a i v) Q := by
    intro f
    induction f with
    | zero =>
      intro i hi
      have hi : i = L := hi
      subst hi
      apply st320_5
      exact mx_ltF i i (Nat.le_refl _) H (by omega)
    | succ f ih =>
      intro i hi
      apply st320_5
      rw [KT0, show mv_K (cfl h a i v) a = (20, L) from hK, nI_clamp (n := i) (by omega), nI_1]
      refine mx_ltT i L (by omega) (mv_gdI (mx_inT i (by omega) (by omega)) ?_) (by omega)
      have := ih (i + 1) (by omega)
      rw [← cfl_s] at this
      exact this
  have := key L 0 (by omega)
  rw [cfl_0] at this
  exact this
theorem cT179 {E : mv_E} {D k n : Nat} {h : mv_H} {Q : mv_Q} {a : Nat} (L : Nat) (hK : mv_K h a = (20, L)) (h1 : 1088 ≤ L) (hL : L ≤ 10000) (H : Q none (mv_sI (cfl h a 1088 0) a 2 1)) : mv_V E mv_T0 D k n 179 0 [some (.ref a), none] [] h Q := by
  apply st179_0
  have key : ∀ f i, i + f = 1088 → mv_V E mv_T0 D k n 179 2 [some (.ref a), some (.int (nI i))] [] (cfl h a i 0) Q := by
    intro f
    induction f with
    | zero =>
      intro i hi
      have hi : i = 1088 := hi
      subst hi
      apply st179_2
      rw [KT0, show mv_K (cfl h a 1088 0) a = (20, L) from hK]
      exact mx_ltF 1088 1088 (Nat.le_refl _) (mv_gdI (mx_inT 2 (by omega) (by omega)) H) (by omega)
    | succ f ih =>
      intro i hi
      apply st179_2
      rw [KT0, show mv_K (cfl h a i 0) a = (20, L) from hK, nI_clamp (n := i) (by omega), nI_1]
      refine mx_ltT i 1088 (by omega) (mv_gdI (mx_inT i (by omega) (by omega)) ?_) (by omega)
      have := ih (i + 1) (by omega)
      rw [← cfl_s] at this
      exact this
  have := key 1088 0 (by omega)
  rw [cfl_0] at this
  exact this
