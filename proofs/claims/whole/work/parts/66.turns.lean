/-! By turns: what comes of it. -/
def sp_own (S H : Nat) (on : Bool) : Nat := cond on (mx_wo H S) (H &&& S)
def sp_byF (w : Nat → Bool → Int32) (A : Nat → Int32) (X : Nat) (on : Bool) : Int32 := cond (sp_stl A X).2.2 (cond on 1 (-1)) (w (sp_stl A X).1 (!on))
def sp_bst (on : Bool) (b x : Int32) : Int32 := cond on (if x < b then x else b) (if b < x then x else b)
def sp_fo (v : Nat → Int32) (own : Nat) (on : Bool) (b : Int32) : Nat → Int32 := mx_fold (fun p b => cond (own.testBit p) (sp_bst on b (v p)) b) b
def sp_w (A : Nat → Int32) (S : Nat) : Nat → Nat → Bool → Int32
  | 0, _, _ => 0
  | f + 1, H, on => if H = 0 then 0 else if sp_own S H on = 0 then sp_byF (sp_w A S f) A H on else sp_fo (fun p => sp_byF (sp_w A S f) A (mx_wo H (2 ^ p)) on) (sp_own S H on) on (cond on 2 (-2)) (sp_P A)
def sp_W (A : Nat → Int32) (S H : Nat) (on : Bool) : Int32 := sp_w A S 20 H on
def sp_mu (S H : Nat) (on : Bool) : Nat := 2 * sp_bits H + (if sp_own S H on = 0 ∧ H ≠ 0 then 1 else 0)
theorem sp_stl_sub {A : Nat → Int32} {s : Nat} (hs : s < 256) : sp_sub (sp_stl A s).1 s := by rw [sp_stl8 hs]; exact sp_it_sub A s 8
theorem sp_own_sub (S H : Nat) (on : Bool) : sp_sub (sp_own S H on) H := by
  intro j hj
  unfold sp_own at hj
  cases on with
  | false =>
    rw [cond_false, Nat.testBit_and, Bool.and_eq_true] at hj; exact hj.1
  | true =>
    rw [cond_true, mx_wo_bit, Bool.and_eq_true] at hj; exact hj.1
theorem sp_wo_lt1 {H p : Nat} (hH : H < 256) (hp : H.testBit p = true) : sp_bits (mx_wo H (2 ^ p)) < sp_bits H := by
  refine sp_bits_lt (mx_wo_sub _ _) (fun c => ?_) (mx_wo_lt (n := 8) hH) hH
  have e : (mx_wo H (2 ^ p)).testBit p = false := by rw [mx_wo_bit, Nat.testBit_two_pow_self, Bool.not_true, Bool.and_false]
  rw [c, hp] at e; cases e
theorem sp_mu_le (S H : Nat) (on : Bool) : sp_mu S H on ≤ 2 * sp_bits H + 1 := by unfold sp_mu; split <;> omega
theorem sp_mu_ge (S H : Nat) (on : Bool) : 2 * sp_bits H ≤ sp_mu S H on := by unfold sp_mu; omega
/-- one who lets go -/
theorem sp_mu_go {A : Nat → Int32} {S H p : Nat} {on : Bool} (hH : H < 256) (hp : (sp_own S H on).testBit p = true) : sp_mu S (sp_stl A (mx_wo H (2 ^ p))).1 (!on) < sp_mu S H on := by
  have h1 := sp_wo_lt1 hH (sp_own_sub S H on p hp)
  have h2 := sp_bits_mono (sp_stl_sub (A := A) (mx_wo_lt (n := 8) (a := H) (b := 2 ^ p) hH))
  have h3 := sp_mu_le S (sp_stl A (mx_wo H (2 ^ p))).1 (!on)
  have h4 := sp_mu_ge S H on
  omega
/-- nobody to let go -/
theorem sp_mu_no {A : Nat → Int32} {S H : Nat} {on : Bool} (hH : H < 256) (h0 : H ≠ 0) (ho : sp_own S H on = 0) : sp_mu S (sp_stl A H).1 (!on) < sp_mu S H on := by
  have sb := sp_stl_sub (A := A) hH
  have h2 := sp_bits_mono sb
  have e : sp_mu S H on = 2 * sp_bits H + 1 := by unfold sp_mu; rw [if_pos ⟨ho, h0⟩]
  have z : ∀ j, (sp_own S H on).testBit j = false := fun j => by rw [ho, Nat.zero_testBit]
  generalize (sp_stl A H).1 = Y at sb h2
  have ey : sp_own S Y (!on) = Y := by
    apply Nat.eq_of_testBit_eq
    intro j
    have zj := z j
    unfold sp_own at zj ⊢
    cases q : Y.testBit j with
    | false =>
      cases on with
      | false => rw [Bool.not_false, cond_true, mx_wo_bit, q]; rfl
      | true => rw [Bool.not_true, cond_false, Nat.testBit_and, q]; rfl
    | true =>
      have hj := sb j q
      cases on with
      | false =>
        rw [cond_false, Nat.testBit_and, hj] at zj
        rw [Bool.not_false, cond_true, mx_wo_bit, q]
        cases r : S.testBit j with
        | false => rfl
        | true => rw [r] at zj; cases zj
      | true =>
        rw [cond_true, mx_wo_bit, hj] at zj
        rw [Bool.not_true, cond_false, Nat.testBit_and, q]
        cases r : S.testBit j with
        | true => rfl
        | false => rw [r] at zj; cases zj
  have e2 : sp_mu S Y (!on) = 2 * sp_bits Y := by
    unfold sp_mu
    rw [ey, if_neg (fun c => c.2 c.1)]
    rfl
  omega
theorem sp_fo_s (v : Nat → Int32) (own : Nat) (on : Bool) (b : Int32) (i : Nat) : sp_fo v own on b (i + 1) = cond (own.testBit i) (sp_bst on (sp_fo v own on b i) (v i)) (sp_fo v own on b i) := rfl
theorem sp_fo_0 (v : Nat → Int32) (own : Nat) (on : Bool) (b : Int32) : sp_fo v own on b 0 = b := rfl
theorem sp_fo_cg {v v' : Nat → Int32} {own : Nat} {on : Bool} {b : Int32} (N : Nat) (h : ∀ p, p < N → own.testBit p = true → v p = v' p) : sp_fo v own on b N = sp_fo v' own on b N := by
  induction N with
  | zero => rw [sp_fo_0, sp_fo_0]
  | succ N ih =>
    rw [sp_fo_s, sp_fo_s, ih (fun p hp => h p (by omega))]
    cases q : own.testBit N with
    | false => rw [cond_false, cond_false]
    | true => rw [cond_true, cond_true, h N (by omega) q]
theorem sp_w_st {A : Nat → Int32} {S : Nat} : ∀ f g H on, H < 256 → sp_mu S H on < f → sp_mu S H on < g → sp_w A S f H on = sp_w A S g H on := by
  intro f
  induction f with
  | zero => intro g H on _ h; omega
  | succ f ih =>
    intro g H on hH hf hg
    obtain ⟨g', rfl⟩ : ∃ g', g = g' + 1 := ⟨g - 1, by omega⟩
    unfold sp_w
    by_cases h0 : H = 0
    · rw [if_pos h0, if_pos h0]
    · rw [if_neg h0, if_neg h0]
      by_cases ho : sp_own S H on = 0
      · rw [if_pos ho, if_pos ho]
        have hm := sp_mu_no (A := A) hH h0 ho
        have hy : (sp_stl A H).1 < 256 := sp_sub_lt (P := 8) (sp_stl_sub hH) hH
        unfold sp_byF
        rw [ih g' _ _ hy (by omega) (by omega)]
      · rw [if_neg ho, if_neg ho]
        refine sp_fo_cg _ (fun p hp hb => ?_)
        have hm := sp_mu_go (A := A) hH hb
        have hx : mx_wo H (2 ^ p) < 256 := mx_wo_lt (n := 8) hH
        have hy : (sp_stl A (mx_wo H (2 ^ p))).1 < 256 := sp_sub_lt (P := 8) (sp_stl_sub hx) hx
        unfold sp_byF
        rw [ih g' _ _ hy (by omega) (by omega)]
theorem sp_W0 (A : Nat → Int32) (S : Nat) (on : Bool) : sp_W A S 0 on = 0 := by
  unfold sp_W sp_w
  rw [if_pos rfl]
theorem sp_mu17 (S H : Nat) (on : Bool) : sp_mu S H on < 18 := by
  have := sp_mu_le S H on
  have := sp_bits_le H
  omega
theorem sp_W_no {A : Nat → Int32} {S H : Nat} {on : Bool} (hH : H < 256) (h0 : H ≠ 0) (ho : sp_own S H on = 0) : sp_W A S H on = sp_byF (sp_W A S) A H on := by
  have hy : (sp_stl A H).1 < 256 := sp_sub_lt (P := 8) (sp_stl_sub hH) hH
  have := sp_mu17 S (sp_stl A H).1 (!on)
  show sp_w A S (19 + 1) H on = _
  unfold sp_w
  rw [if_neg h0, if_pos ho]
  unfold sp_byF sp_W
  rw [sp_w_st 19 20 _ _ hy (by omega) (by omega)]
theorem sp_W_go {A : Nat → Int32} {S H : Nat} {on : Bool} (hH : H < 256) (h0 : H ≠ 0) (ho : sp_own S H on ≠ 0) : sp_W A S H on = sp_fo (fun p => sp_byF (sp_W A S) A (mx_wo H (2 ^ p)) on) (sp_own S H on) on (cond on 2 (-2)) (sp_P A) := by
  show sp_w A S (19 + 1) H on = _
  unfold sp_w
  rw [if_neg h0, if_neg ho]
  refine sp_fo_cg _ (fun p hp hb => ?_)
  have hx : mx_wo H (2 ^ p) < 256 := mx_wo_lt (n := 8) hH
  have hy : (sp_stl A (mx_wo H (2 ^ p))).1 < 256 := sp_sub_lt (P := 8) (sp_stl_sub hx) hx
  have := sp_mu17 S (sp_stl A (mx_wo H (2 ^ p))).1 (!on)
  unfold sp_byF sp_W
  rw [sp_w_st 19 20 _ _ hy (by omega) (by omega)]
/-- lost, drawn, won -/
def T3 (x : Int32) : Prop := x = -1 ∨ x = 0 ∨ x = 1
theorem sp_f3 {v : Nat → Int32} {own : Nat} {on : Bool} (hv : ∀ p, T3 (v p)) : ∀ i, (sp_fo v own on (cond on 2 (-2)) i = sp_fo v own on (cond on 1 (-1)) i ∧ T3 (sp_fo v own on (cond on 1 (-1)) i)) ∨ ((∀ p, p < i → own.testBit p = false) ∧ sp_fo v own on (cond on 2 (-2)) i = cond on 2 (-2) ∧ sp_fo v own on (cond on 1 (-1)) i = cond on 1 (-1))
  | 0 => Or.inr ⟨fun p hp => by omega, rfl, rfl⟩
  | i + 1 => by
    rw [sp_fo_s, sp_fo_s]
    have ih := sp_f3 (own := own) (on := on) hv i
    cases q : own.testBit i with
    | false =>
      rw [cond_false, cond_false]
      rcases ih with ih | ⟨a, b, c⟩
      · exact Or.inl ih
      · refine Or.inr ⟨fun p hp => ?_, b, c⟩
        rcases (by omega : p < i ∨ p = i) with d | d
        · exact a p d
        · rw [d]; exact q
    | true =>
      rw [cond_true, cond_true]
      refine Or.inl ?_
      have h := hv i
      rcases ih with ⟨a, b⟩ | ⟨-, b, c⟩
      · rw [a]
        refine ⟨rfl, ?_⟩
        generalize sp_fo v own on (cond on 1 (-1)) i = z at b
        generalize v i = y at h
        unfold T3 at b h ⊢
        cases on <;> rcases b with rfl | rfl | rfl <;> rcases h with rfl | rfl | rfl <;> decide
      · rw [b, c]
        generalize v i = y at h
        unfold T3 at h ⊢
        cases on <;> rcases h with rfl | rfl | rfl <;> decide
theorem sp_bit_ex {o P : Nat} (h : o < 2 ^ P) (h0 : o ≠ 0) : ¬ ∀ p, p < P → o.testBit p = false := fun c => h0 (by
  apply Nat.eq_of_testBit_eq
  intro j
  rw [Nat.zero_testBit]
  cases q : o.testBit j with
  | false => rfl
  | true => rw [c j (sp_tb_lt h q)] at q; cases q)
theorem sp_by3 {w : Nat → Bool → Int32} {A : Nat → Int32} {X : Nat} {on : Bool} (h : T3 (w (sp_stl A X).1 (!on))) : T3 (sp_byF w A X on) := by
  unfold sp_byF
  cases (sp_stl A X).2.2 with
  | false => exact h
  | true =>
    cases on with
    | false => exact Or.inl rfl
    | true => exact Or.inr (Or.inr rfl)
theorem sp_w3 {A : Nat → Int32} {S : Nat} (p8 : sp_P A ≤ 8) : ∀ f H on, H < 2 ^ sp_P A → T3 (sp_w A S f H on) := by
  have p2 := mx_p2 p8
  intro f
  induction f with
  | zero => intro H on _; exact Or.inr (Or.inl rfl)
  | succ f ih =>
    intro H on hH
    unfold sp_w
    by_cases h0 : H = 0
    · rw [if_pos h0]; exact Or.inr (Or.inl rfl)
    · rw [if_neg h0]
      have hy : ∀ X, sp_sub X H → (sp_stl A X).1 < 2 ^ sp_P A := fun X hX => by
        have : X < 2 ^ sp_P A := sp_sub_lt hX hH
        exact sp_sub_lt (sp_stl_sub (by omega)) this
      by_cases ho : sp_own S H on = 0
      · rw [if_pos ho]
        exact sp_by3 (ih _ _ (hy H (fun _ q => q)))
      · rw [if_neg ho]
        rcases sp_f3 (v := fun p => sp_byF (sp_w A S f) A (mx_wo H (2 ^ p)) on) (own := sp_own S H on) (on := on) (fun p => sp_by3 (ih _ _ (hy _ (mx_wo_sub _ _)))) (sp_P A) with ⟨a, b⟩ | ⟨a, -, -⟩
        · rw [a]; exact b
        · exact absurd a (sp_bit_ex (sp_sub_lt (sp_own_sub S H on) hH) ho)
/-- as the class has it: up to eight, from the worst that can be -/
theorem sp_W_c {A : Nat → Int32} {S H : Nat} {on : Bool} (p8 : sp_P A ≤ 8) (hH : H < 2 ^ sp_P A) (h0 : H ≠ 0) (ho : sp_own S H on ≠ 0) : sp_W A S H on = sp_fo (fun p => sp_byF (sp_W A S) A (mx_wo H (2 ^ p)) on) (sp_own S H on) on (cond on 1 (-1)) 8 := by
  have p2 := mx_p2 p8
  rw [sp_W_go (by omega) h0 ho]
  have hol : sp_own S H on < 2 ^ sp_P A := sp_sub_lt (sp_own_sub S H on) hH
  have ext : ∀ (v : Nat → Int32) (b : Int32) (i : Nat), sp_P A ≤ i → sp_fo v (sp_own S H on) on b i = sp_fo v (sp_own S H on) on b (sp_P A) := by
    intro v b i
    induction i with
    | zero => intro h; rw [show sp_P A = 0 by omega]
    | succ i ih =>
      intro h
      rcases (by omega : sp_P A = i + 1 ∨ sp_P A ≤ i) with c | c
      · rw [c]
      · rw [sp_fo_s, Nat.testBit_lt_two_pow (Nat.lt_of_lt_of_le hol (Nat.pow_le_pow_right (by omega) c)), cond_false, ih c]
  rw [ext _ _ 8 p8]
  rcases sp_f3 (v := fun p => sp_byF (sp_W A S) A (mx_wo H (2 ^ p)) on) (own := sp_own S H on) (on := on) (fun p => sp_by3 (sp_w3 p8 20 _ _ (sp_sub_lt (sp_stl_sub (Nat.lt_of_lt_of_le (mx_wo_lt (n := sp_P A) hH) p2)) (mx_wo_lt (n := sp_P A) hH)))) (sp_P A) with ⟨a, -⟩ | ⟨a, -, -⟩
  · exact a
  · exact absurd a (sp_bit_ex hol ho)
-- where a set comes to
def sp_fate (A : Nat → Int32) (s : Nat) : Int32 := cond (sp_stl A s).2.2 (-1) (nI (sp_stl A s).1)
theorem sp_fate_is {A : Nat → Int32} {s : Nat} (hs : s < 256) : sp_fate A s = cond (sp_float A s) (if sp_week A s = s then nI s else sp_fate A (sp_week A s)) (-1) := by
  have hw : sp_week A s < 256 := Nat.lt_of_le_of_lt (sp_week_le A s) hs
  have s8 := sp_stl_sunk (A := A) hs
  have w8 := sp_stl_sunk (A := A) hw
  cases q : sp_float A s with
  | false =>
    have : (sp_stl A s).2.2 = true := s8.mpr ⟨0, by omega, q⟩
    unfold sp_fate
    rw [this]; rfl
  | true =>
    rw [cond_true]
    by_cases r : sp_week A s = s
    · rw [if_pos r]
      have fx : ∀ i, sp_it A s i = s := fun i => sp_it_fix (n := 0) r i (by omega)
      have : (sp_stl A s).2.2 = false := by
        cases z : (sp_stl A s).2.2 with
        | false => rfl
        | true =>
          obtain ⟨i, -, h2⟩ := s8.mp z
          rw [fx, q] at h2; cases h2
      unfold sp_fate
      rw [this, cond_false, sp_stl8 hs, fx]
    · rw [if_neg r]
      obtain ⟨n, a1, -, -, -, a5, -⟩ := sp_stl_is (A := A) hs
      have f8 : sp_it A s 9 = sp_it A s 8 := by rw [sp_it_fix a5 9 (by omega), sp_it_fix a5 8 a1]
      have e1 : (sp_stl A (sp_week A s)).1 = (sp_stl A s).1 := by rw [sp_stl8 hw, sp_stl8 hs, sp_it_f, f8]
      have e2 : (sp_stl A (sp_week A s)).2.2 = (sp_stl A s).2.2 := by
        have : (sp_stl A (sp_week A s)).2.2 = true ↔ (sp_stl A s).2.2 = true := by
          rw [w8, s8]
          constructor
          · rintro ⟨i, h1, h2⟩
            rw [sp_it_f] at h2
            rcases (by omega : i ≤ 7 ∨ i = 8) with c | c
            · exact ⟨i + 1, by omega, h2⟩
            · rw [c, f8] at h2; exact ⟨8, by omega, h2⟩
          · rintro ⟨i, h1, h2⟩
            rcases (by omega : i = 0 ∨ 1 ≤ i) with c | c
            · rw [c] at h2
              rw [show sp_it A s 0 = s from rfl, q] at h2; cases h2
            · refine ⟨i - 1, by omega, ?_⟩
              rw [sp_it_f, show i - 1 + 1 = i by omega]; exact h2
        cases z : (sp_stl A (sp_week A s)).2.2 <;> cases z2 : (sp_stl A s).2.2 <;> rw [z, z2] at this <;> simp at this <;> rfl
      unfold sp_fate
      rw [e1, e2]
def sp_no5 (A : Nat → Int32) (x : Int32) : Int32 := cond (sn A x) (cond (sp_float A (sp_hold A)) 0 (-5)) (-3)
def v_sides (V : vw) (x : Int32) : Int32 := if sp_no5 (vA V) x = 0 then sp_W (vA V) x.toNatClampNeg (sp_hold (vA V)) false else sp_no5 (vA V) x
def sp_bf (A : Nat → Int32) (S : Nat) (p : Nat) : Bool := (sp_hold A &&& S).testBit p && decide (sp_byF (sp_W A S) A (mx_wo (sp_hold A) (2 ^ p)) false = sp_W A S (sp_hold A) false)
def v_best (V : vw) (x : Int32) : Int32 := if sp_no5 (vA V) x = 0 then mx_find (sp_bf (vA V) x.toNatClampNeg) 8 0 else sp_no5 (vA V) x
theorem sp_no50 {A : Nat → Int32} {x : Int32} (ok : sp_ok A) (h : sp_no5 A x = 0) : ∃ s, s < 2 ^ sp_P A ∧ x = nI s := by
  unfold sp_no5 at h
  cases z : sn A x with
  | false => rw [z, cond_false] at h; exact absurd h (by decide)
  | true => exact snT ok z
