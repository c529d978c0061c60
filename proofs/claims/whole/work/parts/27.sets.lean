/-! Sets of people, sums, pieces: what the model's leaves answer. -/
def sp_bits (s : Nat) : Nat := mx_fold (fun i a => a + (s.testBit i).toNat) 0 8
def sp_sum (A : Nat → Int32) (row s : Nat) : Nat → Int32 := mx_fold (fun p a => a + cond (s.testBit p) (A (row + p)) 0) 0
theorem mx_wo_lt {a b n : Nat} (h : a < 2 ^ n) : mx_wo a b < 2 ^ n := by
  apply Nat.lt_pow_two_of_testBit
  intro i hi
  rw [mx_wo_bit, Nat.testBit_lt_two_pow (Nat.lt_of_lt_of_le h (Nat.pow_le_pow_right (by omega) hi))]
  rfl
theorem ct214 {E : mv_E} {D k n : Nat} {h : mv_H} {Q : mv_Q} {x : Int32} (s : Nat) (hs : s < 2 ^ 31) (hx : x = nI s) (H : Q (some (.int (nI (sp_bits s)))) h) : mv_VE E D k n 214 0 [some (.int x), none, none] [] h Q := by
  subst hx
  apply sg214_0
  refine mx_loop (P := fun i => mv_VE E D k n 214 4 [some (.int (nI s)), some (.int (nI (mx_fold (fun i a => a + (s.testBit i).toNat) 0 i))), some (.int (nI i))] [] h Q) 8 ?_ ?_
  · apply sg214_4
    exact mx_ltF 8 8 (Nat.le_refl _) H (by omega)
  · intro i hi ih
    apply sg214_4
    refine mx_ltT i 8 hi ?_ (by omega)
    rw [mx_bit hs (by omega), nI_add, nI_1]
    exact ih
theorem ct221 {E : mv_E} {D k n : Nat} {h : mv_H} {Q : mv_Q} {x1 x2 : Int32} (row s P : Nat) (hP : mv_I h 149 1 = nI P) (hr : row + P < 3264) (hp : P < 32) (hs : s < 2 ^ 31) (e1 : x1 = nI row) (e2 : x2 = nI s) (H : Q (some (.int (sp_sum (mv_I h 149) row s P))) h) : mv_VE E (D + 1) k n 221 0 [some (.ref 148), some (.int x1), some (.int x2), none, none] [] h Q := by
  subst e1; subst e2
  apply sg221_0
  refine mx_loop (P := fun i => mv_VE E (D + 1) k n 221 5 [some (.ref 148), some (.int (nI row)), some (.int (nI s)), some (.int (sp_sum (mv_I h 149) row s i)), some (.int (nI i))] [] h Q) P ?_ ?_
  · apply sg221_5
    exact mx_ltF P P (Nat.le_refl _) H (by omega) rfl hP
  · intro i hi ih
    apply sg221_5
    refine mx_ltT i P hi ?_ (by omega) rfl hP
    refine mx_cdb (s.testBit i) (mx_isIn hs (by omega)) (fun q => ?_) (fun q => ?_)
    · refine mv_gdI (mx_inT (row + i) (by omega) (by omega) (nI_add _ _)) ?_
      rw [nI_add, nI_clamp (by omega), nI_1]
      unfold sp_sum at ih ⊢
      unfold mx_fold at ih
      rw [q] at ih
      exact ih
    · rw [nI_1]
      unfold sp_sum at ih ⊢
      unfold mx_fold at ih
      rw [q] at ih
      exact ih
def sp_near (B : Nat → Nat) (more : Nat) : Nat → Nat := mx_fold (fun q a => a ||| cond (more.testBit q) (B q) 0) 0
def sp_pc (B : Nat → Nat) (P set : Nat) : Nat → Nat → Nat → Nat
  | 0, piece, _ => piece
  | f + 1, piece, more => if more = 0 then piece else sp_pc B P set f (piece ||| mx_wo (sp_near B more P &&& set) piece) (mx_wo (sp_near B more P &&& set) piece)
def sp_piece (B : Nat → Nat) (P set p : Nat) : Nat := sp_pc B P set 257 (2 ^ p) (2 ^ p)
theorem mx_or_gt {a m : Nat} (hm : m ≠ 0) (hd : a &&& m = 0) : a < a ||| m := by
  have h1 : a ≤ a ||| m := Nat.left_le_or
  have h2 : a ||| m ≠ a := by
    intro e
    apply hm
    apply Nat.eq_of_testBit_eq
    intro i
    have e1 : (a ||| m).testBit i = a.testBit i := by rw [e]
    have e2 : (a &&& m).testBit i = false := by rw [hd, Nat.zero_testBit]
    rw [Nat.testBit_or] at e1
    rw [Nat.testBit_and] at e2
    rw [Nat.zero_testBit]
    cases q : m.testBit i with
    | false => rfl
    | true =>
      rw [q] at e1 e2
      cases r : a.testBit i <;> rw [r] at e1 e2 <;> simp at e1 e2
  omega
theorem mx_wo_dis (a b : Nat) : b &&& mx_wo a b = 0 := by
  apply Nat.eq_of_testBit_eq
  intro i
  rw [Nat.testBit_and, mx_wo_bit, Nat.zero_testBit]
  cases a.testBit i <;> cases b.testBit i <;> rfl
theorem ct223 {E : mv_E} {D k n : Nat} {h : mv_H} {Q : mv_Q} {x1 x2 : Int32} (s p P : Nat) (B : Nat → Nat) (hP : mv_I h 149 1 = nI P) (hp8 : P ≤ 8) (hB : ∀ q, q < P → mv_I h 149 (25 + q) = nI (B q)) (hs : s < 256) (hp : p < 8) (e1 : x1 = nI s) (e2 : x2 = nI p) (H : Q (some (.int (nI (sp_piece B P s p)))) h) : mv_VE E (D + 1) k n 223 0 [some (.ref 148), some (.int x1), some (.int x2), none, none, none, none] [] h Q := by
  subst e1; subst e2
  apply sg223_0
  rw [mx_1shl (by omega)]
  have key : ∀ f piece more, piece < 256 → more < 256 → 256 - piece < f → Q (some (.int (nI (sp_pc B P s f piece more)))) h → mv_VE E (D + 1) k n 223 7 [some (.ref 148), some (.int (nI s)), none, some (.int (nI piece)), some (.int (nI more)), none, none] [] h Q := by
    intro f
    induction f with
    | zero => intro piece more _ _ hf; omega
    | succ f ih =>
      intro piece more hpc hmo hf q
      apply sg223_7
      refine mx_eq more 0 (fun z => ?_) (fun z => ?_) (by omega) (by omega)
      · unfold sp_pc at q
        rw [if_pos z] at q
        exact q
      · unfold sp_pc at q
        rw [if_neg z] at q
        refine mx_loop (P := fun i => mv_VE E (D + 1) k n 223 18 [some (.ref 148), some (.int (nI s)), none, some (.int (nI piece)), some (.int (nI more)), some (.int (nI (sp_near B more i))), some (.int (nI i))] [] h Q) P ?_ ?_
        · apply sg223_18
          refine mx_ltF P P (Nat.le_refl _) ?_ (by omega) rfl hP
          rw [mx_and, mx_andn, mx_or]
          have l1 : mx_wo (sp_near B more P &&& s) piece < 2 ^ 8 := mx_wo_lt (Nat.lt_of_le_of_lt Nat.and_le_right (by omega))
          by_cases hm : mx_wo (sp_near B more P &&& s) piece = 0
          · rw [hm] at q ⊢
            rw [Nat.or_zero] at q ⊢
            apply sg223_7
            refine mx_eq 0 0 (fun _ => ?_) (fun z => absurd rfl z) (by omega) (by omega)
            cases f with
            | zero => exact q
            | succ f => unfold sp_pc at q; rw [if_pos rfl] at q; exact q
          · have := mx_or_gt hm (mx_wo_dis _ _)
            exact ih _ _ (Nat.or_lt_two_pow (n := 8) hpc l1) l1 (by omega) q
        · intro i hi ih2
          apply sg223_18
          refine mx_ltT i P hi ?_ (by omega) rfl hP
          refine mx_cdb (more.testBit i) (mx_isIn (by omega) (by omega)) (fun b => ?_) (fun b => ?_)
          · refine mv_gdI (mx_inT (25 + i) (by omega) (by omega) (nI_add 25 i)) ?_
            rw [show (25 : Int32) + nI i = nI (25 + i) from nI_add 25 i, nI_clamp (by omega), hB i hi, mx_or, nI_1]
            unfold sp_near at ih2 ⊢
            unfold mx_fold at ih2
            rw [b] at ih2
            exact ih2
          · rw [show nI (sp_near B more i) ||| (0 : Int32) = nI (sp_near B more i ||| 0) from mx_or _ 0, nI_1]
            unfold sp_near at ih2 ⊢
            unfold mx_fold at ih2
            rw [b] at ih2
            exact ih2
  have h2 : 2 ^ p < 2 ^ 8 := Nat.pow_lt_pow_right (by omega) hp
  have h3 : 0 < 2 ^ p := Nat.pow_pos (by omega)
  exact key 257 (2 ^ p) (2 ^ p) h2 h2 (by omega) H
def sp_left (B : Nat → Nat) (P s : Nat) : Nat → Nat × Nat := mx_fold (fun p a => cond (a.1.testBit p) (mx_wo a.1 (sp_piece B P s p), a.2 + 1) a) (s, 0)
def sp_pieces (B : Nat → Nat) (P s : Nat) : Nat := (sp_left B P s P).2
theorem sp_left_lt (B : Nat → Nat) (P s : Nat) (hs : s < 256) : ∀ i, (sp_left B P s i).1 < 256 := by
  intro i
  induction i with
  | zero => exact hs
  | succ i ih =>
    show (cond ((sp_left B P s i).1.testBit i) (mx_wo (sp_left B P s i).1 (sp_piece B P s i), (sp_left B P s i).2 + 1) (sp_left B P s i)).1 < 256
    cases (sp_left B P s i).1.testBit i with
    | false => exact ih
    | true => exact mx_wo_lt (n := 8) ih
theorem ct222 {E : mv_E} {D k n : Nat} {h : mv_H} {Q : mv_Q} {x1 : Int32} (s P : Nat) (B : Nat → Nat) (hP : mv_I h 149 1 = nI P) (hp8 : P ≤ 8) (hB : ∀ q, q < P → mv_I h 149 (25 + q) = nI (B q)) (hs : s < 256) (e1 : x1 = nI s) (H : Q (some (.int (nI (sp_pieces B P s)))) h) : mv_VE E (D + 2) k n 222 0 [some (.ref 148), some (.int x1), none, none, none] [] h Q := by
  subst e1
  apply sg222_0
  refine mx_loop (P := fun i => mv_VE E (D + 2) k n 222 7 [some (.ref 148), some (.int (nI s)), some (.int (nI (sp_left B P s i).1)), some (.int (nI (sp_left B P s i).2)), some (.int (nI i))] [] h Q) P ?_ ?_
  · apply sg222_7
    exact mx_ltF P P (Nat.le_refl _) H (by omega) rfl hP
  · intro i hi ih
    have hl := sp_left_lt B P s hs i
    have e : sp_left B P s (i + 1) = cond ((sp_left B P s i).1.testBit i) (mx_wo (sp_left B P s i).1 (sp_piece B P s i), (sp_left B P s i).2 + 1) (sp_left B P s i) := rfl
    apply sg222_7
    refine mx_ltT i P hi ?_ (by omega) rfl hP
    refine mx_cdb ((sp_left B P s i).1.testBit i) (mx_isIn (by omega) (by omega)) (fun b => ?_) (fun b => ?_)
    · refine ct223 s i P B hP hp8 hB hs (by omega) rfl rfl ⟨_, rfl, ?_⟩
      rw [mx_andn, nI_1, nI_1]
      rw [e, b] at ih
      exact ih
    · rw [nI_1]
      rw [e, b] at ih
      exact ih
