/-! Pieces: the least closed set; what counts of bits. -/
theorem sp_bits_eq (s : Nat) : sp_bits s = (s.testBit 0).toNat + (s.testBit 1).toNat + (s.testBit 2).toNat + (s.testBit 3).toNat + (s.testBit 4).toNat + (s.testBit 5).toNat + (s.testBit 6).toNat + (s.testBit 7).toNat := by
  show 0 + _ + _ + _ + _ + _ + _ + _ + _ = _
  rw [Nat.zero_add]
def sp_sub (x y : Nat) : Prop := ∀ j, x.testBit j = true → y.testBit j = true
theorem mx_tn (b : Bool) : b.toNat ≤ 1 := by cases b <;> decide
theorem sp_bits_le (s : Nat) : sp_bits s ≤ 8 := by
  rw [sp_bits_eq]
  have := mx_tn (s.testBit 0); have := mx_tn (s.testBit 1); have := mx_tn (s.testBit 2); have := mx_tn (s.testBit 3)
  have := mx_tn (s.testBit 4); have := mx_tn (s.testBit 5); have := mx_tn (s.testBit 6); have := mx_tn (s.testBit 7)
  omega
theorem sp_sub_tn {x y : Nat} (h : sp_sub x y) (j : Nat) : (x.testBit j).toNat ≤ (y.testBit j).toNat := by
  cases q : x.testBit j with
  | false => exact Nat.zero_le _
  | true => rw [h j q]; exact Nat.le_refl _
theorem sp_bits_mono {x y : Nat} (h : sp_sub x y) : sp_bits x ≤ sp_bits y := by
  rw [sp_bits_eq, sp_bits_eq]
  have := sp_sub_tn h 0; have := sp_sub_tn h 1; have := sp_sub_tn h 2; have := sp_sub_tn h 3
  have := sp_sub_tn h 4; have := sp_sub_tn h 5; have := sp_sub_tn h 6; have := sp_sub_tn h 7
  omega
theorem mx_tninj {a b : Bool} (h : a.toNat = b.toNat) : a = b := by cases a <;> cases b <;> simp at h <;> rfl
theorem sp_ext8 {x y : Nat} (hx : x < 256) (hy : y < 256) (h : ∀ j, j < 8 → x.testBit j = y.testBit j) : x = y := by
  apply Nat.eq_of_testBit_eq
  intro j
  rcases Nat.lt_or_ge j 8 with q | q
  · exact h j q
  · rw [Nat.testBit_lt_two_pow (Nat.lt_of_lt_of_le (show x < 2 ^ 8 from hx) (Nat.pow_le_pow_right (by omega) q)), Nat.testBit_lt_two_pow (Nat.lt_of_lt_of_le (show y < 2 ^ 8 from hy) (Nat.pow_le_pow_right (by omega) q))]
theorem sp_bits_lt {x y : Nat} (h : sp_sub x y) (hn : x ≠ y) (hx : x < 256) (hy : y < 256) : sp_bits x < sp_bits y := by
  have h0 := sp_sub_tn h 0; have h1 := sp_sub_tn h 1; have h2 := sp_sub_tn h 2; have h3 := sp_sub_tn h 3
  have h4 := sp_sub_tn h 4; have h5 := sp_sub_tn h 5; have h6 := sp_sub_tn h 6; have h7 := sp_sub_tn h 7
  rcases Nat.lt_or_ge (sp_bits x) (sp_bits y) with q | q
  · exact q
  · exfalso
    apply hn
    rw [sp_bits_eq, sp_bits_eq] at q
    apply sp_ext8 hx hy
    intro j hj
    apply mx_tninj
    rcases (by omega : j = 0 ∨ j = 1 ∨ j = 2 ∨ j = 3 ∨ j = 4 ∨ j = 5 ∨ j = 6 ∨ j = 7) with rfl | rfl | rfl | rfl | rfl | rfl | rfl | rfl <;> omega
theorem sp_bits_P : ∀ P, P ≤ 8 → sp_bits (2 ^ P - 1) = P := by decide +kernel
theorem sp_sub_all {x P : Nat} (h : x < 2 ^ P) : sp_sub x (2 ^ P - 1) := by
  intro j hj
  rw [Nat.testBit_two_pow_sub_one]
  rcases Nat.lt_or_ge j P with q | q
  · exact decide_eq_true q
  · rw [Nat.testBit_lt_two_pow (Nat.lt_of_lt_of_le h (Nat.pow_le_pow_right (by omega) q))] at hj; cases hj
theorem sp_bits_leP {x P : Nat} (h : x < 2 ^ P) (hP : P ≤ 8) : sp_bits x ≤ P := by
  have := sp_bits_mono (sp_sub_all h)
  rw [sp_bits_P P hP] at this
  exact this
theorem sp_tb_lt {x P j : Nat} (h : x < 2 ^ P) (hj : x.testBit j = true) : j < P := by
  rcases Nat.lt_or_ge j P with q | q
  · exact q
  · rw [Nat.testBit_lt_two_pow (Nat.lt_of_lt_of_le h (Nat.pow_le_pow_right (by omega) q))] at hj; cases hj
theorem sp_sub_lt {x y P : Nat} (h : sp_sub x y) (hy : y < 2 ^ P) : x < 2 ^ P := by
  apply Nat.lt_pow_two_of_testBit
  intro i hi
  cases q : x.testBit i with
  | false => rfl
  | true =>
    have := sp_tb_lt hy (h i q)
    omega
theorem sp_sub_anti {x y : Nat} (h1 : sp_sub x y) (h2 : sp_sub y x) : x = y := by
  apply Nat.eq_of_testBit_eq
  intro i
  cases q : x.testBit i with
  | true => exact (h1 i q).symm
  | false =>
    cases r : y.testBit i with
    | false => rfl
    | true => rw [h2 i r] at q; cases q
def sp_cld (B : Nat → Nat) (P s X : Nat) : Prop := ∀ q j, q < P → X.testBit q = true → (B q).testBit j = true → s.testBit j = true → X.testBit j = true
def sp_isPc (B : Nat → Nat) (P s p X : Nat) : Prop := X.testBit p = true ∧ sp_sub X s ∧ sp_cld B P s X ∧ ∀ Y, Y.testBit p = true → sp_cld B P s Y → sp_sub X Y
theorem sp_isPc_un {B : Nat → Nat} {P s p X Y : Nat} (h1 : sp_isPc B P s p X) (h2 : sp_isPc B P s p Y) : X = Y := sp_sub_anti (h1.2.2.2 Y h2.1 h2.2.2.1) (h2.2.2.2 X h1.1 h1.2.2.1)
theorem sp_near_bit (B : Nat → Nat) (m j : Nat) : ∀ i, (sp_near B m i).testBit j = true ↔ ∃ q, q < i ∧ m.testBit q = true ∧ (B q).testBit j = true
  | 0 => by
    constructor
    · intro h
      have : (0 : Nat).testBit j = true := h
      rw [Nat.zero_testBit] at this
      cases this
    · rintro ⟨q, h, -⟩
      omega
  | i + 1 => by
    have e : sp_near B m (i + 1) = sp_near B m i ||| cond (m.testBit i) (B i) 0 := rfl
    rw [e, Nat.testBit_or, Bool.or_eq_true, sp_near_bit B m j i]
    constructor
    · rintro (⟨q, h1, h2⟩ | h)
      · exact ⟨q, by omega, h2⟩
      · cases z : m.testBit i with
        | false => rw [z, cond_false, Nat.zero_testBit] at h; cases h
        | true => rw [z] at h; exact ⟨i, by omega, z, h⟩
    · rintro ⟨q, h1, h2, h3⟩
      rcases (by omega : q < i ∨ q = i) with h | h
      · exact Or.inl ⟨q, h, h2, h3⟩
      · subst h; rw [h2]; exact Or.inr h3
theorem sp_pc_ok {B : Nat → Nat} {P s p : Nat} (hs : s < 256) : ∀ f piece more, 256 - piece < f → piece.testBit p = true → sp_sub piece s → sp_sub more piece → (∀ q j, q < P → piece.testBit q = true → more.testBit q = false → (B q).testBit j = true → s.testBit j = true → piece.testBit j = true) → (∀ Y, Y.testBit p = true → sp_cld B P s Y → sp_sub piece Y) → sp_isPc B P s p (sp_pc B P s f piece more) := by
  intro f
  induction f with
  | zero => intro piece more hf; omega
  | succ f ih =>
    intro piece more hf h1 h2 h3 h4 h5
    have hp : piece < 256 := sp_sub_lt (P := 8) h2 hs
    unfold sp_pc
    by_cases z : more = 0
    · rw [if_pos z]
      refine ⟨h1, h2, fun q j hq a b c => h4 q j hq a (by rw [z, Nat.zero_testBit]) b c, h5⟩
    · rw [if_neg z]
      have hb : ∀ j, (mx_wo (sp_near B more P &&& s) piece).testBit j = true ↔ (∃ q, q < P ∧ more.testBit q = true ∧ (B q).testBit j = true) ∧ s.testBit j = true ∧ piece.testBit j = false := by
        intro j
        rw [mx_wo_bit, Nat.testBit_and, Bool.and_eq_true, Bool.and_eq_true, sp_near_bit, Bool.not_eq_true']
        exact and_assoc
      generalize hm : mx_wo (sp_near B more P &&& s) piece = m at hb ⊢
      have hdis : piece &&& m = 0 := by rw [← hm]; exact mx_wo_dis _ _
      have g1 : sp_sub (piece ||| m) s := by
        intro j hj
        rw [Nat.testBit_or, Bool.or_eq_true] at hj
        rcases hj with hj | hj
        · exact h2 j hj
        · exact ((hb j).mp hj).2.1
      have g4 : ∀ q j, q < P → (piece ||| m).testBit q = true → m.testBit q = false → (B q).testBit j = true → s.testBit j = true → (piece ||| m).testBit j = true := by
        intro q j hq a b c d
        rw [Nat.testBit_or, b, Bool.or_false] at a
        rw [Nat.testBit_or]
        cases e : piece.testBit j with
        | true => rfl
        | false =>
          cases mq : more.testBit q with
          | false => rw [h4 q j hq a mq c d] at e; cases e
          | true => rw [(hb j).mpr ⟨⟨q, hq, mq, c⟩, d, e⟩]; rfl
      have g5 : ∀ Y, Y.testBit p = true → sp_cld B P s Y → sp_sub (piece ||| m) Y := by
        intro Y y1 y2 j hj
        rw [Nat.testBit_or, Bool.or_eq_true] at hj
        rcases hj with hj | hj
        · exact h5 Y y1 y2 j hj
        · obtain ⟨⟨q, hq, mq, c⟩, d, -⟩ := (hb j).mp hj
          exact y2 q j hq (h5 Y y1 y2 q (h3 q mq)) c d
      have g0 : (piece ||| m).testBit p = true := by rw [Nat.testBit_or, h1]; rfl
      have g3 : sp_sub m (piece ||| m) := by intro j hj; rw [Nat.testBit_or, hj, Bool.or_true]
      by_cases zm : m = 0
      · subst zm
        have e : sp_pc B P s f (piece ||| 0) 0 = piece ||| 0 := by
          cases f with
          | zero => rfl
          | succ f => unfold sp_pc; rw [if_pos rfl]
        rw [e]
        exact ⟨g0, g1, fun q j hq a b c => g4 q j hq a (by rw [Nat.zero_testBit]) b c, g5⟩
      · have := mx_or_gt zm hdis
        exact ih _ _ (by omega) g0 g1 g3 g4 g5
theorem sp_piece_ok {B : Nat → Nat} {P s p : Nat} (hs : s < 256) (hp : s.testBit p = true) : sp_isPc B P s p (sp_piece B P s p) := by
  have hb : ∀ j, (2 ^ p).testBit j = true ↔ p = j := by intro j; rw [Nat.testBit_two_pow]; simp
  refine sp_pc_ok hs 257 (2 ^ p) (2 ^ p) (Nat.lt_succ_of_le (Nat.sub_le 256 _)) ((hb p).mpr rfl) ?_ (fun j h => h) ?_ ?_
  · intro j hj
    rw [← (hb j).mp hj]; exact hp
  · intro q j hq a b
    rw [a] at b; cases b
  · intro Y y1 y2 j hj
    rw [← (hb j).mp hj]; exact y1
/-- one round of the class -/
def cr_grow (B : Nat → Nat) (s x : Nat) : Nat → Nat := mx_fold (fun q a => cond (a.testBit q) (a ||| (B q &&& s)) a) x
theorem cr_grow_le {B : Nat → Nat} {s x : Nat} : ∀ i j, j ≤ i → sp_sub (cr_grow B s x j) (cr_grow B s x i)
  | 0, j, h => by rw [show j = 0 by omega]; exact fun _ q => q
  | i + 1, j, h => by
    rcases (by omega : j ≤ i ∨ j = i + 1) with q | q
    · intro b hb
      have := cr_grow_le i j q b hb
      show (cond ((cr_grow B s x i).testBit i) (cr_grow B s x i ||| (B i &&& s)) (cr_grow B s x i)).testBit b = true
      cases (cr_grow B s x i).testBit i with
      | false => exact this
      | true => rw [cond_true, Nat.testBit_or, this]; rfl
    · subst q; exact fun _ q => q
theorem cr_grow_cl {B : Nat → Nat} {s x P Y : Nat} (hY : sp_cld B P s Y) (hx : sp_sub x Y) : ∀ i, i ≤ P → sp_sub (cr_grow B s x i) Y
  | 0, _ => hx
  | i + 1, hi => by
    intro b hb
    have ih := cr_grow_cl hY hx i (by omega)
    have hb : (cond ((cr_grow B s x i).testBit i) (cr_grow B s x i ||| (B i &&& s)) (cr_grow B s x i)).testBit b = true := hb
    cases z : (cr_grow B s x i).testBit i with
    | false => rw [z] at hb; exact ih b hb
    | true =>
      rw [z, cond_true, Nat.testBit_or, Bool.or_eq_true, Nat.testBit_and, Bool.and_eq_true] at hb
      rcases hb with hb | ⟨h1, h2⟩
      · exact ih b hb
      · exact hY i b (by omega) (ih i z) h1 h2
theorem cr_grow_s {B : Nat → Nat} {s x : Nat} (hx : sp_sub x s) : ∀ i, sp_sub (cr_grow B s x i) s
  | 0 => hx
  | i + 1 => by
    intro b hb
    have ih := cr_grow_s (B := B) hx i
    have hb : (cond ((cr_grow B s x i).testBit i) (cr_grow B s x i ||| (B i &&& s)) (cr_grow B s x i)).testBit b = true := hb
    cases z : (cr_grow B s x i).testBit i with
    | false => rw [z] at hb; exact ih b hb
    | true =>
      rw [z, cond_true, Nat.testBit_or, Bool.or_eq_true, Nat.testBit_and, Bool.and_eq_true] at hb
      rcases hb with hb | ⟨h1, h2⟩
      · exact ih b hb
      · exact h2
theorem cr_grow_fix {B : Nat → Nat} {s x P : Nat} (h : cr_grow B s x P = x) : sp_cld B P s x := by
  intro q j hq a b c
  have h1 : (cr_grow B s x q).testBit q = true := cr_grow_le (B := B) (s := s) (x := x) q 0 (by omega) q a
  have h2 : (cr_grow B s x (q + 1)).testBit j = true := by
    show (cond ((cr_grow B s x q).testBit q) (cr_grow B s x q ||| (B q &&& s)) (cr_grow B s x q)).testBit j = true
    rw [h1, cond_true, Nat.testBit_or, Nat.testBit_and, b, c]
    exact Bool.or_true _
  have h3 := cr_grow_le (B := B) (s := s) (x := x) P (q + 1) (by omega) j h2
  rw [h] at h3
  exact h3
theorem sp_left_sub (B : Nat → Nat) (P s : Nat) : ∀ i, sp_sub (sp_left B P s i).1 s
  | 0 => fun _ q => q
  | i + 1 => by
    have ih := sp_left_sub B P s i
    show sp_sub (cond ((sp_left B P s i).1.testBit i) (mx_wo (sp_left B P s i).1 (sp_piece B P s i), (sp_left B P s i).2 + 1) (sp_left B P s i)).1 s
    cases (sp_left B P s i).1.testBit i with
    | false => exact ih
    | true =>
      intro j hj
      have hj : (mx_wo (sp_left B P s i).1 (sp_piece B P s i)).testBit j = true := hj
      rw [mx_wo_bit, Bool.and_eq_true] at hj
      exact ih j hj.1
