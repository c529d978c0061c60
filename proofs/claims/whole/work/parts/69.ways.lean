/-! Chances: sums, ways. -/
set_option maxRecDepth 100000 in
theorem sg291_0 {E : mv_E} {D k n : Nat} (x1 : Int32) (x2 : Int32) {h : mv_H} {Q : mv_Q} (H : mv_VE E (D + 4) 0 0 292 0 [some (.ref 148), some (.int x1), some (.int x2)] [] (mv_sI h 148 0 0) (fun v h1 => ∃ r2, v = some (.int r2) ∧ if r2 = 0 then (mv_VE E (D + 4) 0 0 293 0 [some (.ref 148), some (.int x1), none, none, none, none, none] [] h1 (fun v h3 => v = none ∧ mv_VE E (D + 5) k n 291 29 [some (.ref 148), some (.int x1), some (.int x2), none, some (.long 0), none, some (.int 0)] [] h3 Q)) else (Q (some (.int r2)) h1))) : mv_VE E (D + 5) k n 291 0 [some (.ref 148), some (.int x1), some (.int x2), none, none, none, none] [] h Q := mv_s0 (fun O => mv_VE E (D + 4) 0 0 292 0 [some (.ref 148), some (.int x1), some (.int x2)] [] (mv_sI h 148 0 0) (fun v h1 => ∃ r2, v = some (.int r2) ∧ if r2 = 0 then (mv_VE E (D + 4) 0 0 293 0 [some (.ref 148), some (.int x1), none, none, none, none, none] [] h1 (fun v h3 => v = none ∧ mv_VE E (D + 5) k n 291 29 [some (.ref 148), some (.int x1), some (.int x2), none, some (.long 0), none, some (.int 0)] [] h3 Q)) else (Q (some (.int r2)) h1))) 60 (by decide) (fun _ q => q) H
set_option maxRecDepth 100000 in
theorem sg297_0 {E : mv_E} {D k n : Nat} (x1 : Int32) (x2 : Int32) {h : mv_H} {Q : mv_Q} (H : mv_VE E (D + 4) 0 0 292 0 [some (.ref 148), some (.int x1), some (.int x2)] [] (mv_sI h 148 0 0) (fun v h1 => ∃ r2, v = some (.int r2) ∧ if r2 = 0 then (mv_VE E (D + 4) 0 0 293 0 [some (.ref 148), some (.int x1), none, none, none, none, none] [] h1 (fun v h3 => v = none ∧ mv_VE E (D + 5) k n 297 29 [some (.ref 148), some (.int x1), some (.int x2), none, some (.long 0), none, some (.int 0)] [] h3 Q)) else (Q (some (.int r2)) h1))) : mv_VE E (D + 5) k n 297 0 [some (.ref 148), some (.int x1), some (.int x2), none, none, none, none] [] h Q := mv_s0 (fun O => mv_VE E (D + 4) 0 0 292 0 [some (.ref 148), some (.int x1), some (.int x2)] [] (mv_sI h 148 0 0) (fun v h1 => ∃ r2, v = some (.int r2) ∧ if r2 = 0 then (mv_VE E (D + 4) 0 0 293 0 [some (.ref 148), some (.int x1), none, none, none, none, none] [] h1 (fun v h3 => v = none ∧ mv_VE E (D + 5) k n 297 29 [some (.ref 148), some (.int x1), some (.int x2), none, some (.long 0), none, some (.int 0)] [] h3 Q)) else (Q (some (.int r2)) h1))) 60 (by decide) (fun _ q => q) H
def sm (f : Nat → Nat) : Nat → Nat := mx_fold (fun i a => a + f i) 0
theorem sm_0 (f : Nat → Nat) : sm f 0 = 0 := rfl
theorem sm_s (f : Nat → Nat) (i : Nat) : sm f (i + 1) = sm f i + f i := rfl
theorem sm_cg {f g : Nat → Nat} : ∀ N, (∀ i, i < N → f i = g i) → sm f N = sm g N
  | 0, _ => rfl
  | N + 1, h => by rw [sm_s, sm_s, sm_cg N (fun i hi => h i (by omega)), h N (by omega)]
theorem sm_add (f g : Nat → Nat) : ∀ N, sm (fun i => f i + g i) N = sm f N + sm g N
  | 0 => rfl
  | N + 1 => by rw [sm_s, sm_s, sm_s, sm_add f g N]; omega
theorem sm_mul (c : Nat) (f : Nat → Nat) : ∀ N, sm (fun i => c * f i) N = c * sm f N
  | 0 => rfl
  | N + 1 => by rw [sm_s, sm_s, sm_mul c f N, Nat.mul_add]
theorem sm_z : ∀ N, sm (fun _ => 0) N = 0
  | 0 => rfl
  | N + 1 => by rw [sm_s, sm_z N]
theorem sm_swap (f : Nat → Nat → Nat) (M : Nat) : ∀ N, sm (fun s => sm (fun t => f s t) M) N = sm (fun t => sm (fun s => f s t) N) M
  | 0 => by rw [sm_0]; exact (sm_z M).symm
  | N + 1 => by
    rw [sm_s, sm_swap f M N, ← sm_add]
    exact sm_cg M (fun i _ => (sm_s (fun s => f s i) N).symm)
theorem sm_at (T k : Nat) : ∀ N, sm (fun s => if T = s then k else 0) N = if T < N then k else 0
  | 0 => by rw [sm_0, if_neg (by omega)]
  | N + 1 => by
    rw [sm_s, sm_at T k N]
    by_cases c : T = N
    · rw [if_pos c, if_neg (by omega), if_pos (by omega)]; omega
    · rw [if_neg c]
      by_cases d : T < N
      · rw [if_pos d, if_pos (by omega)]; omega
      · rw [if_neg d, if_neg (by omega)]
theorem sm_ext {f : Nat → Nat} {M : Nat} (h : ∀ i, M ≤ i → f i = 0) : ∀ N, M ≤ N → sm f N = sm f M
  | 0, hN => by rw [show M = 0 by omega]
  | N + 1, hN => by
    rcases (by omega : M = N + 1 ∨ M ≤ N) with c | c
    · rw [c]
    · rw [sm_s, h N c, sm_ext h N c]; omega
theorem sm_le {f : Nat → Nat} {i N : Nat} (h : i < N) : f i ≤ sm f N := by
  induction N with
  | zero => omega
  | succ N ih =>
    rw [sm_s]
    rcases (by omega : i < N ∨ i = N) with c | c
    · have := ih c; omega
    · rw [c]; omega
theorem sm_mono {f g : Nat → Nat} (h : ∀ i, f i ≤ g i) : ∀ N, sm f N ≤ sm g N
  | 0 => Nat.le_refl _
  | N + 1 => by rw [sm_s, sm_s]; have := sm_mono h N; have := h N; omega
theorem sm_bits {T : Nat} (P : Nat) (hP : P ≤ 8) (hT : T < 2 ^ P) : sm (fun p => (T.testBit p).toNat) P = sp_bits T := by
  show _ = sm (fun p => (T.testBit p).toNat) 8
  exact (sm_ext (fun i hi => by
    show (T.testBit i).toNat = 0
    rw [Nat.testBit_lt_two_pow (Nat.lt_of_lt_of_le hT (Nat.pow_le_pow_right (by omega) hi))]; rfl) 8 hP).symm
/-- what one way comes to: lots that let nobody go, and one a person -/
def sp_cp (T s : Nat) : Nat → Nat := sm (fun p => if T.testBit p = true ∧ mx_wo T (2 ^ p) = s then 1 else 0)
def sp_ct (P T s : Nat) : Nat := (if T = s then 10 - sp_bits T else 0) + sp_cp T s P
theorem sp_ct_sum {P T : Nat} (hP : P ≤ 8) (hT : T < 2 ^ P) : sm (fun s => sp_ct P T s) 256 = 10 := by
  have p2 := mx_p2 hP
  have hb := sp_bits_le T
  have e1 : sm (fun s => sp_ct P T s) 256 = sm (fun s => if T = s then 10 - sp_bits T else 0) 256 + sm (fun s => sp_cp T s P) 256 := sm_add _ _ 256
  have e2 : sm (fun s => sp_cp T s P) 256 = sm (fun p => (T.testBit p).toNat) P := by
    refine (sm_swap (fun s p => if T.testBit p = true ∧ mx_wo T (2 ^ p) = s then 1 else 0) P 256).trans (sm_cg P (fun p hp => ?_))
    cases q : T.testBit p with
    | false =>
      refine (sm_cg 256 (fun i _ => ?_)).trans (sm_z 256)
      show (if false = true ∧ _ then 1 else 0) = 0
      rw [if_neg (fun c => by cases c.1)]
    | true =>
      refine (sm_cg 256 (g := fun s => if mx_wo T (2 ^ p) = s then 1 else 0) (fun i _ => ?_)).trans ((sm_at _ 1 256).trans (if_pos (Nat.lt_of_lt_of_le (mx_wo_lt hT) p2)))
      show (if true = true ∧ mx_wo T (2 ^ p) = i then 1 else 0) = if mx_wo T (2 ^ p) = i then 1 else 0
      by_cases c : mx_wo T (2 ^ p) = i
      · rw [if_pos ⟨rfl, c⟩, if_pos c]
      · rw [if_neg (fun d => c d.2), if_neg c]
  rw [e1, e2, sm_bits P hP hT, sm_at, if_pos (by omega)]
  omega
def sp_step (A : Nat → Int32) (c : Nat → Nat) (s : Nat) : Nat := sm (fun t => c t * sp_ct (sp_P A) (sp_week A t) s) 256
def sp_ch (A : Nat → Int32) : Nat → Nat → Nat
  | 0, s => if sp_hold A = s then 1 else 0
  | i + 1, s => sp_step A (sp_ch A i) s
theorem sp_ct_sub {P T s : Nat} (h : sp_ct P T s ≠ 0) : sp_sub s T := by
  unfold sp_ct at h
  by_cases c : T = s
  · rw [c]; exact fun _ q => q
  · rw [if_neg c, Nat.zero_add] at h
    have : ∀ N, sp_cp T s N ≠ 0 → sp_sub s T := by
      intro N
      induction N with
      | zero => intro h; exact absurd rfl h
      | succ N ih =>
        intro h
        have e : sp_cp T s (N + 1) = sp_cp T s N + if T.testBit N = true ∧ mx_wo T (2 ^ N) = s then 1 else 0 := rfl
        by_cases d : T.testBit N = true ∧ mx_wo T (2 ^ N) = s
        · rw [← d.2]; exact mx_wo_sub _ _
        · rw [e, if_neg d, Nat.add_zero] at h; exact ih h
    exact this P h
theorem sm_nz {f : Nat → Nat} : ∀ N, sm f N ≠ 0 → ∃ i, i < N ∧ f i ≠ 0
  | 0, h => absurd rfl h
  | N + 1, h => by
    rw [sm_s] at h
    by_cases c : f N = 0
    · obtain ⟨i, hi, q⟩ := sm_nz N (fun d => h (by rw [d, c]))
      exact ⟨i, by omega, q⟩
    · exact ⟨N, by omega, c⟩
theorem sp_ch_sub {A : Nat → Int32} : ∀ i s, sp_ch A i s ≠ 0 → sp_sub s (sp_hold A)
  | 0, s, h => by
    unfold sp_ch at h
    by_cases c : sp_hold A = s
    · rw [c]; exact fun _ q => q
    · rw [if_neg c] at h; exact absurd rfl h
  | i + 1, s, h => by
    obtain ⟨t, -, ht⟩ := sm_nz 256 h
    have h1 : sp_ch A i t ≠ 0 := fun c => ht (by show sp_ch A i t * _ = 0; rw [c, Nat.zero_mul])
    have h2 : sp_ct (sp_P A) (sp_week A t) s ≠ 0 := fun c => ht (by show _ * sp_ct _ _ _ = 0; rw [c, Nat.mul_zero])
    exact fun j hj => sp_ch_sub i t h1 j (sp_week_sub A t j (sp_ct_sub h2 j hj))
theorem sp_ch_0 {A : Nat → Int32} {i s : Nat} (h : sp_hold A < s) : sp_ch A i s = 0 := by
  by_cases c : sp_ch A i s = 0
  · exact c
  · have := sp_sub_le (sp_ch_sub i s c); omega
theorem sp_ch_sum {A : Nat → Int32} (m : m_ok A) : ∀ i, sm (fun s => sp_ch A i s) 256 = 10 ^ i
  | 0 => by
    have p2 := mx_p2 m.1.2.1
    have := m.hold.2
    exact (sm_at (sp_hold A) 1 256).trans (if_pos (by omega))
  | i + 1 => by
    have p2 := mx_p2 m.1.2.1
    have e : sm (fun s => sp_ch A (i + 1) s) 256 = sm (fun t => sm (fun s => sp_ch A i t * sp_ct (sp_P A) (sp_week A t) s) 256) 256 := sm_swap (fun s t => sp_ch A i t * sp_ct (sp_P A) (sp_week A t) s) 256 256
    have e2 : sm (fun t => sm (fun s => sp_ch A i t * sp_ct (sp_P A) (sp_week A t) s) 256) 256 = sm (fun t => 10 * sp_ch A i t) 256 := sm_cg 256 (fun t _ => by
      rw [sm_mul]
      by_cases c : sp_ch A i t = 0
      · rw [c, Nat.zero_mul]
      · have ht : t < 2 ^ sp_P A := sp_sub_lt (sp_ch_sub i t c) m.hold.2
        rw [sp_ct_sum m.1.2.1 (sp_week_lt ht), Nat.mul_comm])
    rw [e, e2, sm_mul, sp_ch_sum m i, Nat.pow_succ, Nat.mul_comm]
theorem sp_ch_le {A : Nat → Int32} (m : m_ok A) {i s : Nat} (hi : i ≤ 8) : sp_ch A i s ≤ 100000000 := by
  have p2 := mx_p2 m.1.2.1
  have hh := m.hold.2
  by_cases c : s < 256
  · have h1 : sp_ch A i s ≤ sm (fun s => sp_ch A i s) 256 := sm_le (f := fun s => sp_ch A i s) c
    rw [sp_ch_sum m i] at h1
    have : 10 ^ i ≤ 10 ^ 8 := Nat.pow_le_pow_right (by omega) hi
    omega
  · rw [sp_ch_0 (by omega)]; omega
def sp_abC (A : Nat → Int32) (n : Nat) : Nat → Nat := sm (fun s => cond (sp_float A s) (sp_ch A n s) 0)
def sp_abM (A : Nat → Int32) (n : Nat) : Nat → Nat := sm (fun s => sp_ch A n s * sp_bits s)
theorem sp_abC_le {A : Nat → Int32} (m : m_ok A) {n : Nat} (hn : n ≤ 8) (N : Nat) (hN : N ≤ 256) : sp_abC A n N ≤ 100000000 := by
  have h1 : sp_abC A n N ≤ sm (fun s => sp_ch A n s) N := sm_mono (fun s => by cases sp_float A s <;> simp) N
  have h2 : sm (fun s => sp_ch A n s) N ≤ sm (fun s => sp_ch A n s) 256 := by
    have : ∀ M, N ≤ M → sm (fun s => sp_ch A n s) N ≤ sm (fun s => sp_ch A n s) M := by
      intro M
      induction M with
      | zero => intro h; rw [show N = 0 by omega]; exact Nat.le_refl _
      | succ M ih =>
        intro h
        rcases (by omega : N = M + 1 ∨ N ≤ M) with c | c
        · rw [c]; exact Nat.le_refl _
        · rw [sm_s]; have := ih c; omega
    exact this 256 hN
  rw [sp_ch_sum m n] at h2
  have : 10 ^ n ≤ 10 ^ 8 := Nat.pow_le_pow_right (by omega) hn
  omega
theorem sp_abM_le {A : Nat → Int32} (m : m_ok A) {n : Nat} (hn : n ≤ 8) (N : Nat) (hN : N ≤ 256) : sp_abM A n N ≤ 800000000 := by
  have h1 : sp_abM A n N ≤ sm (fun s => 8 * sp_ch A n s) N := sm_mono (fun s => by
    have := sp_bits_le s
    rw [Nat.mul_comm]
    exact Nat.mul_le_mul_right _ this) N
  have h2 : sm (fun s => sp_ch A n s) N ≤ sm (fun s => sp_ch A n s) 256 := by
    have : ∀ M, N ≤ M → sm (fun s => sp_ch A n s) N ≤ sm (fun s => sp_ch A n s) M := by
      intro M
      induction M with
      | zero => intro h; rw [show N = 0 by omega]; exact Nat.le_refl _
      | succ M ih =>
        intro h
        rcases (by omega : N = M + 1 ∨ N ≤ M) with c | c
        · rw [c]; exact Nat.le_refl _
        · rw [sm_s]; have := ih c; omega
    exact this 256 hN
  rw [sp_ch_sum m n] at h2
  have h1 : sp_abM A n N ≤ 8 * sm (fun s => sp_ch A n s) N := by rw [← sm_mul]; exact h1
  have : 10 ^ n ≤ 10 ^ 8 := Nat.pow_le_pow_right (by omega) hn
  omega
def sp_noc (x y : Int32) : Int32 := if y = 0 ∨ y = 1 then cond (bn x 9) 0 (-3) else -2
def sp_frac (a n : Nat) (y : Int32) : Int32 := nI ((if y = 0 then a else 10 ^ n) / Nat.gcd a (10 ^ n))
def v_chance (V : vw) (x y : Int32) : Int32 := if sp_noc x y = 0 then sp_frac (sp_abC (vA V) x.toNatClampNeg 256) x.toNatClampNeg y else sp_noc x y
def v_mean (V : vw) (x y : Int32) : Int32 := if sp_noc x y = 0 then sp_frac (sp_abM (vA V) x.toNatClampNeg 256) x.toNatClampNeg y else sp_noc x y
theorem sp_noc0 {x y : Int32} (h : sp_noc x y = 0) : ∃ n, n ≤ 8 ∧ x = nI n := by
  unfold sp_noc at h
  by_cases c : y = 0 ∨ y = 1
  · rw [if_pos c] at h
    cases z : bn x 9 with
    | false => rw [z, cond_false] at h; exact absurd h (by decide)
    | true =>
      obtain ⟨j, hj, e⟩ := bnT (by omega) z
      exact ⟨j, by omega, e⟩
  · rw [if_neg c] at h; exact absurd h (by decide)
theorem mx_167 (x y : Int32) : pf167 x y = sp_noc x y := by
  unfold pf167 sp_noc
  rw [mx_128]
  by_cases c : y = 0 ∨ y = 1
  · rw [decide_eq_true c, if_pos c, cond_true]
    by_cases q : x < 0
    · rw [if_pos q]
      have : bn x 9 = false := by unfold bn; rw [decide_eq_true q]; rfl
      rw [this]; rfl
    · rw [if_neg q, bn_gt (N := 8) (by omega) q]
      by_cases r : 8 < x
      · rw [if_pos r, decide_eq_true (show nI 8 < x from r)]; rfl
      · rw [if_neg r, decide_eq_false (show ¬ nI 8 < x from r)]; rfl
  · rw [decide_eq_false c, if_neg c]; rfl
theorem mx_292 (x y : Int32) : pf292 x y = sp_noc x y := by
  unfold pf292 sp_noc
  rw [mx_w01, show pf182 x.toInt64 0 8 = bn x 9 from bn_w 8 (by omega) rfl]
  by_cases c : y = 0 ∨ y = 1
  · rw [decide_eq_true c, if_pos c, cond_true]
  · rw [decide_eq_false c, if_neg c]; rfl
