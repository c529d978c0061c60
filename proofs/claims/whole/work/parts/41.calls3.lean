/-! Calls: least, starts, needed, steady, when, spark. -/
def mx_o (o : Option Nat) : Int32 := match o with
  | none => -1
  | some s => nI s
def sp_bt (o : Option Nat) (s : Nat) : Bool := match o with
  | none => true
  | some b => decide (sp_bits s < sp_bits b)
def sp_fw (c : Nat → Bool) : Nat → Option Nat := mx_fold (fun s o => if c s = true ∧ sp_bt o s = true then some s else o) none
def v_told (o : Option Nat) (y : Int32) : Int32 := match o with
  | none => -1
  | some s => if y = 1 then nI s else nI (sp_bits s)
def sp_ol (o : Option Nat) : Prop := ∀ s, o = some s → s < 256
theorem sp_fw_s (c : Nat → Bool) (s : Nat) : sp_fw c (s + 1) = if c s = true ∧ sp_bt (sp_fw c s) s = true then some s else sp_fw c s := rfl
theorem sp_fw_l (c : Nat → Bool) : ∀ N, N ≤ 256 → sp_ol (sp_fw c N)
  | 0, _ => fun s h => by cases h
  | N + 1, hN => by
    rw [sp_fw_s]
    split
    · intro s h; cases h; omega
    · exact sp_fw_l c N (by omega)
theorem sp_fw_ge {c : Nat → Bool} {M : Nat} (h : ∀ s, M ≤ s → c s = false) : ∀ N, M ≤ N → sp_fw c N = sp_fw c M
  | 0, hN => by rw [show M = 0 by omega]
  | N + 1, hN => by
    rcases (by omega : M = N + 1 ∨ M ≤ N) with q | q
    · rw [q]
    · rw [sp_fw_s, if_neg (fun z => by rw [h N q] at z; exact absurd z.1 (by decide)), sp_fw_ge h N q]
theorem mx_133 {o : Option Nat} {s : Nat} (hs : s < 256) (ho : sp_ol o) : pf133 (nI s) (mx_o o) = sp_bt o s := by
  unfold pf133 mx_o sp_bt
  match o, ho with
  | none, _ => rw [if_pos rfl]
  | some b, ho =>
    have hb := ho b rfl
    have := sp_bits_le s
    have := sp_bits_le b
    show (if nI b = -1 then true else if pf305 (nI s) < pf305 (nI b) then true else false) = _
    rw [if_neg (mx_m1n (by omega)), mx_305 s hs, mx_305 b hb]
    by_cases q : sp_bits s < sp_bits b
    · rw [if_pos ((nI_ltI (by omega) (by omega)).mpr q)]; exact (decide_eq_true q).symm
    · rw [if_neg (fun c => q ((nI_ltI (by omega) (by omega)).mp c))]; exact (decide_eq_false q).symm
theorem mx_135 {o : Option Nat} {y : Int32} (ho : sp_ol o) : pf135 (mx_o o) y = v_told o y := by
  unfold pf135 mx_o v_told
  match o, ho with
  | none, _ => rw [if_pos rfl]
  | some b, ho =>
    have hb := ho b rfl
    show (if nI b = -1 then nI b else if y = 1 then nI b else pf305 (nI b)) = if y = 1 then nI b else nI (sp_bits b)
    rw [if_neg (mx_m1n (by omega)), mx_305 b hb]
theorem ct254 {E : mv_E} {D k n : Nat} {h : mv_H} {Q : mv_Q} {x0 x1 : Int32} (o : Option Nat) (s : Nat) (hs : s < 256) (ho : sp_ol o) (e0 : x0 = mx_o o) (e1 : x1 = nI s) (H : Q (some (.int (mx_o (if sp_bt o s = true then some s else o)))) h) : mv_VE E (D + 1) k n 254 0 [some (.int x0), some (.int x1)] [] h Q := by
  subst e0; subst e1
  apply sg254_0
  match o, ho, H with
  | none, _, H => rw [if_pos (show mx_o none = -1 from rfl)]; exact H
  | some b, ho, H =>
    have hb := ho b rfl
    have l1 := sp_bits_le s
    have l2 := sp_bits_le b
    rw [if_neg (show ¬ mx_o (some b) = -1 from mx_m1n (by omega))]
    refine ct214 s (by omega) rfl ⟨_, rfl, ?_⟩
    refine ct214 b (by omega) rfl ⟨_, rfl, ?_⟩
    have e : (sp_bt (some b) s = true) ↔ sp_bits s < sp_bits b := decide_eq_true_iff
    refine mx_lt (sp_bits s) (sp_bits b) (fun q => ?_) (fun q => ?_) (by omega) (by omega)
    · rw [if_pos (e.mpr q)] at H; exact H
    · rw [if_neg (fun c => by have := e.mp c; omega)] at H; exact H
theorem ct255 {E : mv_E} {D k n : Nat} {h : mv_H} {Q : mv_Q} {x0 y : Int32} (o : Option Nat) (ho : sp_ol o) (e0 : x0 = mx_o o) (H : Q (some (.int (v_told o y))) h) : mv_VE E (D + 1) k n 255 0 [some (.int x0), some (.int y)] [] h Q := by
  subst e0
  apply sg255_0
  match o, ho, H with
  | none, _, H => rw [if_pos (show mx_o none = -1 from rfl)]; exact H
  | some b, ho, H =>
    have hb := ho b rfl
    rw [if_neg (show ¬ mx_o (some b) = -1 from mx_m1n (by omega))]
    have H : Q (some (.int (if y = 1 then nI b else nI (sp_bits b)))) h := H
    refine mx_if (fun q => ?_) (fun q => ?_)
    · rw [if_pos q] at H; exact H
    · rw [if_neg q] at H; exact ct214 b (by omega) rfl ⟨_, rfl, H⟩
theorem sp_fw_step {c : Nat → Bool} {s : Nat} (hc : c s = true) : sp_fw c (s + 1) = if sp_bt (sp_fw c s) s = true then some s else sp_fw c s := by
  rw [sp_fw_s]
  by_cases q : sp_bt (sp_fw c s) s = true
  · rw [if_pos ⟨hc, q⟩, if_pos q]
  · rw [if_neg (fun z => q z.2), if_neg q]
theorem sp_fw_no {c : Nat → Bool} {s : Nat} (hc : ¬ (c s = true ∧ sp_bt (sp_fw c s) s = true)) : sp_fw c (s + 1) = sp_fw c s := by rw [sp_fw_s, if_neg hc]
-- least
def v_least (V : vw) (y : Int32) : Int32 := if y = 0 ∨ y = 1 then v_told (sp_fw (fun s => sp_float (vA V) s) (2 ^ sp_P (vA V))) y else -2
theorem cc138 {E : mv_E} {D k n : Nat} {h : mv_H} {Q : mv_Q} {V : vw} {y : Int32} (i : InvC E h V) (m : InvM V) (H : ∀ h', InvC E h' V → fCl h h' → Q (some (.int (v_least V y))) h') : mv_VE E (D + 4) k n 138 0 [some (.ref 50), some (.int y), none, none] [] h Q := by
  have p2 := m.p2
  have p1 : 0 < 2 ^ sp_P (vA V) := Nat.pow_pos (by omega)
  apply sg138_0
  unfold v_least at H
  refine mx_cdb _ (mx_128 y) (fun q => ?_) (fun q => ?_)
  · rw [if_pos (of_decide_eq_true q)] at H
    refine cc51 i m rfl (fun h1 f1 s1 => ⟨rfl, ?_⟩)
    refine mx_loop (P := fun s => ∀ h', InvS E h' V → fCl h h' → mv_VE E (D + 4) k n 138 29 [some (.ref 50), some (.int y), some (.int (mx_o (sp_fw (fun s => sp_float (vA V) s) s))), some (.int (nI s))] [] h' Q) (2 ^ sp_P (vA V)) ?_ ?_ h1 s1 f1.fC6
    · intro h' i' f'
      apply sg138_29
      rw [i'.1.1.1.1.1.2.1]
      refine mv_gdI rfl (ct29 i'.1.1.1.1 m.ok ⟨_, rfl, ?_⟩)
      refine mx_ltT _ _ (show 2 ^ sp_P (vA V) - 1 < 2 ^ sp_P (vA V) by omega) ?_ (by omega)
      rw [mx_135 (sp_fw_l _ _ p2)]
      exact H h' (i'.C m) f'
    · intro s hs ih h' i' f'
      apply sg138_29
      rw [i'.1.1.1.1.1.2.1]
      refine mv_gdI rfl (ct29 i'.1.1.1.1 m.ok ⟨_, rfl, ?_⟩)
      refine mx_ltF (2 ^ sp_P (vA V) - 1) s (by omega) ?_ (by omega)
      rw [nI_1]
      refine mx_cdb _ (mx_133 (by omega) (sp_fw_l _ _ (by omega))) (fun z => ?_) (fun z => ?_)
      · refine cs57 s i' f' m hs rfl (fun h2 i2 f2 => ⟨_, rfl, ?_⟩)
        have ih2 := ih h2 i2 f2
        cases b : sp_float (vA V) s with
        | false =>
          rw [if_pos (by rfl)]
          rw [sp_fw_no (fun c => by have := c.1; rw [b] at this; cases this)] at ih2
          exact ih2
        | true =>
          rw [if_neg (by decide)]
          rw [sp_fw_step b, if_pos z] at ih2
          exact ih2
      · have ih2 := ih h' i' f'
        rw [sp_fw_no (fun c => by have := c.2; rw [z] at this; cases this)] at ih2
        exact ih2
  · rw [if_neg (of_decide_eq_false q)] at H
    exact H h i fCl.rf
theorem cm259 {E : mv_E} {D k n : Nat} {h : mv_H} {Q : mv_Q} {V : vw} {y : Int32} (e : vw_of h = V) (m : InvM V) (H : ∀ h', fM V h h' → Q (some (.int (v_least V y))) h') : mv_VE E (D + 4) k n 259 0 [some (.ref 148), some (.int y), none, none] [] h Q := by
  have p2 := m.p2
  have p1 : 0 < 2 ^ sp_P (vA V) := Nat.pow_pos (by omega)
  have f0 : fM V h (mv_sI h 148 0 0) := by subst e; exact fM0
  apply sg259_0
  unfold v_least at H
  refine mx_cdb _ (mx_w01 y) (fun q => ?_) (fun q => ?_)
  · rw [if_pos (of_decide_eq_true q)] at H
    refine mx_loop (P := fun s => ∀ h', fM V h h' → mv_VE E (D + 4) k n 259 22 [some (.ref 148), some (.int y), some (.int (mx_o (sp_fw (fun s => sp_float (vA V) s) s))), some (.int (nI s))] [] h' Q) (2 ^ sp_P (vA V)) ?_ ?_ _ f0
    · intro h' f'
      apply sg259_22
      rw [cw219 f' m]
      refine mx_ltT _ _ (show 2 ^ sp_P (vA V) - 1 < 2 ^ sp_P (vA V) by omega) ?_ (by omega)
      exact ct255 _ (sp_fw_l _ _ p2) rfl ⟨_, rfl, H h' f'⟩
    · intro s hs ih h' f'
      apply sg259_22
      rw [cw219 f' m]
      refine mx_ltF (2 ^ sp_P (vA V) - 1) s (by omega) ?_ (by omega)
      rw [nI_1]
      refine cw220 s f' m (by omega) rfl (fun h2 f2 => ⟨_, rfl, ?_⟩)
      have ih2 := ih h2 f2
      cases b : sp_float (vA V) s with
      | false =>
        rw [if_pos (by rfl)]
        rw [sp_fw_no (fun c => by have := c.1; rw [b] at this; cases this)] at ih2
        exact ih2
      | true =>
        rw [if_neg (by decide)]
        rw [sp_fw_step b] at ih2
        exact ct254 _ s (by omega) (sp_fw_l _ _ (by omega)) rfl rfl ⟨_, rfl, ih2⟩
  · rw [if_neg (of_decide_eq_false q)] at H
    exact H _ f0
-- starts
theorem mx_sub0 {a b : Nat} (ha : a < 256) : (nI a &&& (nI b ^^^ (-1)) = 0) ↔ sp_sub a b := by
  rw [mx_andn, show (0 : Int32) = nI 0 from rfl, nI_eq (by have := mx_wo_lt (a := a) (b := b) (n := 8) ha; omega) (by omega)]
  constructor
  · intro h j hj
    have e : (mx_wo a b).testBit j = false := by rw [h, Nat.zero_testBit]
    rw [mx_wo_bit, hj] at e
    cases q : b.testBit j with
    | true => rfl
    | false => rw [q] at e; cases e
  · intro h
    apply Nat.eq_of_testBit_eq
    intro j
    rw [mx_wo_bit, Nat.zero_testBit]
    cases q : a.testBit j with
    | false => rfl
    | true => rw [h j q]; rfl
theorem sp_sub_le {a b : Nat} (h : sp_sub a b) : a ≤ b := by
  have e : a = a &&& b := by
    apply Nat.eq_of_testBit_eq
    intro j
    rw [Nat.testBit_and]
    cases q : a.testBit j with
    | false => rfl
    | true => rw [h j q]; rfl
  rw [e]; exact Nat.and_le_right
/-- whether a set within another -/
def sp_sb (a b : Nat) : Bool := decide (mx_wo a b = 0)
theorem sp_sbE {a b : Nat} : sp_sb a b = true ↔ sp_sub a b := by
  unfold sp_sb
  rw [decide_eq_true_iff]
  constructor
  · intro h j hj
    have e : (mx_wo a b).testBit j = false := by rw [h, Nat.zero_testBit]
    rw [mx_wo_bit, hj] at e
    cases q : b.testBit j with
    | true => rfl
    | false => rw [q] at e; cases e
  · intro h
    apply Nat.eq_of_testBit_eq
    intro j
    rw [mx_wo_bit, Nat.zero_testBit]
    cases q : a.testBit j with
    | false => rfl
    | true => rw [h j q]; rfl
def sp_start (A : Nat → Int32) (kind : Int32) (s : Nat) : Bool := if kind = 0 then (sp_stl A (mx_wo (sp_hold A) s)).2.2 else decide ((sp_stl A (mx_wo (sp_hold A) s)).1 = 0)
def v_starts (V : vw) (x y : Int32) : Int32 := if (x = 0 ∨ x = 1) ∧ (y = 0 ∨ y = 1) then v_told (sp_fw (fun s => sp_sb s (sp_hold (vA V)) && sp_start (vA V) x s) (2 ^ sp_P (vA V))) y else -2
theorem mx_find_ne {c : Nat → Bool} : ∀ g i, i + g < 1000 → (mx_find c g i = -1 ↔ ∀ j, i ≤ j → j < i + g → c j = false)
  | 0, i, h => ⟨fun _ j h1 h2 => by omega, fun _ => rfl⟩
  | g + 1, i, h => by
    unfold mx_find
    by_cases q : c i = true
    · rw [if_pos q]
      refine ⟨fun z => absurd z (mx_m1n (by omega)), fun z => ?_⟩
      have := z i (by omega) (by omega)
      rw [q] at this; cases this
    · rw [if_neg q, mx_find_ne g (i + 1) (by omega)]
      constructor
      · intro z j h1 h2
        rcases (by omega : j = i ∨ i + 1 ≤ j) with r | r
        · rw [r]; cases w : c i with
          | false => rfl
          | true => exact absurd w q
        · exact z j r (by omega)
      · intro z j h1 h2
        exact z j (by omega) (by omega)
theorem sp_snk_stl {A : Nat → Int32} {s : Nat} (hs : s < 256) : (sp_snk A s = -1) ↔ (sp_stl A s).2.2 = false := by
  unfold sp_snk
  rw [mx_find_ne 9 0 (by omega)]
  have k := sp_stl_sunk (A := A) hs
  constructor
  · intro z
    cases q : (sp_stl A s).2.2 with
    | false => rfl
    | true =>
      obtain ⟨i, h1, h2⟩ := k.mp q
      have := z i (by omega) (by omega)
      rw [h2] at this; cases this
  · intro z j _ hj
    cases w : sp_float A (sp_it A s j) with
    | true => rfl
    | false =>
      have := k.mpr ⟨j, by omega, w⟩
      rw [z] at this; cases this
theorem mx_wo_sub (a b : Nat) : sp_sub (mx_wo a b) a := by
  intro j hj
  rw [mx_wo_bit, Bool.and_eq_true] at hj
  exact hj.1
theorem cs134 {E : mv_E} {D k n : Nat} {h0 h : mv_H} {Q : mv_Q} {V : vw} {x x2 : Int32} (s : Nat) (i : InvS E h V) (f : fCl h0 h) (m : InvM V) (e : x2 = nI s) (H : ∀ h', InvS E h' V → fCl h0 h' → Q (some (.int (nI (sp_start (vA V) x s).toNat))) h') : mv_VE E (D + 5) k n 134 0 [some (.ref 50), some (.int x), some (.int x2), none] [] h Q := by
  subst e
  have p2 := m.p2
  have hl : mx_wo (sp_hold (vA V)) s < 2 ^ sp_P (vA V) := mx_wo_lt m.1.1.hold.2
  have eh : mv_I h 81 0 = nI (sp_hold (vA V)) := i.1.1.2.1.1.trans m.1.1.hold.1
  apply sg134_0
  unfold sp_start at H
  rw [eh, mx_andn]
  refine mx_if (fun q => ?_) (fun q => ?_)
  · rw [if_pos q] at H
    refine cs62 _ i f m hl rfl (fun h2 i2 f2 => ⟨_, rfl, ?_⟩)
    have hH := H h2 i2 f2
    have k := sp_snk_stl (A := vA V) (s := mx_wo (sp_hold (vA V)) s) (by omega)
    cases z : (sp_stl (vA V) (mx_wo (sp_hold (vA V)) s)).2.2 with
    | false => rw [if_pos (k.mpr z)]; rw [z] at hH; exact hH
    | true => rw [if_neg (fun c => by rw [k.mp c] at z; cases z)]; rw [z] at hH; exact hH
  · rw [if_neg q, sp_stl8 (by omega)] at H
    refine cs60 _ i f m hl rfl (fun h2 i2 f2 => ⟨_, rfl, ?_⟩)
    have hH := H h2 i2 f2
    have l8 := sp_it_lt (A := vA V) hl 8
    refine mx_eq (sp_it (vA V) (mx_wo (sp_hold (vA V)) s) 8) 0 (fun z => ?_) (fun z => ?_) (by omega) (by omega)
    · rw [decide_eq_true z] at hH; exact hH
    · rw [decide_eq_false z] at hH; exact hH
theorem cc132 {E : mv_E} {D k n : Nat} {h : mv_H} {Q : mv_Q} {V : vw} {x y : Int32} (i : InvC E h V) (m : InvM V) (H : ∀ h', InvC E h' V → fCl h h' → Q (some (.int (v_starts V x y))) h') : mv_VE E (D + 6) k n 132 0 [some (.ref 50), some (.int x), some (.int y), none, none] [] h Q := by
  have p2 := m.p2
  have hh := m.1.1.hold
  apply sg132_0
  unfold v_starts at H
  refine mx_cdb _ (mx_128 x) (fun q1 => ?_) (fun q1 => ?_)
  · have q1 := of_decide_eq_true q1
    refine mx_cdb _ (mx_128 y) (fun q => ?_) (fun q => ?_)
    · have q := of_decide_eq_true q
      rw [if_pos ⟨q1, q⟩, sp_fw_ge (M := sp_hold (vA V) + 1) (fun s hs => by
        cases z : sp_sb s (sp_hold (vA V)) with
        | false => rfl
        | true => have := sp_sub_le (sp_sbE.mp z); omega) _ (by omega)] at H
      refine cc51 i m rfl (fun h1 f1 s1 => ⟨rfl, ?_⟩)
      refine mx_loop (P := fun s => ∀ h', InvS E h' V → fCl h h' → mv_VE E (D + 6) k n 132 37 [some (.ref 50), some (.int x), some (.int y), some (.int (mx_o (sp_fw (fun s => sp_sb s (sp_hold (vA V)) && sp_start (vA V) x s) s))), some (.int (nI s))] [] h' Q) (sp_hold (vA V) + 1) ?_ ?_ h1 s1 f1.fC6
      · intro h' i' f'
        have eh : mv_I h' 81 0 = nI (sp_hold (vA V)) := i'.1.1.2.1.1.trans hh.1
        apply sg132_37
        rw [eh]
        refine mx_ltT (sp_hold (vA V)) _ (Nat.lt_succ_self _) ?_ (by omega)
        rw [mx_135 (sp_fw_l _ _ (by omega))]
        exact H h' (i'.C m) f'
      · intro s hs ih h' i' f'
        have eh : mv_I h' 81 0 = nI (sp_hold (vA V)) := i'.1.1.2.1.1.trans hh.1
        apply sg132_37
        rw [eh, nI_1]
        refine mx_ltF (sp_hold (vA V)) s (by omega) ?_ (by omega)
        refine mx_if (fun z => ?_) (fun z => ?_)
        · have sb := sp_sbE.mpr ((mx_sub0 (by omega)).mp z)
          refine mx_cdb _ (mx_133 (by omega) (sp_fw_l _ _ (by omega))) (fun z2 => ?_) (fun z2 => ?_)
          · refine cs134 s i' f' m rfl (fun h2 i2 f2 => ⟨_, rfl, ?_⟩)
            have ih2 := ih h2 i2 f2
            cases b : sp_start (vA V) x s with
            | false =>
              rw [if_pos (by rfl)]
              rw [sp_fw_no (fun c => by have := c.1; rw [b, Bool.and_false] at this; cases this)] at ih2
              exact ih2
            | true =>
              rw [if_neg (by decide)]
              rw [sp_fw_step (by rw [b, sb]; rfl), if_pos z2] at ih2
              exact ih2
          · have ih2 := ih h' i' f'
            rw [sp_fw_no (fun c => by have := c.2; rw [z2] at this; cases this)] at ih2
            exact ih2
        · have ih2 := ih h' i' f'
          rw [sp_fw_no (fun c => by
            have := c.1
            rw [Bool.and_eq_true] at this
            exact z ((mx_sub0 (by omega)).mpr (sp_sbE.mp this.1)))] at ih2
          exact ih2
    · rw [if_neg (fun c => of_decide_eq_false q c.2)] at H
      exact H h i fCl.rf
  · rw [if_neg (fun c => of_decide_eq_false q1 c.1)] at H
    exact H h i fCl.rf
theorem cm253 {E : mv_E} {D k n : Nat} {h : mv_H} {Q : mv_Q} {V : vw} {x y : Int32} (e : vw_of h = V) (m : InvM V) (H : ∀ h', fM V h h' → Q (some (.int (v_starts V x y))) h') : mv_VE E (D + 5) k n 253 0 [some (.ref 148), some (.int x), some (.int y), none, none, none] [] h Q := by
  have p2 := m.p2
  have p1 : 0 < 2 ^ sp_P (vA V) := Nat.pow_pos (by omega)
  have hh := m.1.1.hold
  have f0 : fM V h (mv_sI h 148 0 0) := by subst e; exact fM0
  apply sg253_0
  unfold v_starts at H
  refine mx_cdb _ (mx_w01 x) (fun q1 => ?_) (fun q1 => ?_)
  · have q1 := of_decide_eq_true q1
    refine mx_cdb _ (mx_w01 y) (fun q => ?_) (fun q => ?_)
    · have q := of_decide_eq_true q
      rw [if_pos ⟨q1, q⟩] at H
      refine mx_loop (P := fun s => ∀ h', fM V h h' → mv_VE E (D + 5) k n 253 33 [some (.ref 148), some (.int x), some (.int y), some (.int (mx_o (sp_fw (fun s => sp_sb s (sp_hold (vA V)) && sp_start (vA V) x s) s))), some (.int (nI s)), none] [] h' Q) (2 ^ sp_P (vA V)) ?_ ?_ _ f0
      · intro h' f'
        apply sg253_33
        rw [cw219 f' m]
        refine mx_ltT _ _ (show 2 ^ sp_P (vA V) - 1 < 2 ^ sp_P (vA V) by omega) ?_ (by omega)
        exact ct255 _ (sp_fw_l _ _ p2) rfl ⟨_, rfl, H h' f'⟩
      · intro s hs ih h' f'
        have hl : mx_wo (sp_hold (vA V)) s < 2 ^ sp_P (vA V) := mx_wo_lt hh.2
        apply sg253_33
        rw [cw219 f' m, f'.A, hh.1, nI_1, mx_andn (sp_hold (vA V)) s]
        refine mx_ltF (2 ^ sp_P (vA V) - 1) s (by omega) ?_ (by omega)
        refine mx_if (fun z => ?_) (fun z => ?_)
        · have sb := sp_sbE.mpr ((mx_sub0 (by omega)).mp z)
          refine cw249 _ f' m (by omega) rfl (fun h2 f2 a b => ⟨_, rfl, ?_⟩)
          have ih2 := ih h2 f2
          have no : sp_start (vA V) x s = false → mv_VE E (D + 5) k n 253 33 [some (.ref 148), some (.int x), some (.int y), some (.int (mx_o (sp_fw (fun s => sp_sb s (sp_hold (vA V)) && sp_start (vA V) x s) s))), some (.int (nI (s + 1))), none] [] h2 Q := by
            intro b
            rw [sp_fw_no (fun c => by have := c.1; rw [b, Bool.and_false] at this; cases this)] at ih2
            exact ih2
          have yes : sp_start (vA V) x s = true → mv_VE E (D + 4) 0 0 254 0 [some (.int (mx_o (sp_fw (fun s => sp_sb s (sp_hold (vA V)) && sp_start (vA V) x s) s))), some (.int (nI s))] [] h2 (fun v h5 => ∃ r6, v = some (.int r6) ∧ mv_VE E (D + 5) k n 253 33 [some (.ref 148), some (.int x), some (.int y), some (.int r6), some (.int (nI (s + 1))), none] [] h5 Q) := by
            intro b
            rw [sp_fw_step (by rw [b, sb]; rfl)] at ih2
            exact ct254 _ s (by omega) (sp_fw_l _ _ (by omega)) rfl rfl ⟨_, rfl, ih2⟩
          refine mx_if (fun r => ?_) (fun r => ?_)
          · have es : sp_start (vA V) x s = (sp_stl (vA V) (mx_wo (sp_hold (vA V)) s)).2.2 := by unfold sp_start; rw [if_pos r]
            rw [b]
            cases w : (sp_stl (vA V) (mx_wo (sp_hold (vA V)) s)).2.2 with
            | false => rw [if_pos (by rfl)]; exact no (es.trans w)
            | true => rw [if_neg (by decide)]; exact yes (es.trans w)
          · have es : sp_start (vA V) x s = decide ((sp_stl (vA V) (mx_wo (sp_hold (vA V)) s)).1 = 0) := by unfold sp_start; rw [if_neg r]
            have l8 : (sp_stl (vA V) (mx_wo (sp_hold (vA V)) s)).1 < 256 := by rw [sp_stl8 (by omega)]; have := sp_it_lt (A := vA V) hl 8; omega
            refine mx_eq (sp_stl (vA V) (mx_wo (sp_hold (vA V)) s)).1 0 (fun w => ?_) (fun w => ?_) (by omega) (by omega)
            · exact yes (es.trans (decide_eq_true w))
            · exact no (es.trans (decide_eq_false w))
        · have ih2 := ih h' f'
          rw [sp_fw_no (fun c => by
            have := c.1
            rw [Bool.and_eq_true] at this
            exact z ((mx_sub0 (by omega)).mpr (sp_sbE.mp this.1)))] at ih2
          exact ih2
    · rw [if_neg (fun c => of_decide_eq_false q c.2)] at H
      exact H _ f0
  · rw [if_neg (fun c => of_decide_eq_false q1 c.1)] at H
    exact H _ f0
