/-! The class's tokens. -/
def cb (b : Nat) : Int32 := (nI b).toInt8.toInt32
set_option maxRecDepth 100000 in
theorem cb_ok : ∀ b, b < 256 → pf71 (cb b) = (decide (b = 10) || decide (b = 32)) ∧ pf73 (cb b) = (decide (97 ≤ b) && decide (b ≤ 122)) ∧ pf79 (cb b) = (decide (48 ≤ b) && decide (b ≤ 57)) ∧ (0 < cb b ↔ (0 < b ∧ b < 128)) ∧ (b < 128 → cb b = nI b) ∧ (128 ≤ b → cb b < 0) := by decide +kernel
theorem cb_eq {b k : Nat} (hb : b < 256) (hk : k < 128) : cb b = nI k ↔ b = k := by
  obtain ⟨-, -, -, -, c5, c6⟩ := cb_ok b hb
  rcases Nat.lt_or_ge b 128 with q | q
  · rw [c5 q, nI_eq (by omega) (by omega)]
  · refine ⟨fun e => ?_, fun e => by omega⟩
    have := c6 q
    rw [e] at this
    exact absurd this (nI_pos (by omega))
def S70 (a _k : Nat) : Bool := Nat.beq a 53 || Nat.beq a 54 || Nat.beq a 55 || Nat.beq a 56
theorem S70f {a k : Nat} (h : a ≠ 53 ∧ a ≠ 54 ∧ a ≠ 55 ∧ a ≠ 56) : S70 a k = false := by
  unfold S70; rw [mv_bne h.1, mv_bne h.2.1, mv_bne h.2.2.1, mv_bne h.2.2.2]; rfl
/-- the bytes lie before the class -/
def cL (B : Nat → Nat) (N : Nat) (h : mv_H) : Prop := N ≤ 900 ∧ (∀ j, j < N → B j < 256) ∧ mv_R h 53 3 = 51 ∧ mv_I h 53 4 = nI N ∧ (∀ j, j < N → mv_I h 51 j = cb (B j)) ∧ gS h
def kp (h : mv_H) (i : Nat) (x1 x2 x3 : Int32) : mv_H := mv_sI (mv_sI (mv_sI (mv_sI h 54 i x1) 55 i x2) 56 i x3) 53 5 (nI (i + 1))
theorem kp_fz {h : mv_H} {i : Nat} {x1 x2 x3 : Int32} : mx_fz S70 h (kp h i x1 x2 x3) := (mx_fr.sI (S := S70) rfl).z.tr ((mx_fr.sI (S := S70) rfl).z.tr ((mx_fr.sI (S := S70) rfl).z.tr (mx_fr.sI (S := S70) rfl).z))
theorem cL.k {B : Nat → Nat} {N : Nat} {h : mv_H} {i : Nat} {x1 x2 x3 : Int32} (c : cL B N h) : cL B N (kp h i x1 x2 x3) := by
  obtain ⟨c1, c2, c3, c4, c5, c6⟩ := c
  refine ⟨c1, c2, c3, ?_, fun j hj => ?_, c6.o (fun a ha => kp_fz.I a (fun k => S70f (by omega)))⟩
  · unfold kp; rw [mx_Isk (by omega), mx_InE (by omega), mx_InE (by omega), mx_InE (by omega)]; exact c4
  · rw [kp_fz.I 51 (fun k => S70f (by omega))]; exact c5 j hj
theorem ct78 {E : mv_E} {D k n : Nat} {h : mv_H} {Q : mv_Q} {x1 x2 x3 : Int32} (i : Nat) (hi : i < 901) (e : mv_I h 53 5 = nI i) (H : Q none (kp h i x1 x2 x3)) : mv_VE E D k n 78 0 [some (.ref 53), some (.int x1), some (.int x2), some (.int x3)] [] h Q := by
  apply sg78_0
  rw [e, nI_clamp (by omega), nI_1]
  exact mx_ltT i 901 hi (mv_gdI (mx_inT i hi (by omega)) (mv_gdI (mx_inT i hi (by omega)) (mv_gdI (mx_inT i hi (by omega)) H))) (by omega)
theorem K51 (E : mv_E) (h : mv_H) : mv_KE E h 51 = (21, 900) := rfl
theorem g51 {E : mv_E} {h : mv_H} {B : Nat → Nat} {N j : Nat} (c : cL B N h) (hj : j < N) : ((Nat.beq (mv_KE E h (mv_R h 53 3)).1 21 || (Nat.beq (mv_KE E h (mv_R h 53 3)).1 23 || Nat.beq (mv_KE E h (mv_R h 53 3)).1 31)) && mv_in (nI j) ((mv_KE E h (mv_R h 53 3)).2)) = true := by
  have := c.1
  rw [c.2.2.1, K51]
  exact mx_inT j (by omega) (by omega)
theorem v51 {h : mv_H} {B : Nat → Nat} {N j : Nat} (c : cL B N h) (hj : j < N) : mv_I h (mv_R h 53 3) (nI j).toNatClampNeg = cb (B j) := by
  have := c.1
  rw [c.2.2.1, nI_clamp (by omega)]
  exact c.2.2.2.2.1 j hj
theorem nI_sub {a b : Nat} (hab : a ≤ b) : nI b - nI a = nI (b - a) := by
  have : nI b = nI (b - a) + nI a := by rw [nI_add, Nat.sub_add_cancel hab]
  rw [this, Int32.add_sub_cancel]
theorem ct76 {E : mv_E} {D k n : Nat} {h : mv_H} {Q : mv_Q} {B : Nat → Nat} {N x : Nat} (w a e : Nat) (hw : w < 21) (hae : a ≤ e) (he : e ≤ N) (c : cL B N h) (hx : x = 1 + w) (H : Q (some (.int (cond (eqw B a e w) 1 0))) h) : mv_VE E (D + 4) k n 76 0 [some (.ref 53), some (.ref x), some (.int (nI a)), some (.int (nI e)), none] [] h Q := by
  subst hx
  have N9 := c.1
  have g := c.2.2.2.2.2
  obtain ⟨s1, s2, s3⟩ := ks_sh (show w < 23 by omega) E h
  have l := ksl_lt w (by omega)
  apply sg76_0
  rw [s1, nI_sub hae]
  refine mv_gdI rfl (ct309 w (by omega) g rfl ⟨_, rfl, mx_eq (ksl w) (e - a) (fun q => ?_) (fun q => ?_) (by omega) (by omega)⟩)
  · have key : ∀ f j, j + f = ksl w → (∀ t, t < j → B (a + t) = ksb w t) → mv_VE E (D + 4) k n 76 15 [some (.ref 53), some (.ref (1 + w)), some (.int (nI a)), some (.int (nI e)), some (.int (nI (a + j)))] [] h Q := by
      intro f
      induction f with
      | zero =>
        intro j hj al
        apply sg76_15
        rw [eqw_mk (B := B) (a := a) (b := e) (c := w) (by omega) (fun t ht => al t (by omega))] at H
        exact mx_ltF (a + j) e (by omega) H (by omega)
      | succ f ih =>
        intro j hj al
        obtain ⟨k1, k2, -⟩ := ks_ok w (by omega) j (by omega)
        have bl := c.2.1 (a + j) (by omega)
        apply sg76_15
        rw [v51 c (j := a + j) (by omega), s1, nI_sub (show a ≤ a + j by omega), nI_1]
        refine mx_ltT (a + j) e (by omega) (mv_gdI (g51 c (by omega)) (mv_gdI rfl (ct311 w j (by omega) (by omega) g rfl (by rw [show a + j - a = j by omega]) ⟨_, rfl, ?_⟩))) (by omega)
        refine mx_if (fun y => ih (j + 1) (by omega) (fun t ht => ?_)) (fun y => ?_)
        · rcases (by omega : t < j ∨ t = j) with r | r
          · exact al t r
          · rw [r]; exact (cb_eq bl k2).mp y
        · have z : eqw B a e w = false := by
            cases z : eqw B a e w with
            | false => rfl
            | true => exact absurd ((cb_eq bl k2).mpr ((eqw_ch z).2 j (by omega))) y
          rw [z] at H
          exact H
    exact key (ksl w) 0 (by omega) (fun t ht => absurd ht (by omega))
  · have z : eqw B a e w = false := by
      cases z : eqw B a e w with
      | false => rfl
      | true => exact absurd (eqw_ch z).1 (by omega)
    rw [z] at H
    exact H
theorem st76 {b : Bool} {A B : Prop} (f : b = true → A) (g : b = false → B) : if (cond b (1 : Int32) 0) = 0 then B else A := by
  cases b with
  | false => rw [if_pos (by rfl)]; exact g rfl
  | true => rw [if_neg (show ¬ (cond true (1 : Int32) 0) = 0 by decide)]; exact f rfl
theorem ct75 {E : mv_E} {D k n : Nat} {h : mv_H} {Q : mv_Q} {B : Nat → Nat} {N : Nat} (a e : Nat) (hae : a ≤ e) (he : e ≤ N) (c : cL B N h) (H : Q (some (.int (if wx B a e < 13 then nI (ck (wmk (wx B a e))) else 128))) h) : mv_VE E (D + 5) k n 75 0 [some (.ref 53), some (.int (nI a)), some (.int (nI e))] [] h Q := by
  have yes : ∀ w, w < 21 → w < 13 → eqw B a e w = true → Q (some (.int (nI (ck (wmk w))))) h := fun w hw h13 z => by rw [wx_is hw z, if_pos h13] at H; exact H
  apply sg75_0
  refine ct76 0 a e (by omega) hae he c rfl ⟨_, rfl, st76 (fun z => yes 0 (by omega) (by omega) z) (fun z0 => ?_)⟩
  refine ct76 1 a e (by omega) hae he c rfl ⟨_, rfl, st76 (fun z => yes 1 (by omega) (by omega) z) (fun z1 => ?_)⟩
  refine ct76 2 a e (by omega) hae he c rfl ⟨_, rfl, st76 (fun z => yes 2 (by omega) (by omega) z) (fun z2 => ?_)⟩
  refine ct76 3 a e (by omega) hae he c rfl ⟨_, rfl, st76 (fun z => yes 3 (by omega) (by omega) z) (fun z3 => ?_)⟩
  refine ct76 4 a e (by omega) hae he c rfl ⟨_, rfl, st76 (fun z => yes 4 (by omega) (by omega) z) (fun z4 => ?_)⟩
  refine ct76 5 a e (by omega) hae he c rfl ⟨_, rfl, st76 (fun z => yes 5 (by omega) (by omega) z) (fun z5 => ?_)⟩
  refine ct76 6 a e (by omega) hae he c rfl ⟨_, rfl, st76 (fun z => yes 6 (by omega) (by omega) z) (fun z6 => ?_)⟩
  refine ct76 7 a e (by omega) hae he c rfl ⟨_, rfl, st76 (fun z => yes 7 (by omega) (by omega) z) (fun z7 => ?_)⟩
  refine ct76 8 a e (by omega) hae he c rfl ⟨_, rfl, st76 (fun z => yes 8 (by omega) (by omega) z) (fun z8 => ?_)⟩
  refine ct76 9 a e (by omega) hae he c rfl ⟨_, rfl, st76 (fun z => yes 9 (by omega) (by omega) z) (fun z9 => ?_)⟩
  refine ct76 10 a e (by omega) hae he c rfl ⟨_, rfl, st76 (fun z => yes 10 (by omega) (by omega) z) (fun z10 => ?_)⟩
  refine ct76 11 a e (by omega) hae he c rfl ⟨_, rfl, st76 (fun z => yes 11 (by omega) (by omega) z) (fun z11 => ?_)⟩
  refine ct76 12 a e (by omega) hae he c rfl ⟨_, rfl, st76 (fun z => yes 12 (by omega) (by omega) z) (fun z12 => ?_)⟩
  have no : ¬ wx B a e < 13 := fun q => by
    have t := wx_t (B := B) (a := a) (b := e) (by omega)
    rcases (by omega : wx B a e = 0 ∨ wx B a e = 1 ∨ wx B a e = 2 ∨ wx B a e = 3 ∨ wx B a e = 4 ∨ wx B a e = 5 ∨ wx B a e = 6 ∨ wx B a e = 7 ∨ wx B a e = 8 ∨ wx B a e = 9 ∨ wx B a e = 10 ∨ wx B a e = 11 ∨ wx B a e = 12) with r | r | r | r | r | r | r | r | r | r | r | r | r
    · rw [r, z0] at t; cases t
    · rw [r, z1] at t; cases t
    · rw [r, z2] at t; cases t
    · rw [r, z3] at t; cases t
    · rw [r, z4] at t; cases t
    · rw [r, z5] at t; cases t
    · rw [r, z6] at t; cases t
    · rw [r, z7] at t; cases t
    · rw [r, z8] at t; cases t
    · rw [r, z9] at t; cases t
    · rw [r, z10] at t; cases t
    · rw [r, z11] at t; cases t
    · rw [r, z12] at t; cases t
  rw [if_neg no] at H
  exact H
theorem ct77 {E : mv_E} {D k n : Nat} {h : mv_H} {Q : mv_Q} {B : Nat → Nat} {N : Nat} (a e : Nat) (hae : a ≤ e) (he : e ≤ N) (c : cL B N h) (lo : 13 ≤ wx B a e) (H : Q (some (.int (if wx B a e < 21 then nI (ck (wmk (wx B a e))) else 128))) h) : mv_VE E (D + 5) k n 77 0 [some (.ref 53), some (.int (nI a)), some (.int (nI e))] [] h Q := by
  have yes : ∀ w, w < 21 → w < 21 → eqw B a e w = true → Q (some (.int (nI (ck (wmk w))))) h := fun w hw h13 z => by rw [wx_is hw z, if_pos h13] at H; exact H
  apply sg77_0
  refine ct76 13 a e (by omega) hae he c rfl ⟨_, rfl, st76 (fun z => yes 13 (by omega) (by omega) z) (fun z13 => ?_)⟩
  refine ct76 14 a e (by omega) hae he c rfl ⟨_, rfl, st76 (fun z => yes 14 (by omega) (by omega) z) (fun z14 => ?_)⟩
  refine ct76 15 a e (by omega) hae he c rfl ⟨_, rfl, st76 (fun z => yes 15 (by omega) (by omega) z) (fun z15 => ?_)⟩
  refine ct76 16 a e (by omega) hae he c rfl ⟨_, rfl, st76 (fun z => yes 16 (by omega) (by omega) z) (fun z16 => ?_)⟩
  refine ct76 17 a e (by omega) hae he c rfl ⟨_, rfl, st76 (fun z => yes 17 (by omega) (by omega) z) (fun z17 => ?_)⟩
  refine ct76 18 a e (by omega) hae he c rfl ⟨_, rfl, st76 (fun z => yes 18 (by omega) (by omega) z) (fun z18 => ?_)⟩
  refine ct76 19 a e (by omega) hae he c rfl ⟨_, rfl, st76 (fun z => yes 19 (by omega) (by omega) z) (fun z19 => ?_)⟩
  refine ct76 20 a e (by omega) hae he c rfl ⟨_, rfl, st76 (fun z => yes 20 (by omega) (by omega) z) (fun z20 => ?_)⟩
  have no : ¬ wx B a e < 21 := fun q => by
    have t := wx_t (B := B) (a := a) (b := e) (by omega)
    have l13 := lo
    rcases (by omega : wx B a e = 13 ∨ wx B a e = 14 ∨ wx B a e = 15 ∨ wx B a e = 16 ∨ wx B a e = 17 ∨ wx B a e = 18 ∨ wx B a e = 19 ∨ wx B a e = 20) with r | r | r | r | r | r | r | r
    · rw [r, z13] at t; cases t
    · rw [r, z14] at t; cases t
    · rw [r, z15] at t; cases t
    · rw [r, z16] at t; cases t
    · rw [r, z17] at t; cases t
    · rw [r, z18] at t; cases t
    · rw [r, z19] at t; cases t
    · rw [r, z20] at t; cases t
  rw [if_neg no] at H
  exact H
theorem ck_w : ∀ w, w < 22 → (w < 13 → nI (ck (wmk w)) ≠ 128) ∧ (w = 21 → nI (ck (wmk w)) = 128) := by decide +kernel
theorem ct74 {E : mv_E} {D k n : Nat} {h : mv_H} {Q : mv_Q} {B : Nat → Nat} {N : Nat} (a e : Nat) (hae : a ≤ e) (he : e ≤ N) (c : cL B N h) (H : Q (some (.int (nI (ck (wmk (wx B a e)))))) h) : mv_VE E (D + 6) k n 74 0 [some (.ref 53), some (.int (nI a)), some (.int (nI e)), none] [] h Q := by
  have l := wx_le B a e
  obtain ⟨w1, w2⟩ := ck_w (wx B a e) (by omega)
  apply sg74_0
  refine ct75 a e hae he c ⟨_, rfl, ?_⟩
  by_cases q : wx B a e < 13
  · rw [if_pos q, if_neg (w1 q)]; exact H
  · rw [if_neg q, if_pos rfl]
    refine ct77 a e hae he c (by omega) ⟨_, rfl, ?_⟩
    by_cases r : wx B a e < 21
    · rw [if_pos r]; exact H
    · rw [if_neg r]; rw [w2 (by omega)] at H; exact H
theorem ct80 {E : mv_E} {D k n : Nat} {h : mv_H} {Q : mv_Q} {B : Nat → Nat} {N : Nat} (p i : Nat) (hp : p < N) (hi : i < 901) (c : cL B N h) (ei : mv_I h 53 5 = nI i) (H : if 3 < lx_sp N (ld B N) p - p then Q (some (.int (nI p))) (kp h i 2 (nI p) 0) else Q (some (.int (nI (lx_sp N (ld B N) p)))) (kp h i 1 (nI p) (nI (nv B p (lx_sp N (ld B N) p - p))))) : mv_VE E (D + 1) k n 80 0 [some (.ref 53), some (.int (nI p)), none, none] [] h Q := by
  have N9 := c.1
  apply sg80_0
  have key : ∀ f l, l + f = 4 → l ≤ 3 → p + l ≤ N → lx_sp N (ld B N) p = lx_sp N (ld B N) (p + l) → nv B p l < 10 ^ l → mv_VE E (D + 1) k n 80 4 [some (.ref 53), some (.int (nI p)), some (.int (nI (p + l))), some (.int (nI (nv B p l)))] [] h Q := by
    intro f
    induction f with
    | zero =>
      intro l hl hl3
      omega
    | succ f ih =>
      intro l hl hl3 h1 h2 h3
      apply sg80_4
      rw [c.2.2.2.1]
      have fin : ld B N (p + l) = false → Q (some (.int (nI (p + l)))) (kp h i 1 (nI p) (nI (nv B p l))) := fun z => by
        rw [h2, lx_f z, if_neg (by omega), show p + l - p = l by omega] at H
        exact H
      refine mx_lt (p + l) N (fun q => ?_) (fun q => ct78 i hi ei ⟨rfl, fin ?_⟩) (by omega) (by omega)
      · have bl := c.2.1 (p + l) q
        obtain ⟨-, -, c3, -, c5, -⟩ := cb_ok (B (p + l)) bl
        have dl : pf79 (cb (B (p + l))) = ld B N (p + l) := by rw [c3]; unfold ld; rw [decide_eq_true q, Bool.true_and]
        rw [v51 c q, dl, nI_sub (show p ≤ p + l by omega), show p + l - p = l by omega, nI_1]
        refine mv_gdI (g51 c q) (mx_cd (fun z => ?_) (fun z => ct78 i hi ei ⟨rfl, fin z⟩))
        have z2 := z
        unfold ld at z2
        rw [Bool.and_eq_true, Bool.and_eq_true] at z2
        have b48 : 48 ≤ B (p + l) := by simpa using z2.2.1
        have b57 : B (p + l) ≤ 57 := by simpa using z2.2.2
        refine mx_lt l 3 (fun r => mv_gdI (g51 c q) ?_) (fun r => ct78 i hi ei ⟨rfl, ?_⟩) (by omega) (by omega)
        · have ev : nI (nv B p l) * 10 + cb (B (p + l)) - 48 = nI (nv B p (l + 1)) := by
            rw [c5 (by omega), show (10 : Int32) = nI 10 from rfl, show (48 : Int32) = nI 48 from rfl, show nI (nv B p l) * nI 10 = nI (nv B p l * 10) from (Int32.ofNat_mul _ 10).symm, nI_add, nI_sub (by omega)]
            show nI (nv B p l * 10 + B (p + l) - 48) = nI (10 * nv B p l + (B (p + l) - 48))
            rw [Nat.add_sub_assoc b48, Nat.mul_comm]
          rw [ev]
          refine ih (l + 1) (by omega) (by omega) (by omega) (by rw [h2]; exact lx_t z q) ?_
          show 10 * nv B p l + (B (p + l) - 48) < 10 ^ (l + 1)
          rw [Nat.pow_succ]
          omega
        · have g1 := lx_ge (N := N) (c := ld B N) (p := p + l + 1)
          rw [h2, lx_t z q, if_pos (by omega)] at H
          exact H
      · cases z : ld B N (p + l) with
        | false => rfl
        | true => exact absurd (ld_lt _ z) (by omega)
  exact key 4 0 (by omega) (by omega) (by omega) rfl Nat.zero_lt_one
theorem sg_ck : ∀ s, s < 12 → ck (30 + s) = ksb 21 s ∧ 0 < ksb 21 s ∧ ksb 21 s < 128 := by decide +kernel
/-- one token of the class -/
theorem ct72 {E : mv_E} {D k n : Nat} {h : mv_H} {Q : mv_Q} {B : Nat → Nat} {N : Nat} (p i : Nat) (hp : p < N) (nb : lb B N p = false) (hi : i < 901) (c : cL B N h) (ei : mv_I h 53 5 = nI i) (H : ∀ x3, ((lx B N p).1 = 23 → x3 = nI (lx B N p).2.2.2) → Q (some (.int (if (lx B N p).1 = 25 then nI p else nI (lx B N p).2.2.1))) (kp h i (nI (ck (lx B N p).1)) (nI p) x3)) : mv_VE E (D + 7) k n 72 0 [some (.ref 53), some (.int (cb (B p))), some (.int (nI p)), none] [] h Q := by
  have N9 := c.1
  have bl := c.2.1 p hp
  obtain ⟨-, c2, c3, c4, c5, -⟩ := cb_ok (B p) bl
  have dl : pf79 (cb (B p)) = ld B N p := by rw [c3]; unfold ld; rw [decide_eq_true hp, Bool.true_and]
  have wl : ∀ q, q < N → pf73 (cb (B q)) = ll B N q := fun q hq => by rw [(cb_ok (B q) (c.2.1 q hq)).2.1]; unfold ll; rw [decide_eq_true hq, Bool.true_and]
  unfold lx at H
  rw [lx_f nb, if_neg (by omega)] at H
  apply sg72_0
  rw [wl p hp, dl]
  refine mx_cd (fun z => ?_) (fun z => ?_)
  · rw [if_pos z] at H
    rw [nI_1]
    have key : ∀ f b, b + f = N → p < b → lx_sp N (ll B N) p = lx_sp N (ll B N) b → mv_VE E (D + 7) k n 72 11 [some (.ref 53), none, some (.int (nI p)), some (.int (nI b))] [] h Q := by
      intro f
      have fin : ∀ b, b ≤ N → p < b → lx_sp N (ll B N) p = b → mv_VE E (D + 6) 0 0 74 0 [some (.ref 53), some (.int (nI p)), some (.int (nI b)), none] [] h (fun v h1 => ∃ r2, v = some (.int r2) ∧ mv_VE E (D + 6) 0 0 78 0 [some (.ref 53), some (.int r2), some (.int (nI p)), some (.int 0)] [] h1 (fun v h3 => v = none ∧ Q (some (.int (nI b))) h3)) := by
        intro b hb hpb e
        refine ct74 p b (by omega) hb c ⟨_, rfl, ct78 i hi ei ⟨rfl, ?_⟩⟩
        obtain ⟨w1, w2, w3, w4⟩ := wmk_ne (wx B p b) (wx_le _ _ _)
        rw [e] at H
        have H := H 0 (fun q => absurd q w3)
        rw [if_neg w2] at H
        exact H
      induction f with
      | zero =>
        intro b hb hpb e
        apply sg72_11
        rw [c.2.2.2.1]
        have z2 : ll B N b = false := by
          cases y : ll B N b with
          | false => rfl
          | true => exact absurd (ll_lt _ y) (by omega)
        exact mx_ltF b N (by omega) (fin b (by omega) hpb (by rw [e, lx_f z2])) (by omega)
      | succ f ih =>
        intro b hb hpb e
        apply sg72_11
        rw [c.2.2.2.1, v51 c (j := b) (by omega), wl b (by omega), nI_1]
        refine mx_ltT b N (by omega) (mv_gdI (g51 c (by omega)) (mx_cd (fun y => ih (b + 1) (by omega) (by omega) (by rw [e]; exact lx_t y (by omega))) (fun y => fin b (by omega) hpb (by rw [e, lx_f y])))) (by omega)
    exact key (N - (p + 1)) (p + 1) (by omega) (by omega) (lx_t z hp)
  · rw [if_neg (by rw [z]; decide)] at H
    refine mx_cd (fun t => ?_) (fun t => ?_)
    · rw [if_pos t] at H
      refine ct80 p i hp hi c ei ?_
      by_cases q : 3 < lx_sp N (ld B N) p - p
      · rw [if_pos q]
        rw [if_pos q] at H
        exact ⟨_, rfl, H 0 (fun y => absurd y (show ¬ (25 : Nat) = 23 by omega))⟩
      · rw [if_neg q]
        rw [if_neg q, if_neg q] at H
        exact ⟨_, rfl, H _ (fun _ => rfl)⟩
    · rw [if_neg (by rw [t]; decide)] at H
      have H := H 0 (fun y => by
        have y : (if sgi (B p) < 12 then 30 + sgi (B p) else 25) = 23 := y
        split at y <;> omega)
      refine mx_if (fun q => ?_) (fun q => ?_)
      · have q2 := c4.mp q
        rw [c5 q2.2, (sg_i8 (B p) q2.2).2]
        refine ct314 (B p) q2.2 c.2.2.2.2.2 rfl ⟨_, rfl, ?_⟩
        by_cases s : sgi (B p) < 12
        · rw [if_pos s, if_neg (nI_pos (by omega)), nI_1]
          refine ct78 i hi ei ⟨rfl, ?_⟩
          rw [if_pos s] at H
          have e : ck (30 + sgi (B p)) = B p := by rw [(sg_ck _ s).1]; exact sgi_t s
          have H : Q (some (.int (if 30 + sgi (B p) = 25 then nI p else nI (p + 1)))) (kp h i (nI (ck (30 + sgi (B p)))) (nI p) 0) := H
          rw [if_neg (by omega), e] at H
          exact H
        · rw [if_neg s, if_pos (by decide)]
          refine ct78 i hi ei ⟨rfl, ?_⟩
          rw [if_neg s] at H
          exact H
      · have s : ¬ sgi (B p) < 12 := fun s => by
          have := sgi_t s
          have k := sg_ck _ s
          rw [this] at k
          exact q (c4.mpr ⟨k.2.1, k.2.2⟩)
        refine ct78 i hi ei ⟨rfl, ?_⟩
        rw [if_neg s] at H
        exact H
