/-! Call: raft, by the class. -/
-- what no line tells stays as it was
def lw (F : Nat → Int32) : Prop := (∃ P, P ≤ 8 ∧ F 1 = nI P) ∧ F 75 = 0 ∧ F 76 = 0
theorem lflag_w {B : Nat → Nat} {N p : Nat} (hp : p < 8) : ∀ {f i i' : Nat} {F F' : Nat → Int32}, lflag B N p f i F = .inr (i', F') → ∀ k, (k = 1 ∨ k = 75 ∨ k = 76) → F' k = F k := by
  intro f
  induction f with
  | zero => intro i i' F F' e k _; cases e; rfl
  | succ f ih =>
    intro i i' F F' e k hk
    rw [lflag_s] at e
    split at e
    · rw [ih e k hk, upA_n (by omega)]
    · split at e
      · obtain ⟨-, -, e⟩ := lnum_i e
        rw [ih e k hk, upA_n (by omega)]
      · split at e
        · obtain ⟨-, -, e⟩ := lnum_i e
          obtain ⟨-, -, e⟩ := lnum_i e
          obtain ⟨-, -, e⟩ := lnum_i e
          rw [ih e k hk, upA_n (by omega), upA_n (by omega), upA_n (by omega)]
        · cases e; rfl
theorem lw_hold {B : Nat → Nat} {N i i' : Nat} {F F' : Nat → Int32} (e : lhold B N i F = .inr (i', F')) (h : lw F) : lw F' := by
  obtain ⟨⟨P, hP, h1⟩, h2, h3⟩ := h
  unfold lhold at e
  rw [h1, nI_clamp (by omega)] at e
  by_cases q : P = 8
  · rw [q, if_pos (by rfl)] at e; cases e
  · rw [if_neg (show ¬ nI P = 8 from fun c => q ((nI_eq (a := P) (b := 8) (by omega) (by omega)).mp c))] at e
    obtain ⟨-, e⟩ := lpass_i e
    obtain ⟨-, c1, e⟩ := lnum_i e
    obtain ⟨-, e⟩ := lpass_i e
    obtain ⟨-, c2, e⟩ := lnum_i e
    obtain ⟨j, F2, e2, e3⟩ := lbind_i e
    cases e3
    have fr := lflag_w (show P < 8 by omega) e2
    refine ⟨⟨P + 1, by omega, ?_⟩, ?_, ?_⟩
    · rw [upA_s, fr 1 (by omega)]
      unfold lhF
      rw [upA_n (by omega), upA_n (by omega), upA_n (by omega), upA_n (by omega), h1, nI_1]
    · rw [upA_n (by omega), fr 75 (by omega)]
      unfold lhF
      rw [upA_n (by omega), upA_n (by omega), upA_n (by omega), upA_n (by omega)]; exact h2
    · rw [upA_n (by omega), fr 76 (by omega)]
      unfold lhF
      rw [upA_n (by omega), upA_n (by omega), upA_n (by omega), upA_n (by omega)]; exact h3
theorem lw_pair {B : Nat → Nat} {N b i i' : Nat} {F F' : Nat → Int32} (hb : b = 25 ∨ b = 33) (e : lpair B N b i F = .inr (i', F')) (h : lw F) : lw F' := by
  obtain ⟨⟨P, hP, h1⟩, h2, h3⟩ := h
  unfold lpair at e
  rw [h1, nI_clamp (by omega)] at e
  obtain ⟨-, c1, e⟩ := lnum_i e
  split at e
  · cases e
  · obtain ⟨-, c2, e⟩ := lnum_i e
    cases e
    refine ⟨⟨P, hP, ?_⟩, ?_, ?_⟩
    · unfold lpF; rw [upA_n (by omega), upA_n (by omega)]; exact h1
    · unfold lpF; rw [upA_n (by omega), upA_n (by omega)]; exact h2
    · unfold lpF; rw [upA_n (by omega), upA_n (by omega)]; exact h3
theorem lw_storm {B : Nat → Nat} {N i i' : Nat} {F F' : Nat → Int32} (e : lstorm B N i F = .inr (i', F')) (h : lw F) : lw F' := by
  obtain ⟨⟨P, hP, h1⟩, h2, h3⟩ := h
  unfold lstorm at e
  obtain ⟨-, c1, e⟩ := lnum_i e
  cases e
  exact ⟨⟨P, hP, by rw [upA_n (by omega)]; exact h1⟩, by rw [upA_n (by omega)]; exact h2, by rw [upA_n (by omega)]; exact h3⟩
theorem lw_close {B : Nat → Nat} {N i i' : Nat} {F F' : Nat → Int32} (e : lclose B N i F = .inr (i', F')) (h : lw F) : lw F' := by
  obtain ⟨⟨P, hP, h1⟩, h2, h3⟩ := h
  unfold lclose at e
  obtain ⟨-, e⟩ := lpass_i e
  cases e
  exact ⟨⟨P, hP, by rw [upA_n (by omega)]; exact h1⟩, by rw [upA_n (by omega)]; exact h2, by rw [upA_n (by omega)]; exact h3⟩
theorem lw_law {B : Nat → Nat} {N l i i' : Nat} {F F' : Nat → Int32} (hl : l < 2) (e : llaw B N l i F = .inr (i', F')) (h : lw F) : lw F' := by
  obtain ⟨⟨P, hP, h1⟩, h2, h3⟩ := h
  have lo : ∀ (R : List Nat) k, (k = 1 ∨ k = 75 ∨ k = 76) → lstore l F R k = F k := fun R k hk => by
    unfold lstore
    rw [if_neg (by omega), if_neg (by omega), if_neg (by omega), if_neg (by omega), if_neg (by omega)]
  unfold llaw at e
  obtain ⟨-, e⟩ := lpass_i e
  split at e
  · cases e
    exact ⟨⟨P, hP, by rw [lo _ 1 (by omega)]; exact h1⟩, by rw [lo _ 75 (by omega)]; exact h2, by rw [lo _ 76 (by omega)]; exact h3⟩
  · cases e
theorem lw_line {B : Nat → Nat} {N i i' : Nat} {F F' : Nat → Int32} (e : lline B N i F = .inr (i', F')) (h : lw F) : lw F' := by
  unfold lline at e
  split at e
  · exact lw_hold e h
  · split at e
    · exact lw_pair (Or.inl rfl) e h
    · split at e
      · exact lw_pair (Or.inr rfl) e h
      · split at e
        · exact lw_storm e h
        · split at e
          · exact lw_law (by omega) e h
          · split at e
            · exact lw_law (by omega) e h
            · cases e
theorem lw_lines {B : Nat → Nat} {N i' : Nat} {F' : Nat → Int32} : ∀ f i F, llines B N f i F = .inr (i', F') → lw F → lw F' := by
  intro f
  induction f with
  | zero => intro i F e h; cases e; exact h
  | succ f ih =>
    intro i F e h
    have e : (if tK B N i = 24 then .inr (i, F) else lbind (lline B N i F) (fun i F => lbind (lclose B N i F) (llines B N f)) : LR) = .inr (i', F') := e
    split at e
    · cases e; exact h
    · obtain ⟨i1, F1, e1, e⟩ := lbind_i e
      obtain ⟨i2, F2, e2, e⟩ := lbind_i e
      exact ih i2 F2 e (lw_close e2 (lw_line e1 h))
theorem lw_raft {B : Nat → Nat} {N i : Nat} {F : Nat → Int32} (e : lraft B N = .inr (i, F)) : lw F := by
  unfold lraft at e
  obtain ⟨-, e⟩ := lpass_i e
  obtain ⟨-, e⟩ := lpass_i e
  obtain ⟨-, -, e⟩ := lnum_i e
  obtain ⟨i1, F1, e1, e⟩ := lbind_i e
  exact lw_lines _ i1 F1 e (lw_close e1 ⟨⟨0, by omega, by rw [upA_n (by omega)]; rfl⟩, by rw [upA_n (by omega)]; rfl, by rw [upA_n (by omega)]; rfl⟩)
-- what growth leaves alone
theorem mx_gz.K {S : Nat → Nat → Bool} {h h' : mv_H} (f : mx_gz S h h') (E : mv_E) {a : Nat} (ha : a < h.1) : mv_KE E h' a = mv_KE E h a := by
  have e : h'.2.1 a = h.2.1 a := f.2.1 a ha
  show mv_KT _ _ _ = mv_KT _ _ _
  unfold mv_KT
  rw [e]
theorem mx_gz.R {S : Nat → Nat → Bool} {h h' : mv_H} (f : mx_gz S h h') (E : mv_E) {a k : Nat} (ha : a < h.1) (hS : S a k = false) : mv_RE E h' a k = mv_RE E h a k := by
  have e : h'.2.2.2.2 a k = h.2.2.2.2 a k := (f.2.2 a k ha hS).2.2
  show mv_RT _ _ _ _ = mv_RT _ _ _ _
  unfold mv_RT
  rw [e]
theorem mx_gz.I {S : Nat → Nat → Bool} {h h' : mv_H} (f : mx_gz S h h') {a : Nat} (ha : a < h.1) (hS : ∀ k, S a k = false) : mv_I h' a = mv_I h a := funext fun k => (f.2.2 a k ha (hS k)).1
theorem cr_ok.gz {S : Nat → Nat → Bool} {E : mv_E} {h h' : mv_H} {r : Nat} {A : Nat → Int32} (f : mx_gz S h h') (hS : ∀ a k, cr_reg a → S a k = false) (c : cr_ok E h r A) : cr_ok E h' r A := by
  obtain ⟨⟨s0, s1, s2, s3, s4, s5, s6, s7, s8, s9, s10⟩, ⟨v0, v1, v2, v3, v4, v5, v6, v7⟩, l0, l1⟩ := c
  have rg := fun i hi => s0.reg i hi
  have eI : ∀ i, i ≤ 9 → mv_I h' (r + i) = mv_I h (r + i) := fun i hi => f.I (by omega) (fun k => hS _ k (rg i hi))
  have eI0 : mv_I h' r = mv_I h r := eI 0 (by omega)
  have eK : ∀ i, i ≤ 9 → mv_KE E h' (r + i) = mv_KE E h (r + i) := fun i hi => f.K E (by omega)
  have eK0 : mv_KE E h' r = mv_KE E h r := eK 0 (by omega)
  have eR : ∀ k, mv_RE E h' r k = mv_RE E h r k := fun k => f.R E (by omega) (hS _ k (rg 0 (by omega)))
  have hl : ∀ l, l < 2 → cr_law E h r A l → cr_law E h' r A l := by
    intro l hl2 ⟨L, a1, a2, a3, a4⟩
    refine ⟨L, ?_, ?_, ?_, ?_⟩
    · rw [eR, f.K E a3]; exact a1
    · rw [eR]
      rcases a2 with a2 | ⟨a2, a5⟩
      · exact Or.inl a2
      · exact Or.inr ⟨a2, fun j h1 h2 => by rw [f.K E (show mv_RE E h r (11 + l) - j < h.1 by omega)]; exact a5 j h1 h2⟩
    · rw [eR]; exact Nat.lt_of_lt_of_le a3 f.1
    · have : mv_I h' (mv_RE E h r (11 + l)) = mv_I h (mv_RE E h r (11 + l)) := by
        refine f.I a3 (fun k => hS _ k ?_)
        rcases a2 with a2 | ⟨a2, a5⟩
        · rw [a2, Nat.add_assoc]; exact rg (7 + l) (by omega)
        · exact Or.inr (Or.inr a2)
      rw [eR, this]; exact a4
  refine ⟨⟨s0, ?_, ?_, ?_, ?_, ?_, ?_, ?_, ?_, ?_, ?_⟩, ⟨?_, ?_, ?_, ?_, ?_, ?_, ?_, ?_⟩, hl 0 (by omega) l0, hl 1 (by omega) l1⟩
  · rw [eK0]; exact s1
  · rw [eK 1 (by omega), eR]; exact s2
  · rw [eK 2 (by omega), eR]; exact s3
  · rw [eK 3 (by omega), eR]; exact s4
  · rw [eK 4 (by omega), eR]; exact s5
  · rw [eK 5 (by omega), eR]; exact s6
  · rw [eK 6 (by omega), eR]; exact s7
  · rw [eK 9 (by omega), eR]; exact s8
  · rw [eK 7 (by omega), eK 8 (by omega)]; exact s9
  · exact Nat.lt_of_lt_of_le s10 f.1
  · rw [eI0]; exact v0
  · rw [eI0]; exact v1
  · rw [eI0]; exact v2
  · rw [eI 2 (by omega)]; exact v3
  · rw [eI 3 (by omega)]; exact v4
  · rw [eI 5 (by omega)]; exact v5
  · rw [eI 6 (by omega)]; exact v6
  · rw [eI 4 (by omega)]; exact v7
theorem i_st.gz {S : Nat → Nat → Bool} {h h' : mv_H} {x : Nat} {f : Nat → Int32} (z : mx_gz S h h') (hx : x + 1 < h.1) (h1 : ∀ k, S x k = false) (h2 : ∀ k, S (x + 1) k = false) (i : i_st h x f) : i_st h' x f := by
  unfold i_st
  rw [z.I (show x < h.1 by omega) h1, z.I hx h2]
  exact i
theorem i_raft.gz {S : Nat → Nat → Bool} {E : mv_E} {h h' : mv_H} {r : Nat} {A : Nat → Int32} (z : mx_gz S h h') (hS : ∀ a k, cr_reg a → S a k = false) (i : i_raft E h r A) : i_raft E h' r A := by
  have s0 := i.1.1.1
  have r9 : r + 9 < h.1 := i.1.1.2.2.2.2.2.2.2.2.2.2
  refine ⟨i.1.gz z hS, ?_⟩
  have q := i.2
  unfold i_pc at q ⊢
  rw [z.I (show r < h.1 by omega) (fun k => hS r k (s0.reg 0 (by omega))), z.I r9 (fun k => hS _ k (s0.reg 9 (by omega)))]
  exact q
theorem i_past.gz {S : Nat → Nat → Bool} {h h' : mv_H} {A : Nat → Int32} (z : mx_gz S h h') (hh : 165 ≤ h.1) (hS : ∀ a k, 109 ≤ a → a ≤ 131 → S a k = false) (i : i_past h A) : i_past h' A := by
  have e : mv_R h' 110 = mv_R h 110 := funext fun k => (z.2.2 110 k (by omega) (hS 110 k (by omega) (by omega))).2.2
  unfold i_past
  rw [z.I (show 109 < h.1 by omega) (fun k => hS _ k (by omega) (by omega)), e]
  refine ⟨i.1, i.2.1, i.2.2.1, fun j c hj => ?_⟩
  obtain ⟨q, hq, eq⟩ := i.2.1 j c
  exact (i.2.2.2 j c hj).gz z (by omega) (fun k => hS _ k (by omega) (by omega)) (fun k => hS _ k (by omega) (by omega))
-- what raft changes of the old cells
theorem S39f {a k : Nat} (h : a < 52 ∨ 60 < a) : S39 a k = false := by
  unfold S39 S70 S42e S43 S2w S2 S5 S83
  rw [mv_bne (show a ≠ 52 by omega), mv_bne (show a ≠ 53 by omega), mv_bne (show a ≠ 54 by omega), mv_bne (show a ≠ 55 by omega), mv_bne (show a ≠ 56 by omega), mv_bne (show a ≠ 58 by omega), mv_bne (show a ≠ 59 by omega), mv_bne (show a ≠ 60 by omega)]; rfl
def SRe (a k : Nat) : Bool := S39 a k || (Nat.beq a 50 && Nat.beq k 1)
def SR (a k : Nat) : Bool := ((S39 a k || (Nat.beq a 50 && (Nat.beq k 1 || Nat.beq k 3))) || (Nat.beq a 81 || Nat.beq a 82)) || (Nat.beq a 109 && Nat.beq k 1)
theorem SRef {a k : Nat} (h : a < 50 ∨ 60 < a) : SRe a k = false := by
  unfold SRe
  rw [S39f (by omega), mv_bne (show a ≠ 50 by omega)]; rfl
theorem SRf {a k : Nat} (h : (a < 50 ∨ 60 < a) ∧ a ≠ 81 ∧ a ≠ 82 ∧ a ≠ 109) : SR a k = false := by
  unfold SR
  rw [S39f (by omega), mv_bne (show a ≠ 50 by omega), mv_bne h.2.1, mv_bne h.2.2.1, mv_bne h.2.2.2]; rfl
theorem SR50 {k : Nat} (h : k ≠ 1 ∧ k ≠ 3) : SR 50 k = false := by
  unfold SR
  rw [S39f (by omega), mv_bne h.1, mv_bne h.2]; rfl
theorem SR39 {a k : Nat} (q : SR a k = false) : S39 a k = false := by
  unfold SR at q
  rw [Bool.or_eq_false_iff, Bool.or_eq_false_iff, Bool.or_eq_false_iff] at q
  exact q.1.1.1
theorem SRE {a k : Nat} (q : SR a k = false) : SRe a k = false := by
  have s := SR39 q
  unfold SRe
  rw [s]
  by_cases y : a = 50
  · by_cases w : k = 1
    · subst y; subst w; cases q
    · rw [mv_bne w, Bool.and_false]; rfl
  · rw [mv_bne y]; rfl
theorem InvC.raft {E : mv_E} {h g : mv_H} {V : vw} {A' : Nat → Int32} {fk fp : Int32} (i : InvC E h V) (hh : 165 ≤ h.1) (z : mx_gz SR h g) (hi : ∀ j, j < 2 → sp_im A' j = sp_im (vA V) j) (r1 : i_raft E g (mv_R g 50 3) A') (r2 : i_st g 81 (fun j => A' (65 + j))) (r3 : i_past g A') (t0 : mv_I g 50 1 = 0) (f4 : mv_I g 52 4 = fk) (f5 : mv_I g 52 5 = fp) : InvC E g (vw_R V A' fk fp) := by
  obtain ⟨⟨-, ⟨i4, i5⟩, i6, -, -, i9⟩, A0, o, s1, ⟨s2, s3⟩, s4⟩ := i
  have oR : ∀ a k, a < 165 → SR a k = false → mv_R g a k = mv_R h a k := fun a k ha q => (z.2.2 a k (by omega) q).2.2
  have oI : ∀ a, a < 165 → (∀ k, SR a k = false) → mv_I g a = mv_I h a := fun a ha q => z.I (by omega) q
  have rg : ∀ a k, cr_reg a → SR a k = false := fun a k c => SRf (by unfold cr_reg at c; omega)
  have im : ∀ j, j < 2 → i_img E h (vA V) (vHi V) j → i_img E g A' (vHi V) j := by
    intro j hj q
    unfold i_img at q ⊢
    rw [oR 132 j (by omega) (SRf (by omega)), hi j hj]
    rcases q with q | ⟨q1, q2, q3⟩
    · exact Or.inl q
    · exact Or.inr ⟨q1, q2.gz z rg, q3.gz z (by omega) (fun k => SRf (by omega)) (fun k => SRf (by omega))⟩
  refine ⟨⟨⟨r1, r2, r3⟩, ⟨im 0 (by omega) i4, im 1 (by omega) i5⟩, fun t ht => ?_, ⟨t0, fun j hj => ?_⟩, ⟨f4, f5⟩, ?_⟩, A0, o, ?_, ⟨?_, fun p hp => ?_⟩, fun s hs => ?_⟩
  · have e1 := oI (136 + 2 * t) (by omega) (fun k => SRf (by omega))
    have e2 : ∀ k, mv_J g (137 + 2 * t) k = mv_J h (137 + 2 * t) k := fun k => (z.2.2 _ k (by omega) (SRf (by omega))).2.1
    have q := i6 t ht
    unfold i_tray at q ⊢
    rw [e1]
    rcases q with q | ⟨so, m, q1, q2, q3, q4, q5, q6, q7⟩
    · exact Or.inl q
    · exact Or.inr ⟨so, m, q1, q2, q3, q4, q5, q6, fun k hk => by rw [e2]; exact q7 k hk⟩
  · have hj : j < (0 : Int32).toNatClampNeg := hj
    rw [show (0 : Int32).toNatClampNeg = 0 from by decide] at hj
    omega
  · unfold i_ways at i9 ⊢
    rw [oR 50 14 (by omega) (SR50 (by omega)), oR 50 15 (by omega) (SR50 (by omega))]; exact i9
  · rw [oR 87 0 (by omega) (SRf (by omega))]; exact s1.gz z rg
  · rw [oI 88 (by omega) (fun k => SRf (by omega))]; exact s2
  · rw [oI 89 (by omega) (fun k => SRf (by omega))]; exact s3 p hp
  · rw [oI 90 (by omega) (fun k => SRf (by omega)), oI 91 (by omega) (fun k => SRf (by omega))]; exact s4 s hs
-- the heap when a text was read
theorem cpI {h : mv_H} {a b sp dp n c j : Nat} : mv_I (mv_cp h a b sp dp n) c j = if c = b then va_cpy (mv_I h a) (mv_I h b) sp dp n j else mv_I h c j := by
  show mv_row _ b _ c j = _
  unfold mv_row
  by_cases q : c = b
  · rw [if_pos q, q, mv_beq]; rfl
  · rw [if_neg q, mv_bne q]; rfl
def hR (h1 : mv_H) (r : Nat) : mv_H := mv_sI (mv_cp (mv_sI (mv_sI (mv_sI (mv_sR (mv_sI h1 50 1 0) 50 3 r) 81 0 (mv_I (mv_sR (mv_sI h1 50 1 0) 50 3 r) r 4)) 81 1 (mv_I (mv_sI (mv_sR (mv_sI h1 50 1 0) 50 3 r) 81 0 (mv_I (mv_sR (mv_sI h1 50 1 0) 50 3 r) r 4)) r 3)) 81 2 0) (r + 1) 82 0 0 8) 109 1 0
theorem hR_I {h1 : mv_H} {r a : Nat} (n1 : a ≠ 50) (n2 : a ≠ 81) (n3 : a ≠ 82) (n4 : a ≠ 109) : mv_I (hR h1 r) a = mv_I h1 a := by
  funext j
  unfold hR
  rw [mx_InE n4, cpI, if_neg n3, mx_InE n2, mx_InE n2, mx_InE n2]
  show mv_I (mv_sI h1 50 1 0) a j = _
  rw [mx_InE n1]
theorem hR_81 {h1 : mv_H} {r : Nat} (hr : 165 ≤ r) : mv_I (hR h1 r) 81 0 = mv_I h1 r 4 ∧ mv_I (hR h1 r) 81 1 = mv_I h1 r 3 ∧ mv_I (hR h1 r) 81 2 = 0 ∧ (∀ p, p < 8 → mv_I (hR h1 r) 82 p = mv_I h1 (r + 1) p) ∧ mv_I (hR h1 r) 109 1 = 0 ∧ mv_I (hR h1 r) 50 1 = 0 := by
  have b : ∀ a j, a ≠ 50 → mv_I (mv_sR (mv_sI h1 50 1 0) 50 3 r) a j = mv_I h1 a j := fun a j n => by
    show mv_I (mv_sI h1 50 1 0) a j = _
    rw [mx_InE n]
  unfold hR
  refine ⟨?_, ?_, ?_, fun p hp => ?_, ?_, ?_⟩
  · rw [mx_InE (by omega), cpI, if_neg (by omega), mx_Isk (by omega), mx_Isk (by omega), mx_Iss, b _ _ (by omega)]
  · rw [mx_InE (by omega), cpI, if_neg (by omega), mx_Isk (by omega), mx_Iss, mx_InE (by omega), b _ _ (by omega)]
  · rw [mx_InE (by omega), cpI, if_neg (by omega), mx_Iss]
  · rw [mx_InE (by omega), cpI, if_pos rfl, pk_cpy_in (by omega) (by omega), show 0 + (p - 0) = p by omega, mx_InE (by omega), mx_InE (by omega), mx_InE (by omega), b _ _ (by omega)]
  · rw [mx_Iss]
  · rw [mx_InE (by omega), cpI, if_neg (by omega), mx_InE (by omega), mx_InE (by omega), mx_InE (by omega)]
    show mv_I (mv_sI h1 50 1 0) 50 1 = 0
    rw [mx_Iss]
theorem hR_R {h1 : mv_H} {r a k : Nat} (n : a ≠ 50 ∨ k ≠ 3) : mv_R (hR h1 r) a k = mv_R h1 a k := by
  show mv_R (mv_sR (mv_sI h1 50 1 0) 50 3 r) a k = _
  rw [mx_upR, if_neg (by omega)]; rfl
theorem hR_R3 {h1 : mv_H} {r : Nat} : mv_R (hR h1 r) 50 3 = r := by
  show mv_R (mv_sR (mv_sI h1 50 1 0) 50 3 r) 50 3 = _
  rw [mx_upR, if_pos ⟨rfl, rfl⟩]
theorem hR_gz {h1 : mv_H} {r : Nat} : mx_gz SR h1 (hR h1 r) := by
  refine ⟨Nat.le_refl _, fun a _ => rfl, fun a k _ q => ⟨?_, rfl, ?_⟩⟩
  · by_cases y1 : a = 50
    · subst y1
      have hk : k ≠ 1 := fun w => by subst w; cases q
      unfold hR
      rw [mx_InE (by omega), cpI, if_neg (by omega), mx_InE (by omega), mx_InE (by omega), mx_InE (by omega)]
      show mv_I (mv_sI h1 50 1 0) 50 k = _
      rw [mx_Isk hk]
    · by_cases y2 : a = 81
      · subst y2
        have t : SR 81 k = true := rfl
        rw [t] at q; cases q
      · by_cases y3 : a = 82
        · subst y3
          have t : SR 82 k = true := rfl
          rw [t] at q; cases q
        · by_cases y4 : a = 109
          · subst y4
            have hk : k ≠ 1 := fun w => by subst w; cases q
            unfold hR
            rw [mx_Isk hk, cpI, if_neg (by omega), mx_InE (by omega), mx_InE (by omega), mx_InE (by omega)]
            show mv_I (mv_sI h1 50 1 0) 109 k = _
            rw [mx_InE (by omega)]
          · rw [hR_I y1 y2 y3 y4]
  · refine hR_R ?_
    by_cases y1 : a = 50
    · subst y1
      exact Or.inr (fun w => by subst w; cases q)
    · exact Or.inl y1
theorem raft_new {E : mv_E} {h1 : mv_H} {r i : Nat} {F A : Nat → Int32} (q : cX E h1 r F) (a0 : mv_I h1 r 0 = F 1) (a2 : mv_I h1 r 2 = F 0) (w : lw F) (lc : loc F i) (hi : i ≤ 900) : i_raft E (hR h1 r) r (rA A F) ∧ i_st (hR h1 r) 81 (fun j => rA A F (65 + j)) := by
  obtain ⟨q1, q2, q3, q4, q5, q6, q7, q8, q9⟩ := q
  have r9 : r + 9 < h1.1 := q3.2.2.2.2.2.2.2.2.2.2
  have lo : ∀ k, k < 1088 → rA A F k = F k := fun k hk => by unfold rA; rw [if_pos hk]
  have RE : ∀ k, mv_RE E (hR h1 r) r k = mv_RE E h1 r k := fun k => by rw [RE_hi q1, RE_hi q1, hR_R (Or.inl (by omega))]
  have KE : ∀ a, mv_KE E (hR h1 r) a = mv_KE E h1 a := fun a => rfl
  have I : ∀ c, c ≤ 9 → mv_I (hR h1 r) (r + c) = mv_I h1 (r + c) := fun c hc => hR_I (by omega) (by omega) (by omega) (by omega)
  have I0 : mv_I (hR h1 r) r = mv_I h1 r := I 0 (by omega)
  have lwx : ∀ l, l < 2 → cLx E h1 r F l → cr_law E (hR h1 r) r (rA A F) l := by
    intro l hl ⟨L, b1, b2, b3, b4⟩
    refine ⟨L, by rw [RE, KE]; exact b1, ?_, by rw [RE]; exact b3, ?_⟩
    · rw [RE]
      rcases b2 with b2 | b2
      · exact Or.inl b2
      · exact Or.inr ⟨by omega, fun j j1 j2 => by rw [KE, q7 _ (by omega) (by omega)]; decide⟩
    · have n165 : 165 ≤ mv_RE E h1 r (11 + l) := by omega
      have eN : sp_N (rA A F) l = sp_N F l := by unfold sp_N; rw [lo _ (by omega)]
      have eF : sp_F (rA A F) l = sp_F F l := by unfold sp_F; rw [lo _ (by omega)]
      rw [RE, hR_I (a := mv_RE E h1 r (11 + l)) (by omega) (by omega) (by omega) (by omega), lo (3 + l) (by omega), eN]
      rcases b4 with b4 | ⟨b4, b5, b6⟩
      · exact Or.inl b4
      · refine Or.inr ⟨b4, b5, fun j hj => ?_⟩
        rw [b6 j hj]
        obtain ⟨-, b, bi, -, lr⟩ := lc
        rcases lr l hl with y | ⟨-, y⟩
        · rw [y] at b4; exact absurd b4 (by decide)
        · have : sp_C (rA A F) l j = sp_C F l j := by
            unfold sp_C
            rw [eF, lo _ (by omega)]
          rw [this]
  obtain ⟨v1, v2, v3, v4, v5, v6, v7, v8, v9, v10⟩ := q4
  obtain ⟨s1, s2, s3, s4, s5, s6⟩ := hR_81 (h1 := h1) q1
  refine ⟨⟨⟨?_, ⟨?_, ?_, ?_, fun p hp => ?_, fun p hp => ?_, fun p hp => ?_, fun p hp => ?_, fun p hp => ?_⟩, lwx 0 (by omega) q5, lwx 1 (by omega) q6⟩, Or.inl ?_⟩, ?_, ?_, ?_, fun p hp => ?_⟩
  · unfold cr_sh at q3 ⊢
    simp only [RE, KE]
    exact q3
  · rw [I0, lo _ (by omega)]; exact a0
  · rw [I0, lo _ (by omega)]; exact v1
  · rw [I0, lo _ (by omega)]; exact a2
  · rw [I 2 (by omega), lo _ (by omega)]; exact v5 p hp
  · rw [I 3 (by omega), lo _ (by omega)]; exact v6 p hp
  · rw [I 5 (by omega), lo _ (by omega)]; exact v8 p hp
  · rw [I 6 (by omega), lo _ (by omega)]; exact v9 p hp
  · rw [I 4 (by omega), lo _ (by omega)]; exact v7 p hp
  · rw [I0, v10]; exact w.2.2
  · rw [s1]
    show _ = rA A F 65
    rw [lo _ (by omega)]; exact v3
  · rw [s2]
    show _ = rA A F 74
    rw [lo _ (by omega)]; exact v2
  · rw [s3]
    show _ = rA A F 75
    rw [lo _ (by omega)]; exact w.2.1.symm
  · show mv_I (hR h1 r) 82 p = rA A F (65 + (1 + p))
    rw [s4 p hp, lo _ (by omega), show 65 + (1 + p) = 66 + p by omega]; exact v4 p hp
theorem raft_past {h g : mv_H} {A A' : Nat → Int32} (i : i_past h A) (e1 : mv_I g 109 1 = 0) (e2 : A' 76 = 0) (e3 : ∀ k, mv_R g 110 k = mv_R h 110 k) : i_past g A' := by
  have d0 : sp_d A' = 0 := by unfold sp_d; rw [e2]; rfl
  have e4 : mv_R g 110 = mv_R h 110 := funext e3
  unfold i_past
  rw [e1, e2, e4]
  exact ⟨rfl, i.2.1, i.2.2.1, fun j _ hj => absurd hj (by omega)⟩
theorem ct66r {E : mv_E} {D k n : Nat} {h : mv_H} {Q : mv_Q} {r : Nat} (kr : mv_KE E h r = (3, 16)) (r5 : mv_RE E h r 5 = r + 1) (k5 : mv_KE E h (r + 1) = (20, 8)) (H : Q none (mv_cp (mv_sI (mv_sI (mv_sI h 81 0 (mv_I h r 4)) 81 1 (mv_I (mv_sI h 81 0 (mv_I h r 4)) r 3)) 81 2 0) (r + 1) 82 0 0 8)) : mv_VE E (D + 1) k n 66 0 [some (.ref 81), some (.ref r)] [] h Q := by
  apply sg66_0
  have k81 : mv_KE E h 81 = (6, 4) := rfl
  have r81 : mv_RE E h 81 3 = 82 := rfl
  have k82 : mv_KE E h 82 = (20, 8) := rfl
  rw [kr, r5, k5, k81, r81, k82]
  exact mv_gdI rfl (mv_gdI rfl (mv_gdI rfl (mv_gdI rfl (mv_gdI rfl (mv_gdI rfl (mv_gdI rfl (mv_gdI (by decide) H)))))))
theorem cc101 {E : mv_E} {D k n : Nat} {h : mv_H} {Q : mv_Q} {V : vw} {x : Int32} (g : gS h) (i : InvC E h V) (m : InvM V) (hh : 165 ≤ h.1) (hk : 911 ≤ k) (hn : 989 ≤ n) (H : ∀ h', InvC E h' (V_raft V x) → fCl h h' → Q (some (.int (v_raft V x))) h') : mv_VE E (D + 10) k n 101 0 [some (.ref 50), some (.int x), none] [] h Q := by
  obtain ⟨t, ht, et, tb⟩ := m.2.2.2
  have e1 : mv_I h 50 1 = vTd V := i.1.2.2.2.1.1
  have e51 := i.1.2.2.2.1.2
  apply sg101_0
  rw [e1]
  unfold V_raft v_raft at H
  by_cases c : x < 0 ∨ vTd V < x
  · rw [if_pos c, if_pos c] at H
    have fin := H h i fCl.rf
    exact mx_if (fun _ => fin) (fun c1 => mx_if (fun _ => fin) (fun c2 => absurd c (fun z => z.elim c1 c2)))
  · rw [if_neg c, if_neg c] at H
    have c1 : ¬ x < 0 := fun z => c (Or.inl z)
    have c2 : ¬ vTd V < x := fun z => c (Or.inr z)
    rw [if_neg c1, if_neg c2]
    obtain ⟨N, hN2, hx⟩ := nI_of c1
    subst hx
    rw [nI_clamp hN2] at H
    have hNt : N ≤ t := by
      rw [et] at c2
      rcases Nat.lt_or_ge t N with z | z
      · exact absurd ((nI_ltI (by omega) hN2).mpr z) c2
      · exact z
    have hN : N ≤ 900 := by omega
    have bb : ∀ j, j < N → rb V j < 256 ∧ vTp V j = nI (rb V j) := fun j hj => by
      obtain ⟨b, b1, b2⟩ := tb j (by omega)
      unfold rb
      rw [b2, nI_clamp (by omega)]
      exact ⟨b1, rfl⟩
    have h51 : ∀ j, j < N → mv_I h 51 j = cb (rb V j) := fun j hj => by
      rw [e51 j (by rw [et, nI_clamp (by omega)]; omega), (bb j hj).2]; rfl
    have T9 := (tT_lt (rb V) N).1
    have toC : ∀ h', mx_gz SR h h' → fCl h h' := fun h' z a k q => by
      have u := z.2.2 a k (by omega) (SRf (by omega))
      exact ⟨u.1, u.2.1⟩
    refine ⟨(10 + (tT (rb V) N + 1), 88 + (tT (rb V) N + 1)), by show 10 + (tT (rb V) N + 1) ≤ k; omega, by show 88 + (tT (rb V) N + 1) ≤ n; omega, ?_⟩
    refine ct39 (D := D) rfl hN (fun j hj => (bb j hj).1) h51 g hh (Nat.le_refl _) (Nat.le_refl _) (fun i' F h1 e z q a0 a2 lc li => ⟨_, rfl, mv_gdI ?_ ?_⟩) (fun f i' h1 e z er => ⟨_, rfl, mv_gdI rfl ?_⟩)
    · rw [Nat.ble_eq_true_of_le (show 50 ≤ h.1 by omega), Bool.or_true]
    · rw [if_neg (show ¬ h.1 = 0 by omega)]
      have w := lw_raft e
      rw [e] at H
      have s := q.2.2.1
      have kr : mv_KE E (mv_sR (mv_sI h1 50 1 0) 50 3 h.1) h.1 = (3, 16) := s.2.1
      have r5 : mv_RE E (mv_sR (mv_sI h1 50 1 0) 50 3 h.1) h.1 5 = h.1 + 1 := by
        have := s.2.2.1.1
        rw [RE_hi hh] at this ⊢
        rw [mx_upR, if_neg (by omega)]; exact this
      have k5 : mv_KE E (mv_sR (mv_sI h1 50 1 0) 50 3 h.1) (h.1 + 1) = (20, 8) := s.2.2.1.2
      refine ct66r (D := D + 8) kr r5 k5 ⟨rfl, ?_⟩
      apply sg19_0
      refine ⟨rfl, ?_⟩
      show mv_gd (Nat.beq (mv_KE E (hR h1 h.1) h.1).1 3) (Q (some (.int (mv_I (hR h1 h.1) h.1 2))) (hR h1 h.1))
      have kh : mv_KE E (hR h1 h.1) h.1 = (3, 16) := s.2.1
      rw [kh, hR_I (a := h.1) (by omega) (by omega) (by omega) (by omega), a2]
      refine mv_gdI rfl ?_
      have zz : mx_gz SR h (hR h1 h.1) := (z.to (fun a k _ y => SR39 y)).tr hR_gz
      obtain ⟨n1, n2⟩ := raft_new (A := vA V) q a0 a2 w lc li
      obtain ⟨s1, s2, s3, s4, s5, s6⟩ := hR_81 (h1 := h1) hh
      have A76 : rA (vA V) F 76 = 0 := by unfold rA; rw [if_pos (by omega)]; exact w.2.2
      refine H _ (i.raft (A' := rA (vA V) F) (fk := 0) (fp := -1) hh zz (fun j hj => ?_) ?_ n2 (raft_past i.1.1.2.2 s5 A76 (fun k => (zz.2.2 110 k (by omega) (SRf (by omega))).2.2)) s6 ?_ ?_) (toC _ zz)
      · funext k
        unfold sp_im rA
        rw [if_neg (by omega)]
      · rw [hR_R3]; exact n1
      · rw [hR_I (by omega) (by omega) (by omega) (by omega)]; exact q.2.2.2.2.2.2.2.1
      · rw [hR_I (by omega) (by omega) (by omega) (by omega)]; exact q.2.2.2.2.2.2.2.2
    · rw [if_pos rfl, er.1]
      rw [e] at H
      have zE : mx_gz SRe h (mv_sI h1 50 1 0) := (z.to (fun a k _ y => by unfold SRe at y; exact (Bool.or_eq_false_iff.mp y).1)).tr ((mx_fr.sI (S := SRe) (a := 50) (k := 1) rfl).z.g)
      have zz : mx_gz SR h (mv_sI h1 50 1 0) := zE.to (fun a k _ y => SRE y)
      have R3 : mv_R (mv_sI h1 50 1 0) 50 3 = mv_R h 50 3 := (zE.2.2 50 3 (by omega) rfl).2.2
      refine H _ (i.raft (A' := vA V) (fk := nI (rk V N f i')) (fp := nI (tA (rb V) N i')) hh zz (fun j hj => rfl) ?_ (i.1.1.2.1.gz zE (by omega) (fun k => SRef (by omega)) (fun k => SRef (by omega))) (i.1.1.2.2.gz zE hh (fun a k _ _ => SRef (by omega))) mx_Iss ?_ ?_) (toC _ zz)
      · rw [R3]; exact i.1.1.1.gz zE (fun a k c => SRef (by unfold cr_reg at c; omega))
      · rw [mx_InE (by omega)]; exact er.1
      · rw [mx_InE (by omega)]; exact er.2
