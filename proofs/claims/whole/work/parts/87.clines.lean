/-! How the class reads lines: words, numbers, faults. -/
def S43 (a k : Nat) : Bool := (Nat.beq a 52 && Nat.beq k 3) || (Nat.beq a 53 && Nat.beq k 6)
def S42e (a k : Nat) : Bool := S43 a k || (Nat.beq a 52 && (Nat.beq k 4 || Nat.beq k 5))
theorem fre {h h' : mv_H} (f : mx_fr S43 h h') : mx_fr S42e h h' := f.to (fun _ _ q => (Bool.or_eq_false_iff.mp q).1)
theorem S43f {a k : Nat} (h : a ≠ 52 ∧ a ≠ 53) : S43 a k = false := by unfold S43; rw [mv_bne h.1, mv_bne h.2]; rfl
theorem S43_83 {a k : Nat} (h : S43 a k = false) : S83 a k = false := (Bool.or_eq_false_iff.mp h).2
theorem f43 {h h' : mv_H} (f : mx_fr S83 h h') : mx_fr S43 h h' := f.to (fun _ _ q => S43_83 q)
def cEr (B : Nat → Nat) (N f i : Nat) (h : mv_H) : Prop := mv_I h 52 4 = nI (if tK B N i = 25 then 1 else f) ∧ mv_I h 52 5 = nI (tA B N i)
theorem cK.w52 {B : Nat → Nat} {N i k : Nat} {x : Int32} {h : mv_H} (c : cK B N i h) : cK B N i (mv_sI h 52 k x) := ⟨c.1.fr (S := fun a _ => Nat.beq a 52) (mx_fr.sI rfl) ⟨rfl, rfl⟩ (fun _ => ⟨rfl, rfl, rfl⟩), by rw [mx_InE (by omega)]; exact c.2.1, c.2.2⟩
theorem ck_2 : ∀ m, m < 42 → (nI (ck m) = 2 ↔ m = 25) := by decide +kernel
theorem ct42 {E : mv_E} {D k n : Nat} {h : mv_H} {Q : mv_Q} {B : Nat → Nat} {N i : Nat} {x : Int32} (f : Nat) (e : x = nI f) (hN : N ≤ 900) (c : cK B N i h) (H : ∀ h', mx_fr S42e h h' → cEr B N f i h' → Q (some (.int 0)) h') : mv_VE E (D + 1) k n 42 0 [some (.ref 52), some (.int x)] [] h Q := by
  subst e
  have k41 := tK_41 B N i
  have q25 := ck_2 (tK B N i) (by omega)
  apply sg42_0
  refine ct81 hN c ⟨_, rfl, mx_if (fun y => ?_) (fun y => ?_)⟩
  · exact ct82 hN c.w52 ⟨_, rfl, H _ ((mx_fr.sI rfl).tr (mx_fr.sI rfl)) ⟨by rw [mx_Isk (by omega), mx_Iss, if_pos (q25.mp y)]; rfl, mx_Iss⟩⟩
  · exact ct82 hN c.w52 ⟨_, rfl, H _ ((mx_fr.sI rfl).tr (mx_fr.sI rfl)) ⟨by rw [mx_Isk (by omega), mx_Iss, if_neg (fun z => y (q25.mpr z))], mx_Iss⟩⟩
theorem ck_ij : ∀ c, c < 42 → ck c ≠ 999 → ∀ m, m < 42 → (nI (ck m) = nI (ck c) ↔ m = c) := by
  intro c hc h9 m hm
  have a := ck_lt m hm
  have b := ck_lt c hc
  rw [nI_eq (by omega) (by omega)]
  exact ⟨fun e => ck_inj m hm c hc ⟨e, by rw [e]; exact h9⟩, fun e => by rw [e]⟩
theorem ct41 {E : mv_E} {D k n : Nat} {h : mv_H} {Q : mv_Q} {B : Nat → Nat} {N i : Nat} {x : Int32} (c : Nat) (e : x = nI (ck c)) (hc : c < 42) (h9 : ck c ≠ 999) (h24 : c ≠ 24 ∧ c ≠ 25) (hN : N ≤ 900) (t : cK B N i h) (H1 : tK B N i = c → ∀ h', mx_fr S43 h h' → cK B N (i + 1) h' → Q (some (.int 1)) h') (H0 : tK B N i ≠ c → ∀ h', mx_fr S42e h h' → cEr B N 2 i h' → Q (some (.int 0)) h') : mv_VE E (D + 2) k n 41 0 [some (.ref 52), some (.int x)] [] h Q := by
  subst e
  have k41 := tK_41 B N i
  have q := ck_ij c hc h9 (tK B N i) (by omega)
  apply sg41_0
  refine ct81 hN t ⟨_, rfl, mx_if (fun y => ?_) (fun y => ?_)⟩
  · have y := q.mp y
    exact ct83 hN t (by omega) (fun h' f1 t1 => ⟨rfl, H1 y h' (f43 f1) t1⟩)
  · exact ct42 2 rfl hN t (fun h' f1 m1 => ⟨_, rfl, mv_gdI rfl (H0 (fun z => y (q.mpr z)) h' f1 m1)⟩)
theorem ct43 {E : mv_E} {D k n : Nat} {h : mv_H} {Q : mv_Q} {B : Nat → Nat} {N i : Nat} {x1 x2 : Int32} (lo hb : Nat) (e1 : x1 = nI lo) (e2 : x2 = nI hb - 1) (hlo : lo < 1000) (hhb : hb < 1001) (hN : N ≤ 900) (t : cK B N i h) (H1 : tK B N i = 23 → lo ≤ tN B N i → tN B N i < hb → ∀ h', mx_fr S43 h h' → cK B N (i + 1) h' → mv_I h' 52 3 = nI (tN B N i) → Q (some (.int 1)) h') (H0 : ∀ f h', mx_fr S42e h h' → cEr B N f i h' → (∀ k, lnum B N lo hb i k = .inl (f, i)) → Q (some (.int 0)) h') : mv_VE E (D + 2) k n 43 0 [some (.ref 52), some (.int x1), some (.int x2)] [] h Q := by
  have k41 := tK_41 B N i
  have q23 := (cki (tK B N i) (by omega)).1
  apply sg43_0
  refine ct81 hN t ⟨_, rfl, mx_if (fun y => ?_) (fun y => ?_)⟩
  · have y := q23.mp y
    have tn := tN_lt y
    have c1 : (nI (tN B N i) < x1) ↔ tN B N i < lo := by rw [e1]; exact nI_ltI (by omega) (by omega)
    have c2 : (x2 < nI (tN B N i)) ↔ hb ≤ tN B N i := by
      rw [e2]
      cases hb with
      | zero => exact ⟨fun _ => Nat.zero_le _, fun _ => (by
          have : nI 0 - 1 = (-1 : Int32) := by decide
          rw [this]
          exact (by decide +kernel : ∀ c, c < 1000 → (-1 : Int32) < nI c) _ tn)⟩
      | succ m => rw [nI_pred, nI_ltI (by omega) (by omega)]; omega
    refine ct84 hN t y ⟨_, rfl, mx_if (fun z => ?_) (fun z => ct84 hN t y ⟨_, rfl, mx_if (fun w => ?_) (fun w => ?_)⟩)⟩
    · exact ct42 3 rfl hN t (fun h' f1 m1 => ⟨_, rfl, mv_gdI rfl (H0 3 h' f1 m1 (fun k => by unfold lnum; rw [if_pos y, if_neg (by have := c1.mp z; omega)]))⟩)
    · exact ct42 3 rfl hN t (fun h' f1 m1 => ⟨_, rfl, mv_gdI rfl (H0 3 h' f1 m1 (fun k => by unfold lnum; rw [if_pos y, if_neg (by have := c2.mp w; omega)]))⟩)
    · have a : lo ≤ tN B N i := by
        rcases Nat.lt_or_ge (tN B N i) lo with v | v
        · exact absurd (c1.mpr v) z
        · exact v
      have b : tN B N i < hb := by
        rcases Nat.lt_or_ge (tN B N i) hb with v | v
        · exact v
        · exact absurd (c2.mpr v) w
      exact ct84 hN t y ⟨_, rfl, ct83 hN t.w52 (by omega) (fun h' f1 t1 => ⟨rfl, H1 y a b h' ((mx_fr.sI rfl).tr (f43 f1)) t1 (by rw [f1.2.2.1 52 3 rfl, mx_Iss])⟩)⟩
  · exact ct42 2 rfl hN t (fun h' f1 m1 => ⟨_, rfl, mv_gdI rfl (H0 2 h' f1 m1 (fun k => by unfold lnum; rw [if_neg (fun z => y (q23.mpr z))]))⟩)
/-- a Raft that is being read -/
def cLx (E : mv_E) (h : mv_H) (r : Nat) (F : Nat → Int32) (l : Nat) : Prop := ∃ L, mv_KE E h (mv_RE E h r (11 + l)) = (20, L) ∧ (mv_RE E h r (11 + l) = r + 7 + l ∨ r + 10 ≤ mv_RE E h r (11 + l)) ∧ mv_RE E h r (11 + l) < h.1 ∧ ((F (3 + l) = 0 ∧ L = 0) ∨ (F (3 + l) = 1 ∧ L = sp_N F l ∧ ∀ i, i < L → mv_I h (mv_RE E h r (11 + l)) i = nI (cr_tr (sp_C F l i))))
def cXv (h : mv_H) (r : Nat) (F : Nat → Int32) : Prop := mv_I h r 1 = F 2 ∧ mv_I h r 3 = F 74 ∧ mv_I h r 4 = F 65 ∧ (∀ p, p < 8 → mv_I h (r + 1) p = F (66 + p)) ∧ (∀ p, p < 8 → mv_I h (r + 2) p = F (9 + p)) ∧ (∀ p, p < 8 → mv_I h (r + 3) p = F (17 + p)) ∧ (∀ p, p < 24 → mv_I h (r + 4) p = F (41 + p)) ∧ (∀ p, p < 8 → mv_I h (r + 5) p = F (25 + p)) ∧ (∀ p, p < 8 → mv_I h (r + 6) p = F (33 + p)) ∧ mv_I h r 13 = F 76
def cX (E : mv_E) (h : mv_H) (r : Nat) (F : Nat → Int32) : Prop := 165 ≤ r ∧ mv_R h 52 2 = r ∧ cr_sh E h r ∧ cXv h r F ∧ cLx E h r F 0 ∧ cLx E h r F 1 ∧ (∀ a, r < a → a < h.1 → (mv_KE E h a).1 = 20) ∧ mv_I h 52 4 = 0 ∧ mv_I h 52 5 = -1
theorem cX.f {E : mv_E} {h h' : mv_H} {r : Nat} {F : Nat → Int32} (c : cX E h r F) (f : mx_fr S43 h h') : cX E h' r F := by
  obtain ⟨c1, c2, c3, c4, c5, c6, c7, c8, c9⟩ := c
  have lw : ∀ l, l < 2 → cLx E h r F l → cLx E h' r F l := fun l hl q => by
    unfold cLx at q ⊢
    rw [f.R E, f.1]
    obtain ⟨L, q1, q2, q3, q4⟩ := q
    refine ⟨L, by rw [f.K E]; exact q1, q2, q3, ?_⟩
    rw [f.I _ (fun _ => S43f (by omega))]
    exact q4
  refine ⟨c1, by rw [f.2.2.2.2]; exact c2, ?_, ?_, lw 0 (by omega) c5, lw 1 (by omega) c6, fun a h1 h2 => by rw [f.K E]; exact c7 a h1 (by rw [← f.1]; exact h2), by rw [f.2.2.1 52 4 rfl]; exact c8, by rw [f.2.2.1 52 5 rfl]; exact c9⟩
  · unfold cr_sh at c3 ⊢
    rw [f.1]
    simp only [f.K E, f.R E]
    exact c3
  · unfold cXv at c4 ⊢
    rw [f.I r (fun _ => S43f (by omega)), f.I (r + 1) (fun _ => S43f (by omega)), f.I (r + 2) (fun _ => S43f (by omega)), f.I (r + 3) (fun _ => S43f (by omega)), f.I (r + 4) (fun _ => S43f (by omega)), f.I (r + 5) (fun _ => S43f (by omega)), f.I (r + 6) (fun _ => S43f (by omega))]
    exact c4
