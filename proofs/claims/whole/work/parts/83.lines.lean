/-! Lines: what they say; how the model reads them. -/
abbrev LR := (Nat × Nat) ⊕ (Nat × (Nat → Int32))
def lbind (r : LR) (k : Nat → (Nat → Int32) → LR) : LR := match r with
  | .inl e => .inl e
  | .inr (i, F) => k i F
def lpass (B : Nat → Nat) (N c i : Nat) (k : Nat → LR) : LR := if tK B N i = c then k (i + 1) else .inl (2, i)
def lnum (B : Nat → Nat) (N lo hb i : Nat) (k : Nat → Nat → LR) : LR := if tK B N i = 23 then (if lo ≤ tN B N i ∧ tN B N i < hb then k (tN B N i) (i + 1) else .inl (3, i)) else .inl (2, i)
def lflag (B : Nat → Nat) (N p : Nat) : Nat → Nat → (Nat → Int32) → LR
  | 0, i, F => .inr (i, F)
  | f + 1, i, F => if tK B N i = 5 then lflag B N p f (i + 1) (mx_upA F 65 (F 65 &&& ((1 <<< (nI p &&& 31)) ^^^ (-1))))
    else if tK B N i = 6 then lnum B N 0 10 (i + 1) (fun v j => lflag B N p f j (mx_upA F (17 + p) (nI v)))
    else if tK B N i = 7 then lnum B N 0 10 (i + 1) (fun v j => lnum B N 0 10 j (fun v2 j2 => lnum B N 0 10 j2 (fun v3 j3 => lflag B N p f j3 (mx_upA (mx_upA (mx_upA F (41 + 3 * p) (nI v)) (41 + 3 * p + 1) (nI v2)) (41 + 3 * p + 2) (nI v3)))))
    else .inr (i, F)
theorem lnum_t {B : Nat → Nat} {N lo hb i : Nat} {k : Nat → Nat → LR} (q : tK B N i = 23) (r : lo ≤ tN B N i ∧ tN B N i < hb) : lnum B N lo hb i k = k (tN B N i) (i + 1) := by unfold lnum; rw [if_pos q, if_pos r]
theorem lpass_t {B : Nat → Nat} {N c i : Nat} {k : Nat → LR} (q : tK B N i = c) : lpass B N c i k = k (i + 1) := by unfold lpass; rw [if_pos q]
theorem lpass_f {B : Nat → Nat} {N c i : Nat} {k : Nat → LR} (q : tK B N i ≠ c) : lpass B N c i k = .inl (2, i) := by unfold lpass; rw [if_neg q]
theorem lflag_s {B : Nat → Nat} {N p f i : Nat} {F : Nat → Int32} : lflag B N p (f + 1) i F = (if tK B N i = 5 then lflag B N p f (i + 1) (mx_upA F 65 (F 65 &&& ((1 <<< (nI p &&& 31)) ^^^ (-1))))
    else if tK B N i = 6 then lnum B N 0 10 (i + 1) (fun v j => lflag B N p f j (mx_upA F (17 + p) (nI v)))
    else if tK B N i = 7 then lnum B N 0 10 (i + 1) (fun v j => lnum B N 0 10 j (fun v2 j2 => lnum B N 0 10 j2 (fun v3 j3 => lflag B N p f j3 (mx_upA (mx_upA (mx_upA F (41 + 3 * p) (nI v)) (41 + 3 * p + 1) (nI v2)) (41 + 3 * p + 2) (nI v3)))))
    else .inr (i, F)) := rfl
def lhF (F : Nat → Int32) (p b w : Nat) : Nat → Int32 := mx_upA (mx_upA (mx_upA (mx_upA F (66 + p) (nI b)) (9 + p) (nI w)) 65 (F 65 ||| (1 <<< (nI p &&& 31)))) (17 + p) 1
def lhold (B : Nat → Nat) (N i : Nat) (F : Nat → Int32) : LR := if F 1 = 8 then .inl (4, i) else lpass B N 3 (i + 1) (fun i => lnum B N 0 10 i (fun b i => lpass B N 4 i (fun i => lnum B N 0 10 i (fun w i => lbind (lflag B N (F 1).toNatClampNeg (tT B N + 1 - i) i (lhF F (F 1).toNatClampNeg b w)) (fun i F => .inr (i, mx_upA F 1 (F 1 + 1)))))))
def lpF (F : Nat → Int32) (b p q : Nat) : Nat → Int32 := mx_upA (mx_upA F (b + p) (F (b + p) ||| (1 <<< (nI q &&& 31)))) (b + q) ((mx_upA F (b + p) (F (b + p) ||| (1 <<< (nI q &&& 31)))) (b + q) ||| (1 <<< (nI p &&& 31)))
def lpair (B : Nat → Nat) (N b i : Nat) (F : Nat → Int32) : LR := lnum B N 0 (F 1).toNatClampNeg (i + 1) (fun p j => if tK B N j = 23 ∧ tN B N j = p then .inl (3, j) else lnum B N 0 (F 1).toNatClampNeg j (fun q j2 => .inr (j2, lpF F b p q)))
def lstorm (B : Nat → Nat) (N i : Nat) (F : Nat → Int32) : LR := lnum B N 0 10 (i + 1) (fun v j => .inr (j, mx_upA F 74 (nI v)))
def lstore (l : Nat) (F : Nat → Int32) (R : List Nat) : Nat → Int32 := fun k => if k = 3 + l then 1 else if k = 5 + l then F 187 else if k = 7 + l then nI R.length else if k = 187 then nI ((F 187).toNatClampNeg + R.length) else if 188 + (F 187).toNatClampNeg ≤ k ∧ k < 188 + (F 187).toNatClampNeg + R.length then nI (R.getD (k - (188 + (F 187).toNatClampNeg)) 0) else F k
def llaw (B : Nat → Nat) (N l i : Nat) (F : Nat → Int32) : LR := lpass B N 31 (i + 1) (fun i => if (MO B N l 1 [] [] i).1 = 0 then .inr ((MO B N l 1 [] [] i).2.1, lstore l F (MO B N l 1 [] [] i).2.2) else .inl ((MO B N l 1 [] [] i).1, (MO B N l 1 [] [] i).2.1))
def lline (B : Nat → Nat) (N i : Nat) (F : Nat → Int32) : LR := if tK B N i = 2 then lhold B N i F else if tK B N i = 8 then lpair B N 25 i F else if tK B N i = 9 then lpair B N 33 i F else if tK B N i = 10 then lstorm B N i F else if tK B N i = 11 then llaw B N 0 i F else if tK B N i = 12 then llaw B N 1 i F else .inl (2, i)
def lclose (B : Nat → Nat) (N i : Nat) (F : Nat → Int32) : LR := lpass B N 30 i (fun i => .inr (i, mx_upA F 0 (F 0 + 1)))
def llines (B : Nat → Nat) (N : Nat) : Nat → Nat → (Nat → Int32) → LR
  | 0, i, F => .inr (i, F)
  | f + 1, i, F => if tK B N i = 24 then .inr (i, F) else lbind (lline B N i F) (fun i F => lbind (lclose B N i F) (llines B N f))
def lF0 : Nat → Int32 := fun k => if k = 2 then 1 else 0
def lraft (B : Nat → Nat) (N : Nat) : LR := lpass B N 0 0 (fun i => lpass B N 1 i (fun i => lnum B N 1 100 i (fun q i => lbind (lclose B N i (mx_upA lF0 2 (nI q))) (fun i F => llines B N (tT B N + 1 - i) i F))))
-- the model
def S190 (a k : Nat) : Bool := Nat.beq a 148 && (Nat.beq k 6 || Nat.beq k 7 || Nat.beq k 9 || Nat.beq k 10 || Nat.beq k 11 || Nat.beq k 12)
def S181 (a k : Nat) : Bool := S190 a k || Nat.beq a 152 || (Nat.beq a 148 && Nat.beq k 15)
def mF (h : mv_H) (F : Nat → Int32) : Prop := ∀ k, k < 1088 → mv_I h 152 k = F k
theorem S190_183 {a k : Nat} (h : S190 a k = false) : S183 a k = false := by
  unfold S190 at h
  unfold S183
  cases z : Nat.beq a 148 with
  | false => rfl
  | true =>
    rw [z] at h
    simp only [Bool.true_and, Bool.or_eq_false_iff] at h ⊢
    exact ⟨⟨⟨h.1.1.1.1.1, h.1.1.1.1.2⟩, h.1.1.1.2⟩, h.1.1.2⟩
theorem frA {h h' : mv_H} (f : mx_fr S183 h h') : mx_fr S190 h h' := f.to (fun _ _ q => S190_183 q)
theorem frB {h h' : mv_H} (f : mx_fr S190 h h') : mx_fr S181 h h' := f.to (fun _ _ q => (Bool.or_eq_false_iff.mp (Bool.or_eq_false_iff.mp q).1).1)
theorem frW {h : mv_H} {k : Nat} {x : Int32} : mx_fr S181 h (mv_sI h 152 k x) := mx_fr.sI (by unfold S181; rw [show Nat.beq 152 152 = true from rfl, Bool.or_true, Bool.true_or])
theorem mF.a {h h' : mv_H} {F : Nat → Int32} (m : mF h F) (f : mx_fr S190 h h') : mF h' F := fun k hk => by rw [f.2.2.1 152 k rfl]; exact m k hk
theorem mF.w {h : mv_H} {F : Nat → Int32} {k : Nat} {x : Int32} (m : mF h F) : mF (mv_sI h 152 k x) (mx_upA F k x) := fun j hj => by
  unfold mx_upA
  rw [mx_upI]
  by_cases q : j = k
  · rw [if_pos ⟨rfl, q⟩, if_pos q]
  · rw [if_neg (fun c => q c.2), if_neg q]; exact m j hj
theorem mK.w {B : Nat → Nat} {N i k : Nat} {x : Int32} {h : mv_H} (t : mK B N i h) : mK B N i (mv_sI h 152 k x) := ⟨t.1.w, by rw [mx_InE (by omega)]; exact t.2.1, t.2.2⟩
theorem mE.w {B : Nat → Nat} {N f i k : Nat} {x : Int32} {h : mv_H} (e : mE B N f i h) : mE B N f i (mv_sI h 152 k x) := ⟨e.1.fr (S := fun a _ => Nat.beq a 152) (mx_fr.sI rfl) rfl (fun _ => rfl) (fun a k q => mv_bne (by omega)), by rw [mx_InE (by omega)]; exact e.2.1, by rw [mx_InE (by omega)]; exact e.2.2.1, e.2.2.2⟩
theorem ct190a {E : mv_E} {D k n : Nat} {h : mv_H} {Q : mv_Q} {B : Nat → Nat} {N i : Nat} {x : Int32} (f : Nat) (hf : f = 2 ∨ f = 3 ∨ f = 4) (e : x = nI f) (t : mK B N i h) (H : ∀ h', mx_fr S190 h h' → mE B N f i h' → Q none h') : mv_VE E D k n 190 0 [some (.ref 148), some (.int x)] [] h Q := by
  subst e
  have k41 := tK_41 B N i
  have fr : ∀ x y, mx_fr S190 h (mv_sI (mv_sI h 148 11 x) 148 12 y) := fun x y => (mx_fr.sI rfl).tr (mx_fr.sI rfl)
  have lt : ∀ x y, lT B N (mv_sI (mv_sI h 148 11 x) 148 12 y) := fun x y => t.1.1.fr (fr x y) rfl (fun _ => rfl) (fun a _ q => by unfold S190; rw [mv_bne (show a ≠ 148 by omega)]; rfl)
  apply sg190_0
  rw [if_pos t.2.1, t.1.2.2.2.1, t.1.2.1]
  refine mx_eq (tK B N i) 25 (fun q => ?_) (fun q => ?_) (by omega) (by omega)
  · exact H _ (fr _ _) ⟨lt _ _, by rw [mx_Isk (by omega), mx_Iss, if_pos q]; rfl, mx_Iss, hf, t.2.2⟩
  · exact H _ (fr _ _) ⟨lt _ _, by rw [mx_Isk (by omega), mx_Iss, if_neg q], mx_Iss, hf, t.2.2⟩
theorem ct192 {E : mv_E} {D k n : Nat} {h : mv_H} {Q : mv_Q} {B : Nat → Nat} {N i : Nat} {x1 x2 : Int32} (lo hb : Nat) (e1 : x1 = nI lo) (e2 : x2 = nI hb - 1) (hlo : lo < 1000) (hhb : hb < 1001) (t : mK B N i h) (H1 : tK B N i = 23 → lo ≤ tN B N i → tN B N i < hb → ∀ h', mx_fr S190 h h' → mK B N (i + 1) h' → Q (some (.int (nI (tN B N i)))) h') (H0 : ∀ f h' r, mx_fr S190 h h' → mE B N f i h' → (∀ k, lnum B N lo hb i k = .inl (f, i)) → Q (some (.int r)) h') : mv_VE E (D + 6) k n 192 0 [some (.ref 148), some (.int x1), some (.int x2), none] [] h Q := by
  apply sg192_0
  rw [pf189T (x := 23) t 23 (by omega) rfl]
  refine mx_cd (fun q => ?_) (fun q => ?_)
  · have q := of_decide_eq_true q
    have tn := tN_lt q
    have v := t.1.2.2.2.2 q
    rw [v, mx_wi x1 x2 rfl rfl]
    have c1 : (nI (tN B N i) < x1) ↔ tN B N i < lo := by rw [e1]; exact nI_ltI (by omega) (by omega)
    have c2 : (x2 < nI (tN B N i)) ↔ hb ≤ tN B N i := by
      rw [e2]
      cases hb with
      | zero => exact ⟨fun _ => Nat.zero_le _, fun _ => (by
          have : nI 0 - 1 = (-1 : Int32) := by decide
          rw [this]
          exact (by decide +kernel : ∀ c, c < 1000 → (-1 : Int32) < nI c) _ tn)⟩
      | succ m => rw [nI_pred, nI_ltI (by omega) (by omega)]; omega
    by_cases r : lo ≤ tN B N i ∧ tN B N i < hb
    · rw [decide_eq_false (fun c => by have := c1.mp c; omega), decide_eq_false (fun c => by have := c2.mp c; omega)]
      show if mv_I h 148 11 = 0 then _ else _
      rw [if_pos t.2.1]
      exact ct183k t (by omega) (fun h' f1 t1 => ⟨rfl, H1 q r.1 r.2 h' (frA f1) t1⟩)
    · have w : (!decide (nI (tN B N i) < x1) && !decide (x2 < nI (tN B N i))) = false := by
        by_cases y : tN B N i < lo
        · rw [decide_eq_true (c1.mpr y)]; rfl
        · rw [decide_eq_true (c2.mpr (by omega))]; exact Bool.and_false _
      rw [w]
      refine ct190a 3 (by omega) rfl t (fun h' f1 m1 => ⟨rfl, ?_⟩)
      rw [if_neg m1.ne]
      exact H0 3 h' _ f1 m1 (fun k => by unfold lnum; rw [if_pos q, if_neg r])
  · have q := of_decide_eq_false q
    refine ct190a 2 (by omega) rfl t (fun h' f1 m1 => ⟨rfl, ?_⟩)
    rw [if_neg m1.ne]
    exact H0 2 h' _ f1 m1 (fun k => by unfold lnum; rw [if_neg q])
theorem ct192e {E : mv_E} {D k n : Nat} {h : mv_H} {Q : mv_Q} {x1 x2 : Int32} (t : mv_I h 148 11 ≠ 0) (H : ∀ r, Q (some (.int r)) h) : mv_VE E (D + 6) k n 192 0 [some (.ref 148), some (.int x1), some (.int x2), none] [] h Q := by
  apply sg192_0
  rw [pf189E t]
  refine ct190e t ⟨rfl, ?_⟩
  rw [if_neg t]
  exact H _
theorem ct191 {E : mv_E} {D k n : Nat} {h : mv_H} {Q : mv_Q} {B : Nat → Nat} {N i : Nat} {x0 x1 x2 : Int32} (c lo hb : Nat) (e0 : x0 = nI c) (hc : c < 23) (e1 : x1 = nI lo) (e2 : x2 = nI hb - 1) (hlo : lo < 1000) (hhb : hb < 1001) (t : mK B N i h) (H1 : tK B N i = c → tK B N (i + 1) = 23 → lo ≤ tN B N (i + 1) → tN B N (i + 1) < hb → ∀ h', mx_fr S190 h h' → mK B N (i + 2) h' → Q (some (.int (nI (tN B N (i + 1))))) h') (H0 : ∀ f i' h' r, mx_fr S190 h h' → mE B N f i' h' → (∀ k, lpass B N c i (fun j => lnum B N lo hb j k) = .inl (f, i')) → Q (some (.int r)) h') : mv_VE E (D + 7) k n 191 0 [some (.ref 148), some (.int x0), some (.int x1), some (.int x2)] [] h Q := by
  apply sg191_0
  refine ct188 c (by omega) (by omega) e0 t (fun y h1 f1 t1 => ⟨_, rfl, ?_⟩) (fun y => ⟨_, rfl, ?_⟩)
  · rw [if_neg (by decide)]
    exact ct192 lo hb e1 e2 hlo hhb t1 (fun q l1 l2 h2 f2 t2 => ⟨_, rfl, H1 y q l1 l2 h2 ((frA f1).tr f2) t2⟩) (fun f h2 r f2 m2 s2 => ⟨_, rfl, H0 f (i + 1) h2 r ((frA f1).tr f2) m2 (fun k => by unfold lpass; rw [if_pos y]; exact s2 k)⟩)
  · rw [if_pos rfl]
    exact ct190a 2 (by omega) rfl t (fun h1 f1 m1 => ⟨rfl, ct192e m1.ne (fun r => ⟨_, rfl, H0 2 i h1 r f1 m1 (fun k => by unfold lpass; rw [if_neg y])⟩)⟩)
theorem ct191e {E : mv_E} {D k n : Nat} {h : mv_H} {Q : mv_Q} {x0 x1 x2 : Int32} (t : mv_I h 148 11 ≠ 0) (H : ∀ r, Q (some (.int r)) h) : mv_VE E (D + 7) k n 191 0 [some (.ref 148), some (.int x0), some (.int x1), some (.int x2)] [] h Q := by
  apply sg191_0
  refine ct188e t ⟨_, rfl, ?_⟩
  rw [if_pos rfl]
  exact ct190e t ⟨rfl, ct192e t (fun r => ⟨_, rfl, H r⟩)⟩
/-- what a reader of lines gives -/
def mPo (B : Nat → Nat) (N i : Nat) (sp : LR) (h : mv_H) (Q : mv_Q) : Prop := (∀ i' F' h', sp = .inr (i', F') → i ≤ i' → mx_fr S181 h h' → mK B N i' h' → mF h' F' → Q none h') ∧ (∀ f i' h', sp = .inl (f, i') → mx_fr S181 h h' → mE B N f i' h' → Q none h')
theorem ct193 {E : mv_E} {D k n : Nat} {h : mv_H} {Q : mv_Q} {B : Nat → Nat} {N i : Nat} {F : Nat → Int32} (t : mK B N i h) (m : mF h F) (H : mPo B N i (lclose B N i F) h Q) : mv_VE E (D + 7) k n 193 0 [some (.ref 148)] [] h Q := by
  apply sg193_0
  refine ct188 30 (by omega) (by omega) rfl t (fun y h1 f1 t1 => ⟨_, rfl, ?_⟩) (fun y => ⟨_, rfl, ?_⟩)
  · rw [if_neg (by decide), (m.a (frA f1)) 0 (by omega)]
    exact H.1 (i + 1) _ _ (by unfold lclose lpass; rw [if_pos y]) (by omega) ((frB (frA f1)).tr frW) t1.w (m.a (frA f1)).w
  · rw [if_pos rfl]
    exact ct190a 2 (by omega) rfl t (fun h1 f1 m1 => ⟨rfl, H.2 2 i _ (by unfold lclose lpass; rw [if_neg y]) ((frB f1).tr frW) m1.w⟩)
theorem ct193e {E : mv_E} {D k n : Nat} {h : mv_H} {Q : mv_Q} (t : mv_I h 148 11 ≠ 0) (H : ∀ x, Q none (mv_sI h 152 0 x)) : mv_VE E (D + 7) k n 193 0 [some (.ref 148)] [] h Q := by
  apply sg193_0
  refine ct188e t ⟨_, rfl, ?_⟩
  rw [if_pos rfl]
  exact ct190e t ⟨rfl, H _⟩
/-- one flag -/
theorem ct196 {E : mv_E} {D k n : Nat} {h : mv_H} {Q : mv_Q} {B : Nat → Nat} {N i p f : Nat} {F : Nat → Int32} (hp : p < 8) (t : mK B N i h) (m : mF h F) (H1 : ∀ i' F' h', lflag B N p (f + 1) i F = lflag B N p f i' F' → i < i' → mx_fr S181 h h' → mK B N i' h' → mF h' F' → Q (some (.int 1)) h') (Hn : lflag B N p (f + 1) i F = .inr (i, F) → Q (some (.int 0)) h) (H0 : ∀ g i' h', lflag B N p (f + 1) i F = .inl (g, i') → mx_fr S181 h h' → mE B N g i' h' → Q (some (.int 0)) h') : mv_VE E (D + 7) k n 196 0 [some (.ref 148), some (.int (nI p)), none] [] h Q := by
  have un := lflag_s (B := B) (N := N) (p := p) (f := f) (i := i) (F := F)
  apply sg196_0
  refine ct188 5 (by omega) (by omega) rfl t (fun y h1 f1 t1 => ⟨_, rfl, ?_⟩) (fun y5 => ⟨_, rfl, ?_⟩)
  · rw [if_neg (by decide), if_pos t1.2.1, (m.a (frA f1)) 65 (by omega)]
    exact H1 (i + 1) _ _ (by rw [un, if_pos y]) (by omega) ((frB (frA f1)).tr frW) t1.w (m.a (frA f1)).w
  · rw [if_pos rfl]
    rw [if_neg y5] at un
    refine ct188 6 (by omega) (by omega) rfl t (fun y h1 f1 t1 => ⟨_, rfl, ?_⟩) (fun y6 => ⟨_, rfl, ?_⟩)
    · rw [if_neg (by decide), show (17 : Int32) = nI 17 from rfl, nI_add, nI_clamp (by omega)]
      rw [if_pos y] at un
      refine ct192 0 10 rfl rfl (by omega) (by omega) t1 (fun q l1 l2 h2 f2 t2 => ⟨_, rfl, mv_gdI (mx_inT (17 + p) (by omega) (by omega)) ?_⟩) (fun g h2 r f2 m2 s2 => ⟨_, rfl, mv_gdI (mx_inT (17 + p) (by omega) (by omega)) ?_⟩)
      · rw [if_pos t2.2.1]
        exact H1 (i + 2) _ _ (by rw [un]; unfold lnum; rw [if_pos q, if_pos ⟨l1, l2⟩]) (by omega) ((frB ((frA f1).tr f2)).tr frW) t2.w ((m.a (frA f1)).a f2).w
      · rw [if_neg m2.ne]
        exact H0 g (i + 1) _ (by rw [un]; exact s2 _) ((frB ((frA f1).tr f2)).tr frW) m2.w
    · rw [if_pos rfl]
      rw [if_neg y6] at un
      refine ct188 7 (by omega) (by omega) rfl t (fun y h1 f1 t1 => ⟨_, rfl, ?_⟩) (fun y7 => ⟨_, rfl, ?_⟩)
      · rw [if_neg (by decide)]
        rw [if_pos y] at un
        have ix : ∀ c : Nat, c < 3 → ((41 : Int32) + 3 * nI p) + nI c = nI (41 + 3 * p + c) := fun c hc => by
          rw [show (41 : Int32) = nI 41 from rfl, show (3 : Int32) = nI 3 from rfl, show nI 3 * nI p = nI (3 * p) from (Int32.ofNat_mul 3 p).symm, nI_add, nI_add]
        have ix0 : ((41 : Int32) + 3 * nI p) + 0 = nI (41 + 3 * p) := ix 0 (by omega)
        have ix1 : ((41 : Int32) + 3 * nI p) + nI (0 + 1) = nI (41 + 3 * p + 1) := ix 1 (by omega)
        have ix2 : ((41 : Int32) + 3 * nI p) + nI (0 + 1 + 1) = nI (41 + 3 * p + 2) := ix 2 (by omega)
        have er : ∀ c h3 g i', c ≤ 3 → mE B N g i' h3 → lflag B N p (f + 1) i F = .inl (g, i') → mx_fr S181 h h3 → mv_VE E (D + 7) k n 196 65 [some (.ref 148), some (.int (nI p)), some (.int (nI c))] [] h3 Q := fun c h3 g i' hc m3 e3 f3 => by
          apply sg196_65
          rw [if_neg m3.ne, if_neg m3.ne]
          refine mx_if (fun _ => H0 g i' h3 e3 f3 m3) (fun _ => H0 g i' h3 e3 f3 m3)
        apply sg196_65
        rw [if_pos (by decide), if_pos t1.2.1]
        refine ct192 0 10 rfl rfl (by omega) (by omega) t1 (fun q l1 l2 h2 f2 t2 => ⟨_, rfl, ?_⟩) (fun g h2 r f2 m2 s2 => ⟨_, rfl, ?_⟩)
        · rw [ix0, nI_clamp (by omega), show (0 : Int32) + 1 = nI (0 + 1) from rfl]
          refine mv_gdI (mx_inT (41 + 3 * p) (by omega) (by omega)) ?_
          have F2 := (frB ((frA f1).tr f2)).tr (frW (k := 41 + 3 * p) (x := nI (tN B N (i + 1))))
          have M2 := ((m.a (frA f1)).a f2).w (k := 41 + 3 * p) (x := nI (tN B N (i + 1)))
          have T2 := t2.w (k := 41 + 3 * p) (x := nI (tN B N (i + 1)))
          apply sg196_65
          rw [if_pos (by decide), if_pos T2.2.1]
          refine ct192 0 10 rfl rfl (by omega) (by omega) T2 (fun q' l1' l2' h3 f3 t3 => ⟨_, rfl, ?_⟩) (fun g h3 r f3 m3 s3 => ⟨_, rfl, ?_⟩)
          · rw [ix1, nI_clamp (by omega), nI_1]
            refine mv_gdI (mx_inT (41 + 3 * p + 1) (by omega) (by omega)) ?_
            have F3 := (F2.tr (frB f3)).tr (frW (k := 41 + 3 * p + 1) (x := nI (tN B N (i + 1 + 1))))
            have M3 := (M2.a f3).w (k := 41 + 3 * p + 1) (x := nI (tN B N (i + 1 + 1)))
            have T3 := t3.w (k := 41 + 3 * p + 1) (x := nI (tN B N (i + 1 + 1)))
            apply sg196_65
            rw [if_pos (by decide), if_pos T3.2.1]
            refine ct192 0 10 rfl rfl (by omega) (by omega) T3 (fun q'' l1'' l2'' h4 f4 t4 => ⟨_, rfl, ?_⟩) (fun g h4 r f4 m4 s4 => ⟨_, rfl, ?_⟩)
            · rw [ix2, nI_clamp (by omega), nI_1]
              refine mv_gdI (mx_inT (41 + 3 * p + 2) (by omega) (by omega)) ?_
              have F4 := (F3.tr (frB f4)).tr (frW (k := 41 + 3 * p + 2) (x := nI (tN B N (i + 1 + 1 + 1))))
              have M4 := (M3.a f4).w (k := 41 + 3 * p + 2) (x := nI (tN B N (i + 1 + 1 + 1)))
              have T4 := t4.w (k := 41 + 3 * p + 2) (x := nI (tN B N (i + 1 + 1 + 1)))
              apply sg196_65
              rw [if_neg (by decide), if_pos T4.2.1]
              refine H1 (i + 1 + 1 + 1 + 1) _ _ ?_ (by omega) F4 T4 M4
              rw [un]
              exact (lnum_t q ⟨l1, l2⟩).trans ((lnum_t q' ⟨l1', l2'⟩).trans (lnum_t q'' ⟨l1'', l2''⟩))
            · rw [ix2, nI_clamp (by omega), nI_1]
              refine mv_gdI (mx_inT (41 + 3 * p + 2) (by omega) (by omega)) (er 3 _ g (i + 1 + 1 + 1) (by omega) m4.w ?_ ((F3.tr (frB f4)).tr frW))
              rw [un]
              exact (lnum_t q ⟨l1, l2⟩).trans ((lnum_t q' ⟨l1', l2'⟩).trans (s4 _))
          · rw [ix1, nI_clamp (by omega), nI_1]
            refine mv_gdI (mx_inT (41 + 3 * p + 1) (by omega) (by omega)) (er 2 _ g (i + 1 + 1) (by omega) m3.w ?_ ((F2.tr (frB f3)).tr frW))
            rw [un]
            exact (lnum_t q ⟨l1, l2⟩).trans (s3 _)
        · rw [ix0, nI_clamp (by omega), show (0 : Int32) + 1 = nI (0 + 1) from rfl]
          refine mv_gdI (mx_inT (41 + 3 * p) (by omega) (by omega)) (er 1 _ g (i + 1) (by omega) m2.w ?_ ((frB ((frA f1).tr f2)).tr frW))
          rw [un]
          exact s2 _
      · rw [if_pos rfl]
        exact Hn (by rw [un, if_neg y7])
