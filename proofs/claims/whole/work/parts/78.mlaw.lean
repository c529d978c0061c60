/-! How the model reads a law. -/
def S199 (a k : Nat) : Bool := (Nat.beq a 148 && (Nat.beq k 6 || Nat.beq k 7 || Nat.beq k 9 || Nat.beq k 10 || Nat.beq k 11 || Nat.beq k 12)) || (Nat.beq a 152 && Nat.ble 187 k)
theorem S199_8 : S199 148 8 = false := rfl
theorem S199_15 : S199 148 15 = false := rfl
theorem S199f {a k : Nat} (h : a ≠ 148 ∧ a ≠ 152) : S199 a k = false := by unfold S199; rw [mv_bne h.1, mv_bne h.2]; rfl
theorem S199_152 {k : Nat} (h : k < 187) : S199 152 k = false := by
  unfold S199
  have : Nat.ble 187 k = false := by
    cases z : Nat.ble 187 k with
    | false => rfl
    | true => exact absurd (Nat.le_of_ble_eq_true z) (by omega)
  rw [this]; rfl
theorem S199_183 {a k : Nat} (h : S199 a k = false) : S183 a k = false := by
  unfold S199 at h
  unfold S183
  rw [Bool.or_eq_false_iff] at h
  have h1 := h.1
  cases z : Nat.beq a 148 with
  | false => rfl
  | true =>
    rw [z] at h1
    simp only [Bool.true_and, Bool.or_eq_false_iff] at h1 ⊢
    exact ⟨⟨⟨h1.1.1.1.1.1, h1.1.1.1.1.2⟩, h1.1.1.1.2⟩, h1.1.1.2⟩
theorem S199_w {k x : Int32} {j : Nat} {h : mv_H} (hj : 187 ≤ j) : mx_fr S199 h (mv_sI h 152 j x) := mx_fr.sI (by
  unfold S199
  have : Nat.ble 187 j = true := Nat.ble_eq_true_of_le hj
  rw [this]; rfl)
theorem mT.fr {B : Nat → Nat} {N i : Nat} {h h' : mv_H} {S : Nat → Nat → Bool} (t : mT B N i h) (f : mx_fr S h h') (s1 : S 148 6 = false ∧ S 148 7 = false ∧ S 148 8 = false ∧ S 148 9 = false ∧ S 148 10 = false) (s2 : ∀ k, S 151 k = false) (s3 : ∀ a k, a < 50 → S a k = false) : mT B N i h' := ⟨t.1.fr f s1.2.2.1 s2 s3, by rw [f.2.2.1 _ _ s1.1]; exact t.2.1, by rw [f.2.2.1 _ _ s1.2.1]; exact t.2.2.1, by rw [f.2.2.1 _ _ s1.2.2.2.1]; exact t.2.2.2.1, fun q => by rw [f.2.2.1 _ _ s1.2.2.2.2]; exact t.2.2.2.2 q⟩
theorem mT.w {B : Nat → Nat} {N i j : Nat} {x : Int32} {h : mv_H} (t : mT B N i h) : mT B N i (mv_sI h 152 j x) := t.fr (S := fun a _ => Nat.beq a 152) (mx_fr.sI rfl) ⟨rfl, rfl, rfl, rfl, rfl⟩ (fun _ => rfl) (fun a k q => mv_bne (by omega))
theorem tK_41 (B : Nat → Nat) (N i : Nat) : tK B N i ≤ 41 := (lx_b (tpos_le B N i)).2.2.2.2.2.2
theorem tA_N (B : Nat → Nat) (N i : Nat) : tA B N i ≤ N := (lx_b (tpos_le B N i)).2.1
/-- the model is at a token, and nothing is wrong -/
def mK (B : Nat → Nat) (N i : Nat) (h : mv_H) : Prop := mT B N i h ∧ mv_I h 148 11 = 0 ∧ i ≤ tT B N
/-- what was found wrong, and where -/
def mE (B : Nat → Nat) (N f i : Nat) (h : mv_H) : Prop := lT B N h ∧ mv_I h 148 11 = nI (if tK B N i = 25 then 1 else f) ∧ mv_I h 148 12 = nI (tA B N i) ∧ (f = 2 ∨ f = 3 ∨ f = 4) ∧ i ≤ tT B N
theorem mE.ne {B : Nat → Nat} {N f i : Nat} {h : mv_H} (e : mE B N f i h) : mv_I h 148 11 ≠ 0 := by
  rw [e.2.1]
  have := e.2.2.2.1
  split
  · decide
  · exact nI_ne0 (by omega) (by omega)
theorem pf189T {B : Nat → Nat} {N i : Nat} {h : mv_H} (t : mK B N i h) {x : Int32} (c : Nat) (hc : c < 100) (e : x = nI c) : pf189 h x = decide (tK B N i = c) := by
  subst e
  have := tK_41 B N i
  unfold pf189
  rw [if_pos t.2.1, t.1.2.2.2.1]
  by_cases q : tK B N i = c
  · rw [if_pos (by rw [q]), decide_eq_true q]
  · rw [if_neg (fun c2 => q ((nI_eq (by omega) (by omega)).mp c2)), decide_eq_false q]
theorem pf189E {h : mv_H} (t : mv_I h 148 11 ≠ 0) {x : Int32} : pf189 h x = false := by unfold pf189; rw [if_neg t]
theorem tT_adv {B : Nat → Nat} {N i : Nat} (hi : i ≤ tT B N) (h : tK B N i ≠ 24 ∧ tK B N i ≠ 25) : i + 1 ≤ tT B N := by
  rcases (by omega : i = tT B N ∨ i + 1 ≤ tT B N) with q | q
  · rcases tT_k B N with r | r <;> rw [← q] at r <;> omega
  · exact q
theorem ct188 {E : mv_E} {D k n : Nat} {h : mv_H} {Q : mv_Q} {B : Nat → Nat} {N i : Nat} {x : Int32} (c : Nat) (hc : c < 100) (hc2 : c ≠ 24 ∧ c ≠ 25) (e : x = nI c) (t : mK B N i h) (H1 : tK B N i = c → ∀ h', mx_fr S183 h h' → mK B N (i + 1) h' → Q (some (.int 1)) h') (H0 : tK B N i ≠ c → Q (some (.int 0)) h) : mv_VE E (D + 6) k n 188 0 [some (.ref 148), some (.int x)] [] h Q := by
  apply sg188_0
  rw [pf189T t c hc e]
  refine mx_cd (fun q => ?_) (fun q => H0 (of_decide_eq_false q))
  have q := of_decide_eq_true q
  exact ct183 t.1 (fun h' f1 t1 => ⟨rfl, H1 q h' f1 ⟨t1, by rw [f1.2.2.1 148 11 rfl]; exact t.2.1, tT_adv t.2.2 (by omega)⟩⟩)
theorem ct188e {E : mv_E} {D k n : Nat} {h : mv_H} {Q : mv_Q} {x : Int32} (t : mv_I h 148 11 ≠ 0) (H : Q (some (.int 0)) h) : mv_VE E (D + 6) k n 188 0 [some (.ref 148), some (.int x)] [] h Q := by
  apply sg188_0
  rw [pf189E t]
  exact H
theorem ct190 {E : mv_E} {D k n : Nat} {h : mv_H} {Q : mv_Q} {B : Nat → Nat} {N i : Nat} {x : Int32} (f : Nat) (hf : f = 2 ∨ f = 3 ∨ f = 4) (e : x = nI f) (t : mK B N i h) (H : ∀ h', mx_fr S199 h h' → mE B N f i h' → Q none h') : mv_VE E D k n 190 0 [some (.ref 148), some (.int x)] [] h Q := by
  subst e
  have k41 := tK_41 B N i
  have fr : ∀ x y, mx_fr S199 h (mv_sI (mv_sI h 148 11 x) 148 12 y) := fun x y => (mx_fr.sI rfl).tr (mx_fr.sI rfl)
  have lt : ∀ x y, lT B N (mv_sI (mv_sI h 148 11 x) 148 12 y) := fun x y => t.1.1.fr (fr x y) S199_8 (fun _ => S199f (by omega)) (fun _ _ q => S199f (by omega))
  apply sg190_0
  rw [if_pos t.2.1, t.1.2.2.2.1, t.1.2.1]
  refine mx_eq (tK B N i) 25 (fun q => ?_) (fun q => ?_) (by omega) (by omega)
  · exact H _ (fr _ _) ⟨lt _ _, by rw [mx_Isk (by omega), mx_Iss, if_pos q]; rfl, mx_Iss, hf, t.2.2⟩
  · exact H _ (fr _ _) ⟨lt _ _, by rw [mx_Isk (by omega), mx_Iss, if_neg q], mx_Iss, hf, t.2.2⟩
theorem ct190e {E : mv_E} {D k n : Nat} {h : mv_H} {Q : mv_Q} {x : Int32} (t : mv_I h 148 11 ≠ 0) (H : Q none h) : mv_VE E D k n 190 0 [some (.ref 148), some (.int x)] [] h Q := by
  apply sg190_0
  rw [if_neg t]
  exact H
theorem ct203e {E : mv_E} {D k n : Nat} {h : mv_H} {Q : mv_Q} {x : Int32} (t : mv_I h 148 11 ≠ 0) (H : Q none h) : mv_VE E D k n 203 0 [some (.ref 148), some (.int x)] [] h Q := by
  apply sg203_0
  rw [if_neg t]
  exact H
/-- the codes so far -/
def mS (B : Nat → Nat) (N l b : Nat) (G : Nat → Int32) (R : List Nat) (i : Nat) (h : mv_H) : Prop := mK B N i h ∧ mv_I h 148 15 = nI l ∧ mv_I h 152 187 = nI (b + R.length) ∧ (∀ k, k < 1088 → k ≠ 187 → mv_I h 152 k = if 188 + b ≤ k ∧ k < 188 + b + R.length then nI (R.getD (k - (188 + b)) 0) else G k) ∧ b + R.length ≤ i
theorem mS.n {B : Nat → Nat} {N l b i i' : Nat} {G : Nat → Int32} {R : List Nat} {h h' : mv_H} (s : mS B N l b G R i h) (f : mx_fr S183 h h') (t : mK B N i' h') (hi : i ≤ i') : mS B N l b G R i' h' := ⟨t, by rw [f.2.2.1 148 15 rfl]; exact s.2.1, by rw [f.2.2.1 152 187 rfl]; exact s.2.2.1, fun j hj hj2 => by rw [f.2.2.1 152 _ (S183f (by omega))]; exact s.2.2.2.1 j hj hj2, by have := s.2.2.2.2; omega⟩
theorem getD_app (R : List Nat) (c j : Nat) : (R ++ [c]).getD j 0 = if j = R.length then c else R.getD j 0 := by
  rcases Nat.lt_trichotomy j R.length with q | q | q
  · rw [if_neg (by omega), List.getD_eq_getElem?_getD, List.getD_eq_getElem?_getD, List.getElem?_append_left q]
  · rw [if_pos q, q, List.getD_eq_getElem?_getD, List.getElem?_append_right (Nat.le_refl _), Nat.sub_self]; rfl
  · rw [if_neg (by omega), List.getD_eq_getElem?_getD, List.getD_eq_getElem?_getD, List.getElem?_eq_none (by rw [List.length_append]; show R.length + 1 ≤ j; omega), List.getElem?_eq_none (by omega)]
theorem ct203 {E : mv_E} {D k n : Nat} {h : mv_H} {Q : mv_Q} {B : Nat → Nat} {N l b i : Nat} {G : Nat → Int32} {R : List Nat} {x : Int32} (c : Nat) (e : x = nI c) (hN : N ≤ 900) (s : mS B N l b G R i h) (hb : b + R.length + 1 ≤ i) (H : ∀ h', mx_fr S199 h h' → mS B N l b G (R ++ [c]) i h' → Q none h') : mv_VE E D k n 203 0 [some (.ref 148), some (.int x)] [] h Q := by
  subst e
  have T9 := (tT_lt B N).1
  have iT := s.1.2.2
  apply sg203_0
  rw [if_pos s.1.2.1, s.2.2.1, show (188 : Int32) = nI 188 from rfl, nI_add, nI_clamp (by omega), mx_Isk (show (187 : Nat) ≠ 188 + (b + R.length) by omega), s.2.2.1, nI_1]
  refine mv_gdI (mx_inT (188 + (b + R.length)) (by omega) (by omega)) (H _ ((S199_w (k := 0) (by omega)).tr (S199_w (k := 0) (by omega))) ⟨⟨s.1.1.w.w, ?_, iT⟩, ?_, ?_, fun j hj hj2 => ?_, ?_⟩)
  · rw [mx_InE (by omega), mx_InE (by omega)]; exact s.1.2.1
  · rw [mx_InE (by omega), mx_InE (by omega)]; exact s.2.1
  · rw [mx_Iss, List.length_append]; rfl
  · rw [mx_Isk hj2, List.length_append, show [c].length = 1 from rfl, getD_app]
    by_cases q : j = 188 + (b + R.length)
    · rw [if_pos (by omega), if_pos (by omega), q, mx_Iss]
    · rw [mx_Isk q, s.2.2.2.1 j hj hj2]
      by_cases r : 188 + b ≤ j ∧ j < 188 + b + R.length
      · rw [if_pos r, if_pos (by omega), if_neg (by omega)]
      · rw [if_neg r, if_neg (by omega)]
  · rw [List.length_append]; show b + (R.length + 1) ≤ i; omega
/-- emitted at the token that then goes by -/
theorem ct203n {E : mv_E} {D D2 k n : Nat} {h : mv_H} {Q : mv_Q} {B : Nat → Nat} {N l b i : Nat} {G : Nat → Int32} {R : List Nat} {x : Int32} (c : Nat) (e : x = nI c) (hN : N ≤ 900) (s : mS B N l b G R i h) (hk : tK B N i ≠ 24 ∧ tK B N i ≠ 25) (H : ∀ h', mx_fr S199 h h' → mS B N l b G (R ++ [c]) (i + 1) h' → Q none h') : mv_VE E D k n 203 0 [some (.ref 148), some (.int x)] [] h (fun v h1 => v = none ∧ mv_VE E (D2 + 5) 0 0 183 0 [some (.ref 148), none] [] h1 (fun v h2 => v = none ∧ Q none h2)) := by
  subst e
  have T9 := (tT_lt B N).1
  have iT := s.1.2.2
  have iT2 := tT_adv iT hk
  have bi := s.2.2.2.2
  apply sg203_0
  rw [if_pos s.1.2.1, s.2.2.1, show (188 : Int32) = nI 188 from rfl, nI_add, nI_clamp (by omega), mx_Isk (show (187 : Nat) ≠ 188 + (b + R.length) by omega), s.2.2.1, nI_1]
  refine mv_gdI (mx_inT (188 + (b + R.length)) (by omega) (by omega)) ⟨rfl, ct183 s.1.1.w.w (fun h' f1 t1 => ⟨rfl, H h' (((S199_w (k := 0) (by omega)).tr (S199_w (k := 0) (by omega))).tr (f1.to (fun a k q => S199_183 q))) ⟨⟨t1, ?_, iT2⟩, ?_, ?_, fun j hj hj2 => ?_, ?_⟩⟩)⟩
  · rw [f1.2.2.1 148 11 rfl, mx_InE (by omega), mx_InE (by omega)]; exact s.1.2.1
  · rw [f1.2.2.1 148 15 rfl, mx_InE (by omega), mx_InE (by omega)]; exact s.2.1
  · rw [f1.2.2.1 152 187 rfl, mx_Iss, List.length_append]; rfl
  · rw [f1.2.2.1 152 _ (S183f (by omega)), mx_Isk hj2, List.length_append, show [c].length = 1 from rfl, getD_app]
    by_cases q : j = 188 + (b + R.length)
    · rw [if_pos (by omega), if_pos (by omega), q, mx_Iss]
    · rw [mx_Isk q, s.2.2.2.1 j hj hj2]
      by_cases r : 188 + b ≤ j ∧ j < 188 + b + R.length
      · rw [if_pos r, if_pos (by omega), if_neg (by omega)]
      · rw [if_neg r, if_neg (by omega)]
  · rw [List.length_append]; show b + (R.length + 1) ≤ i + 1; omega
/-- going in -/
theorem ct202 {E : mv_E} {D k n : Nat} {h : mv_H} {Q : mv_Q} {B : Nat → Nat} {N i : Nat} {x : Int32} (d : Nat) (hd : d ≤ 6) (e : x = nI d) (t : mK B N i h) (hk : tK B N i ≠ 24 ∧ tK B N i ≠ 25) (H1 : d < 6 → ∀ h', mx_fr S183 h h' → mK B N (i + 1) h' → Q (some (.int 1)) h') (H0 : d = 6 → ∀ h', mx_fr S199 h h' → mE B N 4 i h' → Q (some (.int 0)) h') : mv_VE E (D + 6) k n 202 0 [some (.ref 148), some (.int x)] [] h Q := by
  subst e
  apply sg202_0
  refine mx_eq d 6 (fun q => ct190 4 (by omega) rfl t (fun h' f1 e1 => ⟨rfl, ?_⟩)) (fun q => ?_) (by omega) (by omega)
  · rw [if_neg e1.ne, if_neg e1.ne]
    exact H0 q h' f1 e1
  · rw [if_pos t.2.1]
    refine ct183 t.1 (fun h' f1 t1 => ⟨rfl, ?_⟩)
    have w : mv_I h' 148 11 = 0 := by rw [f1.2.2.1 148 11 rfl]; exact t.2.1
    rw [if_pos w]
    exact H1 (by omega) h' f1 ⟨t1, w, tT_adv t.2.2 hk⟩
-- a wrong text: nothing more is read
theorem ct206e {E : mv_E} {D k n : Nat} {h : mv_H} {Q : mv_Q} {x : Int32} (t : mv_I h 148 11 ≠ 0) (H : Q none h) : mv_VE E (D + 8) k n 206 0 [some (.ref 148), some (.int x)] [] h Q := by
  apply sg206_0
  rw [pf189E t, pf189E t, if_neg t]
  exact ct190e t ⟨rfl, H⟩
theorem ct205e {E : mv_E} {D k n : Nat} {h : mv_H} {Q : mv_Q} {x : Int32} (t : mv_I h 148 11 ≠ 0) (H : Q none h) : mv_VE E (D + 9) k n 205 0 [some (.ref 148), some (.int x)] [] h Q := by
  apply sg205_0
  refine ct206e t ⟨rfl, ?_⟩
  apply sg205_5
  refine ct188e t ⟨_, rfl, ?_⟩
  rw [if_pos rfl]
  exact H
theorem ct204e {E : mv_E} {D k n : Nat} {h : mv_H} {Q : mv_Q} {x : Int32} (t : mv_I h 148 11 ≠ 0) (H : Q none h) : mv_VE E (D + 10) k n 204 0 [some (.ref 148), some (.int x), none] [] h Q := by
  apply sg204_0
  refine ct205e t ⟨rfl, ?_⟩
  apply sg204_5
  rw [pf189E t, pf189E t]
  exact H
