/-! What holds of a text that is read so far. -/
theorem upA_s {F : Nat → Int32} {k : Nat} {x : Int32} : mx_upA F k x k = x := by unfold mx_upA; rw [if_pos rfl]
theorem upA_n {F : Nat → Int32} {k j : Nat} {x : Int32} (h : j ≠ k) : mx_upA F k x j = F j := by unfold mx_upA; rw [if_neg h]
def lkb (P : Nat) (x : Int32) : Prop := ∃ v, v < 2 ^ P ∧ x = nI v
def lkl (F : Nat → Int32) (b l : Nat) : Prop := F (3 + l) = 0 ∨ (F (3 + l) = 1 ∧ ∃ a R, F (5 + l) = nI a ∧ F (7 + l) = nI (List.length R) ∧ a + R.length ≤ b ∧ (∀ j, j < R.length → F (188 + a + j) = nI (R.getD j 0)) ∧ ckl l R [] = some [true])
/-- all but how many people there are -/
def lokP (P : Nat) (F : Nat → Int32) (i : Nat) : Prop := (∀ q, q < 8 → lkb P (F (25 + q)) ∧ lkb P (F (33 + q)) ∧ sp_dg (F (66 + q)) ∧ sp_dg (F (9 + q)) ∧ sp_dg (F (17 + q))) ∧ lkb P (F 65) ∧ (∀ k, k < 24 → sp_dg (F (41 + k))) ∧ sp_dg (F 74) ∧ F 76 = 0 ∧ ∃ b, b ≤ i ∧ F 187 = nI b ∧ lkl F b 0 ∧ lkl F b 1
def lok (F : Nat → Int32) (i : Nat) : Prop := ∃ P, P ≤ 8 ∧ F 1 = nI P ∧ lokP P F i
theorem lkl.cg {F F' : Nat → Int32} {b l : Nat} (hl : l < 2) (h : lkl F b l) (e : ∀ k, (k = 3 + l ∨ k = 5 + l ∨ k = 7 + l ∨ 188 ≤ k) → F' k = F k) : lkl F' b l := by
  rcases h with h | ⟨h1, a, R, h2, h3, h4, h5, h6⟩
  · exact Or.inl (by rw [e _ (by omega)]; exact h)
  · exact Or.inr ⟨by rw [e _ (by omega)]; exact h1, a, R, by rw [e _ (by omega)]; exact h2, by rw [e _ (by omega)]; exact h3, h4, fun j hj => by rw [e _ (by omega)]; exact h5 j hj, h6⟩
theorem lokP.i {P : Nat} {F : Nat → Int32} {i j : Nat} (h : lokP P F i) (hj : i ≤ j) : lokP P F j := by
  obtain ⟨h1, h2, h3, h4, h5, b, h6, h7⟩ := h
  exact ⟨h1, h2, h3, h4, h5, b, by omega, h7⟩
theorem lkb.up {P Q : Nat} {x : Int32} (h : lkb P x) (hp : P ≤ Q) : lkb Q x := by
  obtain ⟨v, h1, h2⟩ := h
  exact ⟨v, Nat.lt_of_lt_of_le h1 (Nat.pow_le_pow_right (by omega) hp), h2⟩
theorem lokP.up {P Q : Nat} {F : Nat → Int32} {i : Nat} (h : lokP P F i) (hp : P ≤ Q) : lokP Q F i := by
  obtain ⟨h1, h2, h3⟩ := h
  exact ⟨fun q hq => ⟨(h1 q hq).1.up hp, (h1 q hq).2.1.up hp, (h1 q hq).2.2⟩, h2.up hp, h3⟩
/-- a digit, or people, written anew -/
theorem lokP.w {P : Nat} {F : Nat → Int32} {i k : Nat} {x : Int32} (h : lokP P F i) (c : k < 3 ∨ (sp_dg x ∧ ((66 ≤ k ∧ k < 75) ∨ (9 ≤ k ∧ k < 25) ∨ (41 ≤ k ∧ k < 65))) ∨ (lkb P x ∧ (k = 65 ∨ (25 ≤ k ∧ k < 41)))) : lokP P (mx_upA F k x) i := by
  obtain ⟨h1, h2, h3, h4, h5, b, h6, h7, h8, h9⟩ := h
  have gd : ∀ j, ((66 ≤ j ∧ j < 75) ∨ (9 ≤ j ∧ j < 25) ∨ (41 ≤ j ∧ j < 65)) → sp_dg (F j) → sp_dg (mx_upA F k x j) := fun j hj q => by
    by_cases z : j = k
    · rw [z, upA_s]
      rcases c with c | c | c
      · omega
      · exact c.1
      · omega
    · rw [upA_n z]; exact q
  have gb : ∀ j, (j = 65 ∨ (25 ≤ j ∧ j < 41)) → lkb P (F j) → lkb P (mx_upA F k x j) := fun j hj q => by
    by_cases z : j = k
    · rw [z, upA_s]
      rcases c with c | c | c
      · omega
      · omega
      · exact c.1
    · rw [upA_n z]; exact q
  refine ⟨fun q hq => ⟨gb _ (by omega) (h1 q hq).1, gb _ (by omega) (h1 q hq).2.1, gd _ (by omega) (h1 q hq).2.2.1, gd _ (by omega) (h1 q hq).2.2.2.1, gd _ (by omega) (h1 q hq).2.2.2.2⟩, gb _ (by omega) h2, fun j hj => gd _ (by omega) (h3 j hj), gd _ (by omega) h4, ?_, b, h6, ?_, h8.cg (by omega) (fun j hj => upA_n (by omega)), h9.cg (by omega) (fun j hj => upA_n (by omega))⟩
  · rw [upA_n (by omega)]; exact h5
  · rw [upA_n (by omega)]; exact h7
theorem dg_n {v : Nat} (h : v < 10) : sp_dg (nI v) := ⟨v, by omega, rfl⟩
theorem lkb_or {P p : Nat} {x : Int32} (h : lkb P x) (hp : p < P) (hP : P ≤ 8) : lkb P (x ||| (1 <<< (nI p &&& 31))) := by
  obtain ⟨v, h1, h2⟩ := h
  refine ⟨v ||| 2 ^ p, Nat.or_lt_two_pow h1 (Nat.pow_lt_pow_right (by omega) hp), ?_⟩
  rw [h2, mx_1shl (by omega), mx_or]
theorem lkb_an {P p : Nat} {x : Int32} (h : lkb P x) (hp : p < 8) : lkb P (x &&& ((1 <<< (nI p &&& 31)) ^^^ (-1))) := by
  obtain ⟨v, h1, h2⟩ := h
  refine ⟨mx_wo v (2 ^ p), ?_, ?_⟩
  · exact Nat.xor_lt_two_pow h1 (Nat.lt_of_le_of_lt Nat.and_le_left h1)
  · rw [h2, mx_1shl (by omega), mx_andn]
/-- taking lines apart -/
theorem lnum_i {B : Nat → Nat} {N lo hb i : Nat} {k : Nat → Nat → LR} {r : Nat × (Nat → Int32)} (h : lnum B N lo hb i k = .inr r) : tK B N i = 23 ∧ (lo ≤ tN B N i ∧ tN B N i < hb) ∧ k (tN B N i) (i + 1) = .inr r := by
  unfold lnum at h
  by_cases q : tK B N i = 23
  · rw [if_pos q] at h
    by_cases c : lo ≤ tN B N i ∧ tN B N i < hb
    · rw [if_pos c] at h; exact ⟨q, c, h⟩
    · rw [if_neg c] at h; cases h
  · rw [if_neg q] at h; cases h
theorem lpass_i {B : Nat → Nat} {N c i : Nat} {k : Nat → LR} {r : Nat × (Nat → Int32)} (h : lpass B N c i k = .inr r) : tK B N i = c ∧ k (i + 1) = .inr r := by
  unfold lpass at h
  by_cases q : tK B N i = c
  · rw [if_pos q] at h; exact ⟨q, h⟩
  · rw [if_neg q] at h; cases h
theorem lbind_i {x : LR} {k : Nat → (Nat → Int32) → LR} {r : Nat × (Nat → Int32)} (h : lbind x k = .inr r) : ∃ i F, x = .inr (i, F) ∧ k i F = .inr r := by
  cases x with
  | inl e => cases h
  | inr z => exact ⟨z.1, z.2, rfl, h⟩
theorem lok_flag {B : Nat → Nat} {N p P : Nat} (hp : p < 8) : ∀ {f i i' : Nat} {F F' : Nat → Int32}, lflag B N p f i F = .inr (i', F') → lokP P F i → lokP P F' i' ∧ i ≤ i' ∧ F' 1 = F 1 := by
  intro f
  induction f with
  | zero => intro i i' F F' e h; cases e; exact ⟨h, Nat.le_refl _, rfl⟩
  | succ f ih =>
    intro i i' F F' e h
    rw [lflag_s] at e
    split at e
    · have := ih e ((h.w (Or.inr (Or.inr ⟨lkb_an h.2.1 hp, by omega⟩))).i (Nat.le_succ i))
      exact ⟨this.1, by omega, by rw [this.2.2, upA_n (by omega)]⟩
    · split at e
      · obtain ⟨-, c, e⟩ := lnum_i e
        have := ih e ((h.w (Or.inr (Or.inl ⟨dg_n c.2, by omega⟩))).i (show i ≤ i + 1 + 1 by omega))
        exact ⟨this.1, by omega, by rw [this.2.2, upA_n (by omega)]⟩
      · split at e
        · obtain ⟨-, c, e⟩ := lnum_i e
          obtain ⟨-, c2, e⟩ := lnum_i e
          obtain ⟨-, c3, e⟩ := lnum_i e
          have := ih e ((((h.w (Or.inr (Or.inl ⟨dg_n c.2, by omega⟩))).w (Or.inr (Or.inl ⟨dg_n c2.2, by omega⟩))).w (Or.inr (Or.inl ⟨dg_n c3.2, by omega⟩))).i (show i ≤ i + 1 + 1 + 1 + 1 by omega))
          exact ⟨this.1, by omega, by rw [this.2.2, upA_n (by omega), upA_n (by omega), upA_n (by omega)]⟩
        · cases e; exact ⟨h, Nat.le_refl _, rfl⟩
theorem lok_hold {B : Nat → Nat} {N i i' : Nat} {F F' : Nat → Int32} (e : lhold B N i F = .inr (i', F')) (h : lok F i) : lok F' i' ∧ i < i' := by
  obtain ⟨P, hP, h1, h⟩ := h
  unfold lhold at e
  rw [h1, nI_clamp (by omega)] at e
  by_cases q : P = 8
  · rw [q, if_pos (by rfl)] at e; cases e
  · rw [if_neg (show ¬ nI P = 8 from fun c => q ((nI_eq (a := P) (b := 8) (by omega) (by omega)).mp c))] at e
    obtain ⟨-, e⟩ := lpass_i e
    obtain ⟨-, c1, e⟩ := lnum_i e
    obtain ⟨-, e⟩ := lpass_i e
    obtain ⟨-, c2, e⟩ := lnum_i e
    obtain ⟨j, F2, e2, e3⟩ := lbind_i e
    cases e3
    have hu := h.up (show P ≤ P + 1 by omega)
    have s1 := ((hu.w (k := 66 + P) (Or.inr (Or.inl ⟨dg_n c1.2, by omega⟩))).w (k := 9 + P) (Or.inr (Or.inl ⟨dg_n c2.2, by omega⟩))).w (k := 65) (Or.inr (Or.inr ⟨lkb_or hu.2.1 (show P < P + 1 by omega) (by omega), by omega⟩))
    have s2 := (s1.w (k := 17 + P) (x := 1) (Or.inr (Or.inl ⟨⟨1, by omega, rfl⟩, by omega⟩))).i (show i ≤ i + 1 + 1 + 1 + 1 + 1 by omega)
    obtain ⟨r1, r2, r3⟩ := lok_flag (by omega) e2 s2
    refine ⟨⟨P + 1, by omega, ?_, r1.w (by omega)⟩, by omega⟩
    rw [upA_s, r3]
    unfold lhF
    rw [upA_n (by omega), upA_n (by omega), upA_n (by omega), upA_n (by omega), h1, nI_1]
theorem lok_pair {B : Nat → Nat} {N b i i' : Nat} {F F' : Nat → Int32} (hb : b = 25 ∨ b = 33) (e : lpair B N b i F = .inr (i', F')) (h : lok F i) : lok F' i' ∧ i < i' := by
  obtain ⟨P, hP, h1, h⟩ := h
  unfold lpair at e
  rw [h1, nI_clamp (by omega)] at e
  obtain ⟨-, c1, e⟩ := lnum_i e
  split at e
  · cases e
  · obtain ⟨-, c2, e⟩ := lnum_i e
    cases e
    have lk : ∀ j, j < 8 → lkb P (F (b + j)) := fun j hj => by
      rcases hb with r | r <;> rw [r]
      · exact (h.1 j hj).1
      · exact (h.1 j hj).2.1
    have s1 := h.w (k := b + tN B N (i + 1)) (Or.inr (Or.inr ⟨lkb_or (lk (tN B N (i + 1)) (by omega)) c2.2 hP, by omega⟩))
    have lk2 : lkb P ((mx_upA F (b + tN B N (i + 1)) (F (b + tN B N (i + 1)) ||| (1 <<< (nI (tN B N (i + 1 + 1)) &&& 31)))) (b + tN B N (i + 1 + 1))) := by
      rcases hb with r | r
      · subst r; exact (s1.1 _ (by omega)).1
      · subst r; exact (s1.1 _ (by omega)).2.1
    refine ⟨⟨P, hP, ?_, (s1.w (Or.inr (Or.inr ⟨lkb_or lk2 c1.2 hP, by omega⟩))).i (by omega)⟩, by omega⟩
    unfold lpF
    rw [upA_n (by omega), upA_n (by omega)]; exact h1
theorem lok_storm {B : Nat → Nat} {N i i' : Nat} {F F' : Nat → Int32} (e : lstorm B N i F = .inr (i', F')) (h : lok F i) : lok F' i' ∧ i < i' := by
  obtain ⟨P, hP, h1, h⟩ := h
  unfold lstorm at e
  obtain ⟨-, c1, e⟩ := lnum_i e
  cases e
  exact ⟨⟨P, hP, by rw [upA_n (by omega)]; exact h1, (h.w (Or.inr (Or.inl ⟨dg_n c1.2, by omega⟩))).i (by omega)⟩, by omega⟩
theorem lok_close {B : Nat → Nat} {N i i' : Nat} {F F' : Nat → Int32} (e : lclose B N i F = .inr (i', F')) (h : lok F i) : lok F' i' ∧ i < i' := by
  obtain ⟨P, hP, h1, h⟩ := h
  unfold lclose at e
  obtain ⟨-, e⟩ := lpass_i e
  cases e
  exact ⟨⟨P, hP, by rw [upA_n (by omega)]; exact h1, (h.w (by omega)).i (by omega)⟩, by omega⟩
theorem lok_law {F : Nat → Int32} {l i i' : Nat} {R : List Nat} (hl : l < 2) (hi : i' ≤ 900) (h : lok F i) (hR : R.length + (i + 1 + 1) ≤ i') (hc : ckl l R [] = some [true]) : lok (lstore l F R) i' := by
  obtain ⟨P, hP, h1, h⟩ := h
  obtain ⟨h2, h3, h4, h5, h6, b, h7, h8, h9⟩ := h
  have eb : (F 187).toNatClampNeg = b := by rw [h8, nI_clamp (by omega)]
  have lo : ∀ k, k < 187 → k ≠ 3 + l → k ≠ 5 + l → k ≠ 7 + l → lstore l F R k = F k := fun k a1 a2 a3 a4 => by
    unfold lstore
    rw [if_neg a2, if_neg a3, if_neg a4, if_neg (by omega), eb, if_neg (by omega)]
  have old : ∀ k, 188 ≤ k → k < 188 + b → lstore l F R k = F k := fun k a1 a2 => by
    unfold lstore
    rw [if_neg (by omega), if_neg (by omega), if_neg (by omega), if_neg (by omega), eb, if_neg (by omega)]
  have this : lkl (lstore l F R) (b + R.length) l := by
    refine Or.inr ⟨by unfold lstore; rw [if_pos rfl], b, R, ?_, ?_, Nat.le_refl _, fun j hj => ?_, hc⟩
    · unfold lstore; rw [if_neg (by omega), if_pos rfl]; exact h8
    · unfold lstore; rw [if_neg (by omega), if_neg (by omega), if_pos rfl]
    · unfold lstore
      rw [if_neg (by omega), if_neg (by omega), if_neg (by omega), if_neg (by omega), eb, if_pos (by omega), show 188 + b + j - (188 + b) = j by omega]
  have that : ∀ m, m < 2 → m ≠ l → lkl F b m → lkl (lstore l F R) (b + R.length) m := fun m hm ne q => by
    rcases q with q | ⟨q1, a, S, q2, q3, q4, q5, q6⟩
    · exact Or.inl (by rw [lo _ (by omega) (by omega) (by omega) (by omega)]; exact q)
    · exact Or.inr ⟨by rw [lo _ (by omega) (by omega) (by omega) (by omega)]; exact q1, a, S, by rw [lo _ (by omega) (by omega) (by omega) (by omega)]; exact q2, by rw [lo _ (by omega) (by omega) (by omega) (by omega)]; exact q3, by omega, fun j hj => by rw [old _ (by omega) (by omega)]; exact q5 j hj, q6⟩
  refine ⟨P, hP, by rw [lo _ (by omega) (by omega) (by omega) (by omega)]; exact h1, fun q hq => ?_, ?_, fun k hk => ?_, ?_, ?_, b + R.length, by omega, ?_, ?_, ?_⟩
  · rw [lo _ (by omega) (by omega) (by omega) (by omega), lo _ (by omega) (by omega) (by omega) (by omega), lo _ (by omega) (by omega) (by omega) (by omega), lo _ (by omega) (by omega) (by omega) (by omega), lo _ (by omega) (by omega) (by omega) (by omega)]
    exact h2 q hq
  · rw [lo _ (by omega) (by omega) (by omega) (by omega)]; exact h3
  · rw [lo _ (by omega) (by omega) (by omega) (by omega)]; exact h4 k hk
  · rw [lo _ (by omega) (by omega) (by omega) (by omega)]; exact h5
  · rw [lo _ (by omega) (by omega) (by omega) (by omega)]; exact h6
  · unfold lstore; rw [if_neg (by omega), if_neg (by omega), if_neg (by omega), if_pos rfl, eb]
  · rcases (by omega : l = 0 ∨ l = 1) with r | r
    · subst r; exact this
    · exact that 0 (by omega) (by omega) h9.1
  · rcases (by omega : l = 1 ∨ l = 0) with r | r
    · subst r; exact this
    · exact that 1 (by omega) (by omega) h9.2
theorem lok_0 : lok lF0 0 := ⟨0, by omega, rfl, fun q hq => ⟨⟨0, by decide, if_neg (by omega)⟩, ⟨0, by decide, if_neg (by omega)⟩, ⟨0, by omega, if_neg (by omega)⟩, ⟨0, by omega, if_neg (by omega)⟩, ⟨0, by omega, if_neg (by omega)⟩⟩, ⟨0, by decide, rfl⟩, fun k hk => ⟨0, by omega, if_neg (by omega)⟩, ⟨0, by omega, rfl⟩, rfl, 0, Nat.le_refl _, rfl, Or.inl rfl, Or.inl rfl⟩
