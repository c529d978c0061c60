/-! What the class's reading needs of the row so far. -/
def loc (F : Nat → Int32) (i : Nat) : Prop := (∃ P, P ≤ 8 ∧ F 1 = nI P) ∧ ∃ b, b ≤ i ∧ F 187 = nI b ∧ ∀ m, m < 2 → lreg F b m
theorem lreg.cg {F F' : Nat → Int32} {b m : Nat} (hm : m < 2) (h : lreg F b m) (e : ∀ k, 3 ≤ k → k ≤ 8 → F' k = F k) : lreg F' b m := by
  unfold lreg sp_F sp_N at h ⊢
  rw [e _ (by omega) (by omega), e (5 + m) (by omega) (by omega), e (7 + m) (by omega) (by omega)]
  exact h
theorem loc.cg {F F' : Nat → Int32} {i i' : Nat} (h : loc F i) (hi : i ≤ i') (h1 : ∃ P, P ≤ 8 ∧ F' 1 = nI P) (e : ∀ k, (3 ≤ k ∧ k ≤ 8) ∨ k = 187 → F' k = F k) : loc F' i' := by
  obtain ⟨-, b, b1, b2, b3⟩ := h
  exact ⟨h1, b, by omega, by rw [e _ (by omega)]; exact b2, fun m hm => (b3 m hm).cg hm (fun k a c => e k (by omega))⟩
theorem lflag_fr {B : Nat → Nat} {N p : Nat} (hp : p < 8) : ∀ {f i i' : Nat} {F F' : Nat → Int32}, lflag B N p f i F = .inr (i', F') → ∀ k, (3 ≤ k ∧ k ≤ 8) ∨ k = 187 → F' k = F k := by
  intro f
  induction f with
  | zero => intro i i' F F' e k _; cases e; rfl
  | succ f ih =>
    intro i i' F F' e k hk
    rw [lflag_s] at e
    split at e
    · rw [ih e k hk, upA_n (by omega)]
    · split at e
      · obtain ⟨-, -, e⟩ := lnum_i e
        rw [ih e k hk, upA_n (by omega)]
      · split at e
        · obtain ⟨-, -, e⟩ := lnum_i e
          obtain ⟨-, -, e⟩ := lnum_i e
          obtain ⟨-, -, e⟩ := lnum_i e
          rw [ih e k hk, upA_n (by omega), upA_n (by omega), upA_n (by omega)]
        · cases e; rfl
theorem loc_hold {B : Nat → Nat} {N i i' : Nat} {F F' : Nat → Int32} (e : lhold B N i F = .inr (i', F')) (h : loc F i) : loc F' i' ∧ i < i' := by
  obtain ⟨P, hP, h1⟩ := h.1
  unfold lhold at e
  rw [h1, nI_clamp (by omega)] at e
  by_cases q : P = 8
  · rw [q, if_pos (by rfl)] at e; cases e
  · rw [if_neg (show ¬ nI P = 8 from fun c => q ((nI_eq (a := P) (b := 8) (by omega) (by omega)).mp c))] at e
    obtain ⟨-, e⟩ := lpass_i e
    obtain ⟨-, c1, e⟩ := lnum_i e
    obtain ⟨-, e⟩ := lpass_i e
    obtain ⟨-, c2, e⟩ := lnum_i e
    obtain ⟨j, F2, e2, e3⟩ := lbind_i e
    cases e3
    obtain ⟨g1, g2⟩ := lflag_1 (show P < 8 by omega) e2
    have fr := lflag_fr (show P < 8 by omega) e2
    refine ⟨h.cg (by omega) ⟨P + 1, by omega, ?_⟩ (fun k hk => ?_), by omega⟩
    · rw [upA_s, g1]
      unfold lhF
      rw [upA_n (by omega), upA_n (by omega), upA_n (by omega), upA_n (by omega), h1, nI_1]
    · rw [upA_n (by omega), fr k hk]
      unfold lhF
      rw [upA_n (by omega), upA_n (by omega), upA_n (by omega), upA_n (by omega)]
theorem loc_pair {B : Nat → Nat} {N b i i' : Nat} {F F' : Nat → Int32} (hb : b = 25 ∨ b = 33) (e : lpair B N b i F = .inr (i', F')) (h : loc F i) : loc F' i' ∧ i < i' := by
  obtain ⟨P, hP, h1⟩ := h.1
  unfold lpair at e
  rw [h1, nI_clamp (by omega)] at e
  obtain ⟨-, c1, e⟩ := lnum_i e
  split at e
  · cases e
  · obtain ⟨-, c2, e⟩ := lnum_i e
    cases e
    refine ⟨h.cg (by omega) ⟨P, hP, ?_⟩ (fun k hk => ?_), by omega⟩
    · unfold lpF; rw [upA_n (by omega), upA_n (by omega)]; exact h1
    · unfold lpF; rw [upA_n (by omega), upA_n (by omega)]
theorem loc_storm {B : Nat → Nat} {N i i' : Nat} {F F' : Nat → Int32} (e : lstorm B N i F = .inr (i', F')) (h : loc F i) : loc F' i' ∧ i < i' := by
  obtain ⟨P, hP, h1⟩ := h.1
  unfold lstorm at e
  obtain ⟨-, c1, e⟩ := lnum_i e
  cases e
  exact ⟨h.cg (by omega) ⟨P, hP, by rw [upA_n (by omega)]; exact h1⟩ (fun k hk => upA_n (by omega)), by omega⟩
theorem loc_close {B : Nat → Nat} {N i i' : Nat} {F F' : Nat → Int32} (e : lclose B N i F = .inr (i', F')) (h : loc F i) : loc F' i' ∧ i < i' := by
  obtain ⟨P, hP, h1⟩ := h.1
  unfold lclose at e
  obtain ⟨-, e⟩ := lpass_i e
  cases e
  exact ⟨h.cg (by omega) ⟨P, hP, by rw [upA_n (by omega)]; exact h1⟩ (fun k hk => upA_n (by omega)), by omega⟩
theorem loc_law {F : Nat → Int32} {l i i' : Nat} {R : List Nat} (hl : l < 2) (hi : i' ≤ 900) (h : loc F i) (hR : R.length + (i + 1 + 1) ≤ i') : loc (lstore l F R) i' := by
  obtain ⟨⟨P, hP, h1⟩, b, b1, b2, b3⟩ := h
  have eb : (F 187).toNatClampNeg = b := by rw [b2, nI_clamp (by omega)]
  have lo : ∀ k, k < 187 → k ≠ 3 + l → k ≠ 5 + l → k ≠ 7 + l → lstore l F R k = F k := fun k a1 a2 a3 a4 => by
    unfold lstore
    rw [if_neg a2, if_neg a3, if_neg a4, if_neg (by omega), eb, if_neg (by omega)]
  refine ⟨⟨P, hP, by rw [lo _ (by omega) (by omega) (by omega) (by omega)]; exact h1⟩, b + R.length, by omega, ?_, fun m hm => ?_⟩
  · unfold lstore; rw [if_neg (by omega), if_neg (by omega), if_neg (by omega), if_pos rfl, eb]
  · by_cases z : m = l
    · subst z
      refine Or.inr ⟨by unfold lstore; rw [if_pos rfl], ?_⟩
      have eF : sp_F (lstore m F R) m = b := by unfold sp_F lstore; rw [if_neg (by omega), if_pos rfl, eb]
      have eN : sp_N (lstore m F R) m = R.length := by unfold sp_N lstore; rw [if_neg (by omega), if_neg (by omega), if_pos rfl, nI_clamp (by omega)]
      rw [eF, eN]; exact Nat.le_refl _
    · rcases b3 m hm with q | ⟨q1, q2⟩
      · exact Or.inl (by rw [lo _ (by omega) (by omega) (by omega) (by omega)]; exact q)
      · refine Or.inr ⟨by rw [lo _ (by omega) (by omega) (by omega) (by omega)]; exact q1, ?_⟩
        unfold sp_F sp_N at q2 ⊢
        rw [lo _ (by omega) (by omega) (by omega) (by omega), lo _ (by omega) (by omega) (by omega) (by omega)]
        omega
theorem loc_head {B : Nat → Nat} {N i : Nat} {F : Nat → Int32} (e : lhead B N lF0 = .inr (i, F)) : loc F i ∧ 3 < i := by
  unfold lhead at e
  obtain ⟨-, e⟩ := lpass_i e
  obtain ⟨-, e⟩ := lpass_i e
  obtain ⟨-, -, e⟩ := lnum_i e
  unfold lclose at e
  obtain ⟨-, e⟩ := lpass_i e
  cases e
  refine ⟨⟨⟨0, by omega, rfl⟩, 0, by omega, rfl, fun m hm => Or.inl ?_⟩, by omega⟩
  rw [upA_n (by omega), upA_n (by omega)]
  exact if_neg (by omega)
