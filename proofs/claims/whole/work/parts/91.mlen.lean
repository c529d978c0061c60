/-! How long a law becomes, and of what; cells that are made. -/
theorem pr_b4 {r : Nat} : ∀ {W R : List Nat}, (∀ j, R.getD j 0 < 4000) → ∀ j, (pr r R W).1.getD j 0 < 4000
  | [], R, h => h
  | w :: W, R, h => by
    unfold pr
    split
    · exact h
    · refine pr_b4 (fun j => ?_)
      rw [getD_app]
      split
      · unfold lcd
        repeat' split
        all_goals omega
      · exact h j
theorem app_b4 {R : List Nat} {c : Nat} (h : ∀ j, R.getD j 0 < 4000) (hc : c < 4000) : ∀ j, (R ++ [c]).getD j 0 < 4000 := fun j => by
  rw [getD_app]
  split
  · exact hc
  · exact h j
def rOk (R : List Nat) : Prop := ∀ j, R.getD j 0 < 4000
theorem mrun_b {B : Nat → Nat} {N l : Nat} : ∀ f pos (R W : List Nat) i i' R', mrun (tK B N) (tN B N) l f pos R W i = (0, i', R') → rOk R → rOk R' ∧ R'.length + i ≤ R.length + W.length + i' := by
  intro f
  induction f with
  | zero => intro pos R W i i' R' e; cases e
  | succ f ih =>
    intro pos R W i i' R' e h
    have jn : ∀ p, mjoin (mrun (tK B N) (tN B N) l f) (tK B N) p R W i = (0, i', R') → rOk R' ∧ R'.length + i ≤ R.length + W.length + i' := fun p e => by
      unfold mjoin at e
      split at e
      · cases e
      · have := ih _ _ _ _ _ _ e (pr_b4 h)
        have pl := pr_len (r := lrk (tK B N i)) (W := W) (R := R)
        have le : (tK B N i :: (pr (lrk (tK B N i)) R W).2).length = (pr (lrk (tK B N i)) R W).2.length + 1 := rfl
        exact ⟨this.1, by omega⟩
    have cl : ∀ p, mclose (mrun (tK B N) (tN B N) l f) p R W i = (0, i', R') → rOk R' ∧ R'.length + i ≤ R.length + W.length + i' := fun p e => by
      unfold mclose at e
      have := ih _ _ _ _ _ _ e (pr_b4 h)
      have pl := pr_len (r := 0) (W := W) (R := R)
      have lt : (pr 0 R W).2.tail.length ≤ (pr 0 R W).2.length := by rw [List.length_tail]; omega
      exact ⟨this.1, by omega⟩
    have e : (if pos = 1 ∨ pos = 2 then mbeg (mrun (tK B N) (tN B N) l f) (tK B N) (tN B N) l pos R W i else mgo (mrun (tK B N) (tN B N) l f) (tK B N) pos R W i) = (0, i', R') := e
    split at e
    · unfold mbeg at e
      split at e
      · rename_i k23
        have := ih _ _ _ _ _ _ e (app_b4 h (by have := tN_lt k23; omega))
        have le : (R ++ [tN B N i]).length = R.length + 1 := List.length_append
        exact ⟨this.1, by omega⟩
      · split at e
        · rename_i w8
          have := ih _ _ _ _ _ _ e (app_b4 h (by omega))
          have le : (R ++ [1000 + lwd l (tK B N i)]).length = R.length + 1 := List.length_append
          exact ⟨this.1, by omega⟩
        · split at e
          · split at e
            · cases e
            · split at e
              · cases e
              · have := ih _ _ _ _ _ _ e h
                have le : (tK B N i :: W).length = W.length + 1 := rfl
                exact ⟨this.1, by omega⟩
          · cases e
    · unfold mgo at e
      split at e
      · split at e
        · exact jn _ e
        · cases e
      · split at e
        · split at e
          · exact jn _ e
          · cases e
        · split at e
          · split at e
            · exact jn _ e
            · cases e
          · split at e
            · split at e
              · exact cl _ e
              · cases e
            · split at e
              · split at e
                · exact cl _ e
                · cases e
              · split at e
                · split at e
                  · cases e
                    have pl := pr_len (r := 0) (W := W) (R := R)
                    exact ⟨pr_b4 h, by omega⟩
                  · cases e
                · cases e
theorem MO_b {B : Nat → Nat} {N l i i' : Nat} {R : List Nat} (e : MO B N l 1 [] [] i = (0, i', R)) : rOk R ∧ R.length + i ≤ i' := by
  have := mrun_b _ _ _ _ _ _ _ e (fun j => by cases j <;> exact (by decide : 0 < 4000))
  exact ⟨this.1, by have h2 := this.2; have : ([] : List Nat).length = 0 := rfl; omega⟩
