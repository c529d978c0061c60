/-! The class reads a text. -/
def S39 (a k : Nat) : Bool := S70 a k || S42e a k || S2w a k || (Nat.beq a 52 && Nat.beq k 2)
theorem ct39 {E : mv_E} {D k n : Nat} {h : mv_H} {Q : mv_Q} {B : Nat → Nat} {N : Nat} {x : Int32} (hx : x = nI N) (hN : N ≤ 900) (hB : ∀ j, j < N → B j < 256) (h51 : ∀ j, j < N → mv_I h 51 j = cb (B j)) (g : gS h) (hh : 165 ≤ h.1) (hk : 10 + (tT B N + 1) ≤ k) (hn : 88 + (tT B N + 1) ≤ n) (H1 : ∀ i F h', lraft B N = .inr (i, F) → mx_gz S39 h h' → cX E h' h.1 F → mv_I h' h.1 0 = F 1 → mv_I h' h.1 2 = F 0 → loc F i → i ≤ 900 → Q (some (.ref h.1)) h') (H0 : ∀ f i h', lraft B N = .inl (f, i) → mx_gz S39 h h' → cEr B N f i h' → Q (some (.ref 0)) h') : mv_VE E (D + 9) k n 39 0 [some (.ref 52), some (.ref 51), some (.int x), none, none] [] h Q := by
  apply sg39_0
  refine ct70 hx hN hB h51 g (fun h1 z1 c1 p1 => ⟨rfl, ?_⟩)
  have e1 : h1.1 = h.1 := z1.1
  refine mv_gdI (by rw [Nat.ble_eq_true_of_le (show 1 ≤ k by omega), Nat.ble_eq_true_of_le (show 16 ≤ n by omega), Nat.ble_eq_true_of_le (show (mv_S (mv_sl E)).1 ≤ h1.1 from by rw [e1]; exact hh)]; rfl) ?_
  have kr : mv_K (mv_new h1 3 16) h1.1 = (3, 16) := by
    show cond (Nat.beq h1.1 h1.1) (3, 16) (h1.2.1 h1.1) = (3, 16)
    rw [mv_beq]; rfl
  show mv_gd _ _
  refine mv_gdI (by rw [KE_hi (by omega), kr]; rfl) ⟨(9, 72), by show 9 ≤ k - 1; omega, by show 72 ≤ n - 16; omega, ?_⟩
  have n0 : nx h1 h1.1 [] (mv_sI (mv_new h1 3 16) h1.1 1 1) := by
    refine ⟨rfl, kr, fun t ht => absurd ht (Nat.not_lt_zero _), fun j => ?_, fun a ha => ⟨?_, ?_, ?_, ?_⟩⟩
    · rw [mx_upI]
      by_cases q : j = 1
      · rw [if_pos ⟨rfl, q⟩, if_pos q]
      · rw [if_neg (fun c => q c.2), if_neg q]
        show mv_row h1.2.2.1 h1.1 (fun _ => 0) h1.1 j = 0
        rw [mv_row_self]
    · show cond (Nat.beq a h1.1) (3, 16) (h1.2.1 a) = h1.2.1 a
      rw [mv_bne (by omega)]; rfl
    · funext j
      rw [mx_InE (by omega)]
      show mv_row h1.2.2.1 h1.1 (fun _ => 0) a j = h1.2.2.1 a j
      rw [mv_row_ne (by omega)]
    · show mv_row h1.2.2.2.1 h1.1 (fun _ => 0) a = h1.2.2.2.1 a
      rw [mv_row_ne (by omega)]
    · show mv_row h1.2.2.2.2 h1.1 (fun _ => 0) a = h1.2.2.2.2 a
      rw [mv_row_ne (by omega)]
  refine ct27 (D := D + 7) (by omega) n0 kr (fun g1 n9 => ⟨rfl, ?_⟩)
  obtain ⟨q0, r0, r2⟩ := cX_new (E := E) (by omega) n9
  have cK1 : cK B N 0 h1 := ⟨c1, p1, Nat.zero_le _⟩
  have cK2 : cK B N 0 (mv_sI (mv_sI (mv_sR g1 52 2 h1.1) 52 4 0) 52 5 (-1)) := ((cK1.eq (h' := mv_sR g1 52 2 h1.1) (fun a ha => (n9.2.2.2.2 a (by omega)).2.1)).w52).w52
  have zz : mx_gz S39 h (mv_sI (mv_sI (mv_sR g1 52 2 h1.1) 52 4 0) 52 5 (-1)) := by
    refine ((z1.g).to (fun a k _ q => ?_)).tr ⟨?_, fun a ha => (n9.2.2.2.2 a ha).1, fun a k ha q => ⟨?_, ?_, ?_⟩⟩
    · unfold S39 at q
      rw [Bool.or_eq_false_iff, Bool.or_eq_false_iff, Bool.or_eq_false_iff] at q
      exact q.1.1.1
    · show h1.1 ≤ g1.1; rw [n9.1]; omega
    · have ne : a ≠ 52 ∨ (k ≠ 4 ∧ k ≠ 5) := by
        by_cases y : a = 52
        · subst y
          refine Or.inr ⟨fun y => ?_, fun y => ?_⟩ <;> subst y <;> cases q
        · exact Or.inl y
      rw [mx_upI, if_neg (by omega), mx_upI, if_neg (by omega)]
      show mv_I g1 a k = _
      rw [(n9.2.2.2.2 a ha).2.1]
    · show mv_J g1 a k = _
      rw [(n9.2.2.2.2 a ha).2.2.1]
    · have ne : a ≠ 52 ∨ k ≠ 2 := by
        by_cases y : a = 52
        · subst y
          refine Or.inr (fun y => ?_)
          subst y; cases q
        · exact Or.inl y
      show mv_R (mv_sR g1 52 2 h1.1) a k = _
      rw [mx_upR, if_neg (by omega), (n9.2.2.2.2 a ha).2.2.2]
  have toZ : ∀ h5, mx_gz (SL h1.1) (mv_sI (mv_sI (mv_sR g1 52 2 h1.1) 52 4 0) 52 5 (-1)) h5 → mx_gz S39 h h5 := fun h5 z5 => by
    refine ⟨Nat.le_trans zz.1 z5.1, fun a ha => ?_, fun a k ha q => ?_⟩
    · rw [z5.2.1 a (Nat.lt_of_lt_of_le ha zz.1)]; exact zz.2.1 a ha
    · have qs : SL h1.1 a k = false := by
        unfold S39 at q
        rw [Bool.or_eq_false_iff, Bool.or_eq_false_iff, Bool.or_eq_false_iff] at q
        unfold SL
        have b : Nat.ble h1.1 a = false := by
          cases w : Nat.ble h1.1 a with
          | false => rfl
          | true => exact absurd (Nat.le_of_ble_eq_true w) (by omega)
        rw [q.1.1.2, q.1.2, b]; rfl
      have u := z5.2.2 a k (Nat.lt_of_lt_of_le ha zz.1) qs
      have v := zz.2.2 a k ha q
      exact ⟨u.1.trans v.1, u.2.1.trans v.2.1, u.2.2.trans v.2.2⟩
  have lr := lraft_h (B := B) (N := N)
  refine ct40 (D := D + 4) hN cK2 q0 r0 rfl (fun i F h5 e5 f5 t5 q5 a5 b5 => ⟨_, rfl, ?_⟩) (fun f i h5 e5 f5 m5 => ⟨_, rfl, ?_⟩)
  · have lh := loc_head e5
    have i5 := t5.2.2
    rw [e5] at lr
    refine ct39l (h0 := mv_sI (mv_sI (mv_sR g1 52 2 h1.1) 52 4 0) 52 5 (-1)) (r := h1.1) hN (fun i' F' h' e z t' q' a b lc => ?_) (fun f i' h' e z m => H0 f i' h' e (toZ h' z) m) (tT B N + 1 - i) i 0 F h5 _ _ (Nat.le_refl _) (by omega) (by show tT B N + 1 - i ≤ k - 1 - 9; omega) (by show tT B N + 1 - i ≤ n - 16 - 72; omega) ((fL44 f5).z.g) t5 q5 a5 b5 lh.1 lr
    have i'T := t'.2.2
    have T9 := (tT_lt B N).1
    rw [e1] at q' a b ⊢
    exact H1 i' F' h' e (toZ h' z) q' a b lc (by omega)
  · rw [e5] at lr
    apply sg39_38
    rw [if_pos rfl, if_pos rfl]
    have fin := H0 f i h5 lr (toZ h5 ((fL44 f5).z.g)) m5
    exact mx_if (fun _ => fin) (fun _ => fin)
