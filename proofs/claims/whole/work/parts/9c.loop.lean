/-! The law's loop. -/
theorem law_c {L i : Nat} (hL : L ≤ 3072) (hi : i ≤ 3072) : ((nI L) - 6 < nI i) ↔ L < i + 6 := by
  rcases Nat.lt_or_ge L 6 with q | q
  · have : ∀ l, l < 6 → ((nI l) - 6).toInt < 0 := by decide +kernel
    have t := this L q
    refine ⟨fun _ => by omega, fun _ => ?_⟩
    rw [Int32.lt_iff_toInt_lt, nI_toInt (n := i) (by omega)]
    omega
  · rw [show nI L - (6 : Int32) = nI (L - 6) from pk_sub (b := 6) q, nI_ltI (by omega) (by omega)]
    omega
theorem law_b {E : mv_E} {i : Nat} (hL : mv_sl E ≤ 3072) (hi : i + 6 ≤ mv_sl E) : lawB E (nI i) := by
  have e : ∀ j, nI i + nI j = nI (i + j) := fun j => nI_add _ _
  refine ⟨?_, ?_, ?_, ?_, ?_⟩
  · rw [show nI i + (1 : Int32) = nI (i + 1) from e 1]; exact mx_inT (i + 1) (by omega) (by omega)
  · rw [show nI i + (2 : Int32) = nI (i + 2) from e 2]; exact mx_inT (i + 2) (by omega) (by omega)
  · rw [show nI i + (3 : Int32) = nI (i + 3) from e 3]; exact mx_inT (i + 3) (by omega) (by omega)
  · rw [show nI i + (4 : Int32) = nI (i + 4) from e 4]; exact mx_inT (i + 4) (by omega) (by omega)
  · rw [show nI i + (5 : Int32) = nI (i + 5) from e 5]; exact mx_inT (i + 5) (by omega) (by omega)
theorem law_loop {E : mv_E} {D : Nat} (hL : mv_sl E ≤ 3072) : ∀ f i k n h, mv_sl E ≤ i + 6 * f → i ≤ 3072 → 911 * f ≤ k → 989 * f ≤ n → lawI E h → mv_VE E (D + 100) k n 0 18 [some (.ref 48), some (.ref 50), some (.ref 148), some (.int (nI i))] [] h (fun v _ => v = some (.int 1)) := by
  intro f
  induction f with
  | zero =>
    intro i k n h hf hi hk hn iv
    apply sg0_18
    rw [if_pos ((law_c hL hi).mpr (by omega))]
  | succ f ih =>
    intro i k n h hf hi hk hn iv
    apply sg0_18
    refine mx_if (fun _ => rfl) (fun c => ?_)
    have c2 : i + 6 ≤ mv_sl E := by
      rcases Nat.lt_or_ge (mv_sl E) (i + 6) with q | q
      · exact absurd ((law_c hL hi).mpr q) c
      · exact q
    have b := law_b hL c2
    refine mv_gdI (mx_inT i (by omega) (by omega)) ?_
    have e6 : nI i + (6 : Int32) = nI (i + 6) := nI_add i 6
    have K : ∀ h', lawI E h' → mv_VE E (D + 100) k n 0 18 [some (.ref 48), some (.ref 50), some (.ref 148), some (.int (nI i + 6))] [] h' (fun v _ => v = some (.int 1)) := fun h' iv' => by
      rw [e6]
      exact ih (i + 6) k n h' (by omega) (by omega) (by omega) (by omega) iv'
    have K1 : ∀ h', lawI E h' → mv_VE E (D + 100) (k - 911) (n - 989) 0 18 [some (.ref 48), some (.ref 50), some (.ref 148), some (.int (nI i + 6))] [] h' (fun v _ => v = some (.int 1)) := fun h' iv' => by
      rw [e6]
      exact ih (i + 6) _ _ h' (by omega) (by omega) (by omega) (by omega) iv'
    refine mx_if (fun _ => lc232 iv b K) (fun _ => ?_)
    refine mx_if (fun _ => lc295 iv b (by omega) (by omega) K1) (fun _ => ?_)
    refine mx_if (fun _ => lc318 iv b K) (fun _ => ?_)
    refine mx_if (fun _ => lc341 iv b K) (fun _ => ?_)
    refine mx_if (fun _ => lc374 iv b K) (fun _ => ?_)
    refine mx_if (fun _ => lc397 iv b K) (fun _ => ?_)
    refine mx_if (fun _ => lc420 iv b K) (fun _ => ?_)
    refine mx_if (fun _ => lc443 iv b K) (fun _ => ?_)
    refine mx_if (fun _ => lc466 iv b K) (fun _ => ?_)
    refine mx_if (fun _ => lc489 iv b K) (fun _ => ?_)
    refine mx_if (fun _ => lc512 iv b K) (fun _ => ?_)
    refine mx_if (fun _ => lc545 iv b K) (fun _ => ?_)
    refine mx_if (fun _ => lc568 iv b K) (fun _ => ?_)
    refine mx_if (fun _ => lc591 iv b K) (fun _ => ?_)
    refine mx_if (fun _ => lc624 iv b K) (fun _ => ?_)
    refine mx_if (fun _ => lc647 iv b K) (fun _ => ?_)
    refine mx_if (fun _ => lc680 iv b K) (fun _ => ?_)
    refine mx_if (fun _ => lc713 iv b K) (fun _ => ?_)
    refine mx_if (fun _ => lc736 iv b K) (fun _ => ?_)
    refine mx_if (fun _ => lc749 iv b K) (fun _ => ?_)
    refine mx_if (fun _ => lc762 iv b K) (fun _ => ?_)
    refine mx_if (fun _ => lc795 iv b K) (fun _ => ?_)
    refine mx_if (fun _ => lc818 iv b K) (fun _ => ?_)
    refine mx_if (fun _ => lc861 iv b K) (fun _ => ?_)
    refine mx_if (fun _ => lc884 iv b K) (fun _ => ?_)
    refine mx_if (fun _ => lc897 iv b K) (fun _ => ?_)
    refine mx_if (fun _ => lc930 iv b K) (fun _ => ?_)
    refine mx_if (fun _ => lc943 iv b K) (fun _ => ?_)
    refine mx_if (fun _ => lc966 iv b K) (fun _ => ?_)
    refine mx_if (fun _ => lc989 iv b K) (fun _ => ?_)
    refine mx_if (fun _ => lc1022 iv b K) (fun _ => ?_)
    refine mx_if (fun _ => lc1045 iv b K) (fun _ => ?_)
    refine mx_if (fun _ => lc1068 iv b K) (fun _ => ?_)
    refine mx_if (fun _ => lc1081 iv b K) (fun _ => ?_)
    refine mx_if (fun _ => lc1114 iv b K) (fun _ => ?_)
    refine mx_if (fun _ => lc1137 iv b K) (fun _ => ?_)
    refine mx_if (fun _ => lc1170 iv b K) (fun _ => ?_)
    refine mx_if (fun _ => lc1193 iv b K) (fun _ => ?_)
    refine mx_if (fun _ => lc1216 iv b K) (fun _ => ?_)
    refine mx_if (fun _ => lc1249 iv b K) (fun _ => ?_)
    refine mx_if (fun _ => lc1282 iv b K) (fun _ => ?_)
    refine mx_if (fun _ => lc1325 iv b K) (fun _ => ?_)
    refine mx_if (fun _ => lc1399 iv b K) (fun _ => ?_)
    refine mx_if (fun _ => lc1422 iv b K) (fun _ => ?_)
    refine mx_if (fun _ => lc1445 iv b K) (fun _ => ?_)
    refine mx_if (fun _ => lc1468 iv b K) (fun _ => ?_)
    exact lc1491 iv K
