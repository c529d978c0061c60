/-! The law begins: two constructors, then the loop. -/
theorem newK {h : mv_H} {kd len : Nat} : mv_KT mv_T0 (mv_new h kd len) h.1 = (kd, len) := by
  rw [KT0]
  show cond (Nat.beq h.1 h.1) (kd, len) (h.2.1 h.1) = (kd, len)
  rw [mv_beq]; rfl
theorem T0ag {h : mv_H} : mv_ag mv_T0 h := ⟨Nat.zero_le _, fun _ ha => absurd ha (Nat.not_lt_zero _), fun _ _ _ ha => absurd ha (Nat.not_lt_zero _)⟩
theorem co_cons {L : Nat} {xs : Nat → Int32} {kd len : Nat} {G : List cO} : co_h L xs ((0, kd, len, 0, 0) :: G) = mv_new (co_h L xs G) kd len := rfl
set_option maxRecDepth 100000 in
theorem st0_0 {E : mv_E} {D k n : Nat} {h : mv_H} {Q : mv_Q} (H : mv_gd (Nat.ble 1 k && Nat.ble 17 n && Nat.ble 0 h.1) (mv_gd (Nat.beq (mv_KT mv_T0 (mv_new h 10 17) h.1).1 10) (∃ q : Nat × Nat, q.1 ≤ k - 1 ∧ q.2 ≤ n - 17 ∧ mv_V E mv_T0 D q.1 q.2 98 0 [some (.ref h.1), none] [] (mv_new h 10 17) (fun v h2 => v = none ∧ mv_gd (Nat.ble 1 (k - 1 - q.1) && Nat.ble 33 (n - 17 - q.2) && Nat.ble 0 h2.1) (mv_gd (Nat.beq (mv_KT mv_T0 (mv_new h2 11 33) h2.1).1 11) (∃ p : Nat × Nat, p.1 ≤ k - 1 - q.1 - 1 ∧ p.2 ≤ n - 17 - q.2 - 33 ∧ mv_V E mv_T0 D p.1 p.2 178 0 [some (.ref h2.1)] [] (mv_new h2 11 33) (fun v h3 => v = none ∧ mv_V E mv_T0 (D + 1) (k - 1 - q.1 - 1 - p.1) (n - 17 - q.2 - 33 - p.2) 0 18 [some (.ref 48), some (.ref h.1), some (.ref h2.1), some (.int 0)] [] h3 Q))))))) : mv_V E mv_T0 (D + 1) k n 0 0 [some (.ref 48), none, none, none] [] h Q := mv_sT (fun _ => mv_gd (Nat.ble 1 k && Nat.ble 17 n && Nat.ble 0 h.1) (mv_gd (Nat.beq (mv_KT mv_T0 (mv_new h 10 17) h.1).1 10) (∃ q : Nat × Nat, q.1 ≤ k - 1 ∧ q.2 ≤ n - 17 ∧ mv_V E mv_T0 D q.1 q.2 98 0 [some (.ref h.1), none] [] (mv_new h 10 17) (fun v h2 => v = none ∧ mv_gd (Nat.ble 1 (k - 1 - q.1) && Nat.ble 33 (n - 17 - q.2) && Nat.ble 0 h2.1) (mv_gd (Nat.beq (mv_KT mv_T0 (mv_new h2 11 33) h2.1).1 11) (∃ p : Nat × Nat, p.1 ≤ k - 1 - q.1 - 1 ∧ p.2 ≤ n - 17 - q.2 - 33 ∧ mv_V E mv_T0 D p.1 p.2 178 0 [some (.ref h2.1)] [] (mv_new h2 11 33) (fun v h3 => v = none ∧ mv_V E mv_T0 (D + 1) (k - 1 - q.1 - 1 - p.1) (n - 17 - q.2 - 33 - p.2) 0 18 [some (.ref 48), some (.ref h.1), some (.ref h2.1), some (.int 0)] [] h3 Q))))))) 12 (by decide) (fun _ q => q) H
theorem law_pro {E : mv_E} {D k n k1 n1 k2 n2 : Nat} {h h2 h3 : mv_H} {Q : mv_Q} (hk : 1 + k1 + (1 + k2) ≤ k) (hn : 17 + n1 + (33 + n2) ≤ n) (c1 : ∀ Q' : mv_Q, Q' none h2 → mv_V E mv_T0 D k1 n1 98 0 [some (.ref h.1), none] [] (mv_new h 10 17) Q') (c2 : ∀ Q' : mv_Q, Q' none h3 → mv_V E mv_T0 D k2 n2 178 0 [some (.ref h2.1)] [] (mv_new h2 11 33) Q') (K : mv_V E mv_T0 (D + 1) (k - 1 - k1 - 1 - k2) (n - 17 - n1 - 33 - n2) 0 18 [some (.ref 48), some (.ref h.1), some (.ref h2.1), some (.int 0)] [] h3 Q) : mv_V E mv_T0 (D + 1) k n 0 0 [some (.ref 48), none, none, none] [] h Q := by
  apply st0_0
  rw [Nat.ble_eq_true_of_le (show 1 ≤ k by omega), Nat.ble_eq_true_of_le (show 17 ≤ n by omega), Nat.ble_eq_true_of_le (Nat.zero_le h.1), newK]
  refine mv_gdI rfl (mv_gdI rfl ⟨(k1, n1), by show k1 ≤ k - 1; omega, by show n1 ≤ n - 17; omega, c1 _ ⟨rfl, ?_⟩⟩)
  show mv_gd (Nat.ble 1 (k - 1 - k1) && Nat.ble 33 (n - 17 - n1) && Nat.ble 0 h2.1) _
  rw [Nat.ble_eq_true_of_le (show 1 ≤ k - 1 - k1 by omega), Nat.ble_eq_true_of_le (show 33 ≤ n - 17 - n1 by omega), Nat.ble_eq_true_of_le (Nat.zero_le h2.1), newK]
  refine mv_gdI rfl (mv_gdI rfl ⟨(k2, n2), by show k2 ≤ k - 1 - k1 - 1; omega, by show n2 ≤ n - 17 - n1 - 33; omega, c2 _ ⟨rfl, ?_⟩⟩)
  exact K
theorem cd1_n : co_n cd1 = 148 := by decide +kernel
theorem law_main (E : mv_E) (hL : mv_sl E ≤ 3072) : mv_W E 1200 600000 7302250 0 0 [some (.ref 48), none, none, none] [] (mv_h0 (mv_sl E) (mv_sx E)) (fun v _ => v = some (.int 1)) := by
  have e2 : (co_h (mv_sl E) (mv_sx E) cd1).1 = 148 := (co_eq (mv_sl E) (mv_sx E) cd1).1.trans cd1_n
  have V : mv_V E mv_T0 (1199 + 1) 600000 7302250 0 0 [some (.ref 48), none, none, none] [] (mv_h0 (mv_sl E) (mv_sx E)) (fun v _ => v = some (.int 1)) := by
    refine law_pro (k1 := 97) (n1 := 7116) (k2 := 16) (n2 := 7893) (h2 := co_h (mv_sl E) (mv_sx E) cd1) (h3 := co_h (mv_sl E) (mv_sx E) cd2) (by omega) (by omega) (fun Q' q => ?_) (fun Q' q => ?_) ?_
    · exact ce_ok 500 98 0 [some (.ref 50), none] [] [(0, 10, 17, 0, 0)] (cd1, 97, 7116) ce1 1199 97 7116 Q' (by omega) (Nat.le_refl _) (Nat.le_refl _) q
    · rw [e2, ← co_cons]
      exact ce_ok 500 178 0 [some (.ref 148)] [] ((0, 11, 33, 0, 0) :: cd1) (cd2, 16, 7893) ce2 1199 16 7893 Q' (by omega) (Nat.le_refl _) (Nat.le_refl _) q
    · rw [e2]
      have w := law_loop (E := E) (D := 1100) hL 512 0 (600000 - 1 - 97 - 1 - 16) (7302250 - 17 - 7116 - 33 - 7893) _ (by omega) (by omega) (by omega) (by omega) cd_inv
      exact fun _ => (mv_W.alt (fun H r => cd_rep r) (w (cd_ag _ _))).mono (fun v h' q => ⟨T0ag, q.2⟩)
  exact (V T0ag).mono (fun v h' q => q.2)
theorem whole_start {p : Program} {e : Env} {s : State} {m : MethodId} {below : List Frame} {meth : Method} {c : Code} (l : Launch) {b L : Nat} {xs : Nat → Int32} (hL : L ≤ 3072) (C0 : lw_At p s m meth c b L xs) : W p l e room_1 s m #[Value.ref b] below meth c s.heap [] 0 0 (lw_Z below #[Value.ref b] s) (entryFrame m ([Value.ref b] : List Value).toArray 4) := whole_of law_main l hL C0
