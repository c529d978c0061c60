/-! The constructors' run, and that it is right. -/
abbrev cR : Type := List cO × Nat × Nat
def cr_ad2 (x y : Nat) (r : Option cR) : Option cR := match r with
  | some z => some (z.1, z.2.1 + x, z.2.2 + y)
  | none => none
def cei (I : Instr) (nx : Nat) (ls : List (Option Value)) (st : List Value) (G : List cO) (go : Nat → List (Option Value) → List Value → List cO → Option cR) (cl : Nat → List Value → List cO → Option cR) : Option cR :=
  match I with
  | .aload j => match mv_ge ls j with
    | some (.ref x) => go nx ls (.ref x :: st) G
    | _ => none
  | .iload j => match mv_ge ls j with
    | some (.int x) => go nx ls (.int x :: st) G
    | _ => none
  | .istore j => match st with
    | .int x :: r => go nx (mv_s1 ls j (.int x)) r G
    | _ => none
  | .iconst v => go nx ls (.int (mv_i v) :: st) G
  | .iinc j v => match mv_ge ls j with
    | some (.int x) => go nx (mv_s1 ls j (.int (x + mv_i v))) st G
    | _ => none
  | .dup => match st with
    | .ref a :: r => go nx ls (.ref a :: .ref a :: r) G
    | _ => none
  | .monitorexit => match st with
    | .ref a :: r => cond (Nat.ble 50 a && Nat.ble (mv_wd r) 8) (go nx ls r G) none
    | _ => none
  | .goto d => go d.toNat ls st G
  | .if_icmp .ge d => match st with
    | .int y :: .int x :: r => if x < y then go nx ls r G else go d.toNat ls r G
    | _ => none
  | .arraylength => match st with
    | .ref a :: r => cond (Nat.ble 50 a && (Nat.ble 20 (co_K G a).1 && Nat.ble (co_K G a).1 26)) (go nx ls (.int (nI (co_K G a).2) :: r) G) none
    | _ => none
  | .new ci => cr_ad2 1 (mv_nf ci) (go nx ls (.ref (co_n G) :: st) ((0, ci, mv_nf ci, 0, 0) :: G))
  | .newarray a => match st with
    | .int x :: r => cond (mv_in x 10000) (cr_ad2 1 x.toNatClampNeg (go nx ls (.ref (co_n G) :: r) ((0, mv_ak a, x.toNatClampNeg, 0, 0) :: G))) none
    | _ => none
  | .anewarray a => match st with
    | .int x :: r => cond (mv_in x 10000) (cr_ad2 1 x.toNatClampNeg (go nx ls (.ref (co_n G) :: r) ((0, a, x.toNatClampNeg, 0, 0) :: G))) none
    | _ => none
  | .getfield x => match st with
    | .ref a :: r => cond (Nat.ble 50 a && (Nat.beq (co_K G a).1 (x / 256) && Nat.beq (x % 4) 1)) (go nx ls (.ref (co_R G a (x / 4 % 64)) :: r) G) none
    | _ => none
  | .putfield x => match st with
    | .int v :: .ref a :: r => cond (Nat.ble 50 a && (Nat.beq (co_K G a).1 (x / 256) && Nat.beq (x % 4) 0)) (go nx ls r ((1, a, x / 4 % 64, 0, v) :: G)) none
    | .ref b :: .ref a :: r => cond (Nat.ble 50 a && (Nat.beq (co_K G a).1 (x / 256) && Nat.beq (x % 4) 1)) (go nx ls r ((2, a, x / 4 % 64, b, 0) :: G)) none
    | _ => none
  | .aastore => match st with
    | .ref b :: .int i :: .ref a :: r => cond ((Nat.ble 50 a && Nat.ble 50 b) && (Nat.ble 24 (co_K G a).1 && Nat.ble (co_K G a).1 26 && mv_in i (co_K G a).2 && Nat.beq (co_K G b).1 (mv_el (co_K G a).1))) (go nx ls r ((2, a, i.toNatClampNeg, b, 0) :: G)) none
    | _ => none
  | .iastore => match st with
    | .int x :: .int i :: .ref a :: r => cond (Nat.ble 50 a && (Nat.beq (co_K G a).1 20 && mv_in i (co_K G a).2)) (go nx ls r ((1, a, i.toNatClampNeg, 0, x) :: G)) none
    | _ => none
  | .invokespecial x => match x / 4 % 8, st with
    | 1, .ref a :: r => cond (Nat.beq (x % 4) 0 && (Nat.ble 50 a && (Nat.beq (co_K G a).1 (x / 16384) && (Nat.ble (mv_wd r) 8 && Nat.ble 1 (mv_ml (x / 32 % 512)))))) (match cl (x / 32 % 512) [.ref a] G with
      | some z => cr_ad2 z.2.1 z.2.2 (go nx ls r z.1)
      | none => none) none
    | 2, .ref b :: .ref a :: r => cond (Nat.beq (x % 4) 0 && (Nat.ble 50 a && (Nat.beq (co_K G a).1 (x / 16384) && (Nat.ble (mv_wd r) 8 && Nat.ble 2 (mv_ml (x / 32 % 512)))))) (match cl (x / 32 % 512) [.ref a, .ref b] G with
      | some z => cr_ad2 z.2.1 z.2.2 (go nx ls r z.1)
      | none => none) none
    | _, _ => none
  | .invokestatic x => match st with
    | .int v :: .ref a :: r => cond (Nat.beq x 10248 && (Nat.ble 50 a && (Nat.beq (co_K G a).1 20 && (Nat.ble (co_K G a).2 10000 && Nat.ble (mv_wd r) 8)))) (go nx ls r ((3, a, (co_K G a).2, 0, v) :: G)) none
    | .ref a :: r => cond (Nat.beq x 5732 && (Nat.ble 50 a && (Nat.beq (co_K G a).1 20 && (Nat.ble 1088 (co_K G a).2 && (Nat.ble (co_K G a).2 10000 && Nat.ble (mv_wd r) 8))))) (go nx ls r ((1, a, 2, 0, 1) :: (3, a, 1088, 0, 0) :: G)) none
    | _ => none
  | .return_ => match st with
    | [] => some (G, 0, 0)
    | _ => none
  | _ => none
noncomputable def ce : Nat → Nat → Nat → List (Option Value) → List Value → List cO → Option cR
  | 0, _, _, _, _, _ => none
  | f + 1, m, pc, ls, st, G => cond (Nat.ble (pc + 1) (mv_lc m) && Nat.ble (m + 1) 324) (cei (mv_code m pc).1 (pc + (mv_code m pc).2.1) ls st G (fun pc1 ls1 st1 G1 => ce f m pc1 ls1 st1 G1) (fun c av G1 => ce f c 0 (mv_ent (mv_ml c) av) [] G1)) none
theorem cnd_i {b : Bool} {X : Option cR} {r : cR} (h : cond b X none = some r) : b = true ∧ X = some r := by
  cases b with
  | true => exact ⟨rfl, h⟩
  | false => cases h
theorem cr_ad2_i {x y : Nat} {o : Option cR} {r : cR} (h : cr_ad2 x y o = some r) : ∃ z, o = some z ∧ r = (z.1, z.2.1 + x, z.2.2 + y) := by
  cases o with
  | none => cases h
  | some z => cases h; exact ⟨z, rfl, rfl⟩
theorem KG {L : Nat} {xs : Nat → Int32} {G : List cO} {a : Nat} (h : Nat.ble 50 a = true) : mv_KT mv_T0 (co_h L xs G) a = co_K G a := by
  rw [KT0]; exact ((co_eq L xs G).2 a (Nat.le_of_ble_eq_true h)).1
theorem RG {L : Nat} {xs : Nat → Int32} {G : List cO} {a k : Nat} (h : Nat.ble 50 a = true) : mv_RT mv_T0 (co_h L xs G) a k = co_R G a k := by
  rw [RT0]; exact ((co_eq L xs G).2 a (Nat.le_of_ble_eq_true h)).2.1 k
theorem cei_ok {E : mv_E} {L : Nat} {xs : Nat → Int32} {D k n nx : Nat} {Q : mv_Q} {ls : List (Option Value)} {st : List Value} {G : List cO} {go : Nat → List (Option Value) → List Value → List cO → Option cR} {cl : Nat → List Value → List cO → Option cR} {I : Instr} {r : cR} {g' : mv_GT}
    (hgo : ∀ pc1 ls1 st1 G1 z k n, go pc1 ls1 st1 G1 = some z → z.2.1 ≤ k → z.2.2 ≤ n → Q none (co_h L xs z.1) → g' k n pc1 ls1 st1 (co_h L xs G1))
    (hcl : ∀ c av G1 z k n (Q' : mv_Q), cl c av G1 = some z → z.2.1 ≤ k → z.2.2 ≤ n → Q' none (co_h L xs z.1) → mv_V E mv_T0 (D - 1) k n c 0 (mv_ent (mv_ml c) av) [] (co_h L xs G1) Q')
    (hD : 1 ≤ D) (e : cei I nx ls st G go cl = some r) (hk : r.2.1 ≤ k) (hn : r.2.2 ≤ n) (hq : Q none (co_h L xs r.1)) : ¬ I = .nop ∧ ¬ I = .athrow ∧ mv_ins mv_O mv_T0 (mv_V E mv_T0) mv_P0 mv_ml (fun _ => none) D k n I nx ls st (co_h L xs G) Q g' := by
  have hD1 : Nat.ble 1 D = true := Nat.ble_eq_true_of_le hD
  have t0 : Nat.ble mv_T0.1 (co_n G) = true := Nat.ble_eq_true_of_le (Nat.zero_le _)
  have n0 := (co_eq L xs G).1
  unfold cei at e
  split at e
  · split at e
    · rename_i x hx
      refine ⟨fun c => (nomatch c), fun c => (nomatch c), ?_⟩
      simp only [mv_ins, hx]
      exact hgo _ _ _ _ _ _ _ e hk hn hq
    · cases e
  · split at e
    · rename_i x hx
      refine ⟨fun c => (nomatch c), fun c => (nomatch c), ?_⟩
      simp only [mv_ins, hx]
      exact hgo _ _ _ _ _ _ _ e hk hn hq
    · cases e
  · split at e
    · refine ⟨fun c => (nomatch c), fun c => (nomatch c), ?_⟩
      simp only [mv_ins]
      exact hgo _ _ _ _ _ _ _ e hk hn hq
    · cases e
  · refine ⟨fun c => (nomatch c), fun c => (nomatch c), ?_⟩
    simp only [mv_ins]
    exact hgo _ _ _ _ _ _ _ e hk hn hq
  · split at e
    · rename_i x hx
      refine ⟨fun c => (nomatch c), fun c => (nomatch c), ?_⟩
      simp only [mv_ins, hx]
      exact hgo _ _ _ _ _ _ _ e hk hn hq
    · cases e
  · split at e
    · refine ⟨fun c => (nomatch c), fun c => (nomatch c), ?_⟩
      simp only [mv_ins]
      exact mv_gdI rfl (hgo _ _ _ _ _ _ _ e hk hn hq)
    · cases e
  · split at e
    · obtain ⟨c, e⟩ := cnd_i e
      simp only [Bool.and_eq_true] at c
      refine ⟨fun c => (nomatch c), fun c => (nomatch c), ?_⟩
      simp only [mv_ins]
      exact mv_gdI (by rw [hD1, c.1, c.2]; rfl) (hgo _ _ _ _ _ _ _ e hk hn hq)
    · cases e
  · refine ⟨fun c => (nomatch c), fun c => (nomatch c), ?_⟩
    simp only [mv_ins]
    exact hgo _ _ _ _ _ _ _ e hk hn hq
  · split at e
    · rename_i y x r2
      refine ⟨fun c => (nomatch c), fun c => (nomatch c), ?_⟩
      simp only [mv_ins, mv_br]
      by_cases q : x < y
      · rw [if_pos q] at e
        rw [if_pos q]
        exact hgo _ _ _ _ _ _ _ e hk hn hq
      · rw [if_neg q] at e
        rw [if_neg q]
        exact hgo _ _ _ _ _ _ _ e hk hn hq
    · cases e
  · split at e
    · obtain ⟨c, e⟩ := cnd_i e
      simp only [Bool.and_eq_true] at c
      refine ⟨fun c => (nomatch c), fun c => (nomatch c), ?_⟩
      simp only [mv_ins]
      rw [KG c.1, c.2.1, c.2.2]
      exact mv_gdI rfl (hgo _ _ _ _ _ _ _ e hk hn hq)
    · cases e
  · rename_i ci
    obtain ⟨z, ez, er⟩ := cr_ad2_i e
    subst er
    have hk : z.2.1 + 1 ≤ k := hk
    have hn : z.2.2 + mv_nf ci ≤ n := hn
    refine ⟨fun c => (nomatch c), fun c => (nomatch c), ?_⟩
    simp only [mv_ins]
    rw [n0, t0, Nat.ble_eq_true_of_le (show 1 ≤ k by omega), Nat.ble_eq_true_of_le (show mv_nf ci ≤ n by omega)]
    exact mv_gdI rfl (hgo _ _ _ _ _ _ _ ez (by omega) (by omega) hq)
  · split at e
    · rename_i x r2
      obtain ⟨c, e⟩ := cnd_i e
      obtain ⟨z, ez, er⟩ := cr_ad2_i e
      subst er
      have hk : z.2.1 + 1 ≤ k := hk
      have hn : z.2.2 + x.toNatClampNeg ≤ n := hn
      refine ⟨fun c => (nomatch c), fun c => (nomatch c), ?_⟩
      simp only [mv_ins]
      rw [n0, t0, c, Nat.ble_eq_true_of_le (show 1 ≤ k by omega), Nat.ble_eq_true_of_le (show x.toNatClampNeg ≤ n by omega)]
      exact mv_gdI rfl (hgo _ _ _ _ _ _ _ ez (by omega) (by omega) hq)
    · cases e
  · split at e
    · rename_i x r2
      obtain ⟨c, e⟩ := cnd_i e
      obtain ⟨z, ez, er⟩ := cr_ad2_i e
      subst er
      have hk : z.2.1 + 1 ≤ k := hk
      have hn : z.2.2 + x.toNatClampNeg ≤ n := hn
      refine ⟨fun c => (nomatch c), fun c => (nomatch c), ?_⟩
      simp only [mv_ins]
      rw [n0, t0, c, Nat.ble_eq_true_of_le (show 1 ≤ k by omega), Nat.ble_eq_true_of_le (show x.toNatClampNeg ≤ n by omega)]
      exact mv_gdI rfl (hgo _ _ _ _ _ _ _ ez (by omega) (by omega) hq)
    · cases e
  · split at e
    · obtain ⟨c, e⟩ := cnd_i e
      simp only [Bool.and_eq_true] at c
      refine ⟨fun c => (nomatch c), fun c => (nomatch c), ?_⟩
      simp only [mv_ins]
      rw [KG c.1, RG c.1, c.2.1, c.2.2]
      exact mv_gdI rfl (hgo _ _ _ _ _ _ _ e hk hn hq)
    · cases e
  · split at e
    · obtain ⟨c, e⟩ := cnd_i e
      simp only [Bool.and_eq_true] at c
      refine ⟨fun c => (nomatch c), fun c => (nomatch c), ?_⟩
      simp only [mv_ins]
      rw [KG c.1, c.2.1, c.2.2]
      exact mv_gdI rfl (hgo _ _ _ _ _ _ _ e hk hn hq)
    · obtain ⟨c, e⟩ := cnd_i e
      simp only [Bool.and_eq_true] at c
      refine ⟨fun c => (nomatch c), fun c => (nomatch c), ?_⟩
      simp only [mv_ins]
      rw [KG c.1, c.2.1, c.2.2, fx0]
      exact mv_gdI rfl (hgo _ _ _ _ _ _ _ e hk hn hq)
    · cases e
  · split at e
    · obtain ⟨c, e⟩ := cnd_i e
      simp only [Bool.and_eq_true] at c
      obtain ⟨⟨c1, c2⟩, ⟨⟨c3, c4⟩, c5⟩, c6⟩ := c
      refine ⟨fun c => (nomatch c), fun c => (nomatch c), ?_⟩
      simp only [mv_ins]
      rw [KG c1, KG c2, c3, c4, c5, c6, fx0]
      exact mv_gdI rfl (hgo _ _ _ _ _ _ _ e hk hn hq)
    · cases e
  · split at e
    · obtain ⟨c, e⟩ := cnd_i e
      simp only [Bool.and_eq_true] at c
      refine ⟨fun c => (nomatch c), fun c => (nomatch c), ?_⟩
      simp only [mv_ins]
      rw [KG c.1, c.2.1, c.2.2]
      exact mv_gdI rfl (hgo _ _ _ _ _ _ _ e hk hn hq)
    · cases e
  · split at e
    · rename_i x _ _ a r2 hx
      obtain ⟨c, e⟩ := cnd_i e
      simp only [Bool.and_eq_true] at c
      obtain ⟨c1, c2, c3, c4, c5⟩ := c
      split at e
      · rename_i z ez
        obtain ⟨w, ew, er⟩ := cr_ad2_i e
        subst er
        have hk : w.2.1 + z.2.1 ≤ k := hk
        have hn : w.2.2 + z.2.2 ≤ n := hn
        refine ⟨fun c => (nomatch c), fun c => (nomatch c), ?_⟩
        simp only [mv_ins, mv_call]
        rw [hx, Nat.eq_of_beq_eq_true c1]
        show mv_gd (Nat.ble 1 (r2.length + 1) && Nat.ble (mv_wd r2) 8 && Nat.ble 1 (mv_ml (x / 32 % 512)) && (!true || Nat.beq (mv_KT mv_T0 (co_h L xs G) a).1 (x / 16384))) (mv_gd (Nat.ble 1 D) (∃ q : Nat × Nat, q.1 ≤ k ∧ q.2 ≤ n ∧ mv_V E mv_T0 (D - 1) q.1 q.2 (x / 32 % 512) 0 (mv_ent (mv_ml (x / 32 % 512)) [.ref a]) [] (co_h L xs G) (fun v h1 => v = none ∧ g' (k - q.1) (n - q.2) nx ls ([] ++ r2) h1)))
        rw [KG c2, c3, c4, c5, hD1, Nat.ble_eq_true_of_le (show 1 ≤ r2.length + 1 by omega)]
        exact mv_gdI rfl (mv_gdI rfl ⟨(z.2.1, z.2.2), by show z.2.1 ≤ k; omega, by show z.2.2 ≤ n; omega, hcl _ _ _ z _ _ _ ez (Nat.le_refl _) (Nat.le_refl _) ⟨rfl, hgo _ _ _ _ w _ _ ew (by show w.2.1 ≤ k - z.2.1; omega) (by show w.2.2 ≤ n - z.2.2; omega) hq⟩⟩)
      · cases e
    · rename_i x _ _ b a r2 hx
      obtain ⟨c, e⟩ := cnd_i e
      simp only [Bool.and_eq_true] at c
      obtain ⟨c1, c2, c3, c4, c5⟩ := c
      split at e
      · rename_i z ez
        obtain ⟨w, ew, er⟩ := cr_ad2_i e
        subst er
        have hk : w.2.1 + z.2.1 ≤ k := hk
        have hn : w.2.2 + z.2.2 ≤ n := hn
        refine ⟨fun c => (nomatch c), fun c => (nomatch c), ?_⟩
        simp only [mv_ins, mv_call]
        rw [hx, Nat.eq_of_beq_eq_true c1]
        show mv_gd (Nat.ble 2 (r2.length + 2) && Nat.ble (mv_wd r2) 8 && Nat.ble 2 (mv_ml (x / 32 % 512)) && (!true || Nat.beq (mv_KT mv_T0 (co_h L xs G) a).1 (x / 16384))) (mv_gd (Nat.ble 1 D) (∃ q : Nat × Nat, q.1 ≤ k ∧ q.2 ≤ n ∧ mv_V E mv_T0 (D - 1) q.1 q.2 (x / 32 % 512) 0 (mv_ent (mv_ml (x / 32 % 512)) [.ref a, .ref b]) [] (co_h L xs G) (fun v h1 => v = none ∧ g' (k - q.1) (n - q.2) nx ls ([] ++ r2) h1)))
        rw [KG c2, c3, c4, c5, hD1, Nat.ble_eq_true_of_le (show 2 ≤ r2.length + 2 by omega)]
        exact mv_gdI rfl (mv_gdI rfl ⟨(z.2.1, z.2.2), by show z.2.1 ≤ k; omega, by show z.2.2 ≤ n; omega, hcl _ _ _ z _ _ _ ez (Nat.le_refl _) (Nat.le_refl _) ⟨rfl, hgo _ _ _ _ w _ _ ew (by show w.2.1 ≤ k - z.2.1; omega) (by show w.2.2 ≤ n - z.2.2; omega) hq⟩⟩)
      · cases e
    · cases e
  · split at e
    · rename_i x v a r2
      obtain ⟨c, e2⟩ := cnd_i e
      simp only [Bool.and_eq_true] at c
      obtain ⟨c1, c2, c3, c4, c5⟩ := c
      have hx := Nat.eq_of_beq_eq_true c1
      subst hx
      have hK : mv_K (co_h L xs G) a = (20, (co_K G a).2) := by
        have h1 := ((co_eq L xs G).2 a (Nat.le_of_ble_eq_true c2)).1
        rw [h1, ← Nat.eq_of_beq_eq_true c3]
      refine ⟨fun c => (nomatch c), fun c => (nomatch c), ?_⟩
      simp only [mv_ins, mv_call]
      show mv_gd (Nat.ble 2 (r2.length + 2) && Nat.ble (mv_wd r2) 8 && true && true) (mv_gd (Nat.ble 1 D) (∃ q : Nat × Nat, q.1 ≤ k ∧ q.2 ≤ n ∧ mv_V E mv_T0 (D - 1) q.1 q.2 320 0 [some (.ref a), some (.int v), none, none] [] (co_h L xs G) (fun v h1 => v = none ∧ g' (k - q.1) (n - q.2) nx ls ([] ++ r2) h1)))
      rw [c5, hD1, Nat.ble_eq_true_of_le (show 2 ≤ r2.length + 2 by omega)]
      exact mv_gdI rfl (mv_gdI rfl ⟨(0, 0), Nat.zero_le _, Nat.zero_le _, cT320 (co_K G a).2 hK (Nat.le_of_ble_eq_true c4) ⟨rfl, hgo _ _ _ _ r _ _ e2 hk hn hq⟩⟩)
    · rename_i x a r2
      obtain ⟨c, e2⟩ := cnd_i e
      simp only [Bool.and_eq_true] at c
      obtain ⟨c1, c2, c3, c4, c6, c5⟩ := c
      have hx := Nat.eq_of_beq_eq_true c1
      subst hx
      have hK : mv_K (co_h L xs G) a = (20, (co_K G a).2) := by
        have h1 := ((co_eq L xs G).2 a (Nat.le_of_ble_eq_true c2)).1
        rw [h1, ← Nat.eq_of_beq_eq_true c3]
      refine ⟨fun c => (nomatch c), fun c => (nomatch c), ?_⟩
      simp only [mv_ins, mv_call]
      show mv_gd (Nat.ble 1 (r2.length + 1) && Nat.ble (mv_wd r2) 8 && true && true) (mv_gd (Nat.ble 1 D) (∃ q : Nat × Nat, q.1 ≤ k ∧ q.2 ≤ n ∧ mv_V E mv_T0 (D - 1) q.1 q.2 179 0 [some (.ref a), none] [] (co_h L xs G) (fun v h1 => v = none ∧ g' (k - q.1) (n - q.2) nx ls ([] ++ r2) h1)))
      rw [c5, hD1, Nat.ble_eq_true_of_le (show 1 ≤ r2.length + 1 by omega)]
      exact mv_gdI rfl (mv_gdI rfl ⟨(0, 0), Nat.zero_le _, Nat.zero_le _, cT179 (co_K G a).2 hK (Nat.le_of_ble_eq_true c4) (Nat.le_of_ble_eq_true c6) ⟨rfl, hgo _ _ _ _ r _ _ e2 hk hn hq⟩⟩)
    · cases e
  · split at e
    · cases e
      refine ⟨fun c => (nomatch c), fun c => (nomatch c), ?_⟩
      simp only [mv_ins]
      exact hq
    · cases e
  · cases e
theorem ce_ok {E : mv_E} : ∀ f m pc ls st G z, ce f m pc ls st G = some z → ∀ D k n (Q : mv_Q), f ≤ D → z.2.1 ≤ k → z.2.2 ≤ n → Q none (co_h (mv_sl E) (mv_sx E) z.1) → mv_V E mv_T0 D k n m pc ls st (co_h (mv_sl E) (mv_sx E) G) Q := by
  intro f
  induction f with
  | zero => intro m pc ls st G z e; cases e
  | succ f ih =>
    intro m pc ls st G z e D k n Q hf hk hn hq
    unfold ce at e
    obtain ⟨c, e⟩ := cnd_i e
    rw [Bool.and_eq_true] at c
    have hp : pc < mv_lc m := Nat.le_of_ble_eq_true c.1
    have hm : m < 324 := Nat.le_of_ble_eq_true c.2
    obtain ⟨h1, h2, h3⟩ := cei_ok (E := E) (D := D) (Q := Q) (k := k) (n := n) (g' := fun k1 n1 pc1 ls1 st1 h1 => mv_V E mv_T0 D k1 n1 m pc1 ls1 st1 h1 Q) (fun pc1 ls1 st1 G1 w k1 n1 e1 a b c => ih m pc1 ls1 st1 G1 w e1 D k1 n1 Q (by omega) a b c) (fun c av G1 w k1 n1 Q' e1 a b q => ih c 0 _ [] G1 w e1 (D - 1) k1 n1 Q' (by omega) a b q) (by omega) e hk hn hq
    obtain ⟨i, hd, hlk⟩ := mv_dc_at hm hp h1 h2
    exact mv_ins_ok mv_P0ok hm _ i hd hlk (fun _ _ _ _ _ _ q => q) h3
