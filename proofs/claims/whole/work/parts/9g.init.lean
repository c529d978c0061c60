/-! What stands behind the two constructors. -/
theorem co_low (L : Nat) (xs : Nat → Int32) : ∀ G : List cO, G.all (fun o => Nat.beq o.1 0 || Nat.ble 50 o.2.1) = true → ∀ a, a < 50 → mv_K (co_h L xs G) a = mv_KB L a ∧ mv_I (co_h L xs G) a = mv_IB xs a ∧ mv_R (co_h L xs G) a = mv_RB a
  | [], _, a, _ => ⟨rfl, rfl, rfl⟩
  | (t, x, y, b, v) :: G, h, a, ha => by
    rw [List.all_cons, Bool.and_eq_true] at h
    obtain ⟨h1, h2⟩ := h
    obtain ⟨i1, i2, i3⟩ := co_low L xs G h2 a ha
    have n := (co_eq L xs G).1
    have n50 := co_n50 G
    match t with
    | 0 =>
      have ne : a ≠ (co_h L xs G).1 := by omega
      refine ⟨?_, ?_, ?_⟩
      · show cond (Nat.beq a (co_h L xs G).1) (x, y) (mv_K (co_h L xs G) a) = _
        rw [mv_bne ne]; exact i1
      · show mv_row (mv_I (co_h L xs G)) (co_h L xs G).1 (fun _ => 0) a = _
        rw [mv_row_ne ne]; exact i2
      · show mv_row (mv_R (co_h L xs G)) (co_h L xs G).1 (fun _ => 0) a = _
        rw [mv_row_ne ne]; exact i3
    | 1 =>
      have hx : 50 ≤ x := Nat.le_of_ble_eq_true (show Nat.ble 50 x = true from h1)
      refine ⟨i1, ?_, i3⟩
      show mv_up (mv_I (co_h L xs G)) x y v a = _
      rw [mv_up_ne (show a ≠ x by omega)]; exact i2
    | 2 =>
      have hx : 50 ≤ x := Nat.le_of_ble_eq_true (show Nat.ble 50 x = true from h1)
      refine ⟨i1, i2, ?_⟩
      show mv_up (mv_R (co_h L xs G)) x y b a = _
      rw [mv_up_ne (show a ≠ x by omega)]; exact i3
    | t + 3 =>
      have hx : 50 ≤ x := Nat.le_of_ble_eq_true (show Nat.ble 50 x = true from h1)
      refine ⟨i1, ?_, i3⟩
      show mv_row (mv_I (co_h L xs G)) x (fun j => if j < y then v else mv_I (co_h L xs G) x j) a = _
      rw [mv_row_ne (show a ≠ x by omega)]; exact i2
theorem cd_all : cd2.all (fun o => Nat.beq o.1 0 || Nat.ble 50 o.2.1) = true := by decide +kernel
theorem cd_n : co_n cd2 = 165 := by decide +kernel
theorem cd_k : ∀ a, a < 165 → 50 ≤ a → co_K cd2 a = mv_K0 a := by decide +kernel
theorem cd_kl : ∀ a, a < 50 → a ≠ 48 → mv_KB 0 a = mv_K0 a := by decide +kernel
def cd_rc (x : Option Nat) (y : Nat) : Bool := match x with
  | some r => Nat.beq y r
  | none => true
theorem cd_r : ∀ a, a < 165 → 50 ≤ a → a ≠ 131 → a ≠ 133 → ∀ k, k < 33 → cd_rc (mv_R0 a k) (co_R cd2 a k) = true := by decide +kernel
theorem cd_rl : ∀ a, a < 50 → ∀ k, k < 33 → cd_rc (mv_R0 a k) (mv_RB a k) = true := by decide +kernel
set_option maxRecDepth 100000 in
theorem cd_rn {a k : Nat} (hk : 33 ≤ k) (n1 : a ≠ 131) (n2 : a ≠ 133) : mv_R0 a k = none := by
  have b : ∀ c, c < 33 → Nat.beq k c = false := fun c hc => mv_bne (by omega)
  unfold mv_R0
  simp only [b 0 (by omega), b 1 (by omega), b 2 (by omega), b 3 (by omega), b 4 (by omega), b 5 (by omega), b 6 (by omega), b 7 (by omega), b 8 (by omega), b 9 (by omega), b 10 (by omega), b 11 (by omega), b 12 (by omega), b 13 (by omega), b 14 (by omega), b 15 (by omega), b 16 (by omega), b 17 (by omega), b 18 (by omega), b 19 (by omega), b 20 (by omega), b 21 (by omega), b 22 (by omega), b 23 (by omega), b 24 (by omega), b 25 (by omega), b 26 (by omega), b 27 (by omega), b 28 (by omega), b 29 (by omega), b 30 (by omega), b 31 (by omega), b 32 (by omega), mv_bne n1, mv_bne n2, cond_false, Bool.cond_self]
/-- the same heap: what it tells beyond the ends of two rows is as the table has it -/
def cS (h : mv_H) : mv_H := (h.1, h.2.1, h.2.2.1, h.2.2.2.1, fun a k => if a = 131 then 136 + 2 * k else if a = 133 then 144 + 2 * k else h.2.2.2.2 a k)
theorem cS_R {h : mv_H} {a k : Nat} (n1 : a ≠ 131) (n2 : a ≠ 133) : mv_R (cS h) a k = mv_R h a k := by
  show (if a = 131 then 136 + 2 * k else if a = 133 then 144 + 2 * k else mv_R h a k) = _
  rw [if_neg n1, if_neg n2]
theorem arrV_cg {cI : ClassId} {N : Nat} {f g : Nat → Value} (h : ∀ j, j < N → f j = g j) : arrV cI N f = arrV cI N g := by
  have e : (fun j : Fin N => f j.val) = fun j => g j.val := funext fun j => h j.val j.isLt
  unfold arrV
  rw [e]
theorem mv_cellA {E : mv_E} {h : mv_H} {a kd L : Nat} (hk : mv_K h a = (kd, L)) (h24 : 24 ≤ kd) : mv_cell E h a = .inl (mv_cA E kd, L, .inr (.inr (.inr (.inr (fun i => mv_ad E (mv_R h a i)))))) := by
  unfold mv_cell mv_arr
  rw [hk]
  show (if kd < 20 then _ else Sum.inl (mv_cA E kd, L, (if kd = 22 then _ else if 24 ≤ kd then _ else _))) = _
  rw [if_neg (show ¬ kd < 20 by omega), if_neg (show ¬ kd = 22 by omega), if_pos h24]
theorem mv_at_alt {E : mv_E} {h h' : mv_H} {a kd L : Nat} {H : Heap} (hk : mv_K h a = (kd, L)) (hk' : mv_K h' a = (kd, L)) (h24 : 24 ≤ kd) (hR : ∀ k, k < L → mv_R h' a k = mv_R h a k) (t : mv_at E h a H) : mv_at E h' a H := by
  unfold mv_at at t ⊢
  rw [mv_cellA hk h24] at t
  rw [mv_cellA hk' h24]
  have t : H[mv_sz E + (a - 50)]? = some (arrV (mv_cA E kd) L (fun j => va_rf (mv_ad E (mv_R h a j)))) := t
  show H[mv_sz E + (a - 50)]? = some (arrV (mv_cA E kd) L (fun j => va_rf (mv_ad E (mv_R h' a j))))
  rw [t, arrV_cg (g := fun j => va_rf (mv_ad E (mv_R h' a j))) (fun j hj => by rw [hR j hj])]
theorem cS_rep {E : mv_E} {h : mv_H} {H : Heap} (k1 : mv_K h 131 = (24, 4)) (k2 : mv_K h 133 = (26, 2)) (r1 : ∀ k, k < 4 → mv_R h 131 k = 136 + 2 * k) (r2 : ∀ k, k < 2 → mv_R h 133 k = 144 + 2 * k) (r : mv_Rep E h H) : mv_Rep E (cS h) H := by
  obtain ⟨h1, h2, h3, h4, b0, b4, b5, b6⟩ := r
  refine ⟨h1, h2, fun a ha hl => ⟨?_, (h3 a ha hl).2⟩, h4, b0, fun i hi => ?_, b5, b6⟩
  · have t := (h3 a ha hl).1
    by_cases q1 : a = 131
    · subst q1
      exact mv_at_alt (h' := cS h) k1 k1 (by omega) (fun k hk => (r1 k hk).symm) t
    · by_cases q2 : a = 133
      · subst q2
        exact mv_at_alt (h' := cS h) k2 k2 (by omega) (fun k hk => (r2 k hk).symm) t
      · unfold mv_at at t ⊢
        rw [mv_cell_same (h := h) (h1 := cS h) rfl rfl rfl (funext fun k => cS_R q1 q2)]
        exact t
  · obtain ⟨c1, c2, c3, c4, c5⟩ := b4 i hi
    exact ⟨c1, by rw [cS_R (by omega) (by omega)]; exact c2, c3, c4, c5⟩
theorem mv_W.alt {E : mv_E} {D k n m pc : Nat} {ls : List (Option Value)} {st : List Value} {h h' : mv_H} {Q : mv_Q} (hr : ∀ H, mv_Rep E h H → mv_Rep E h' H) (w : mv_W E D k n m pc ls st h' Q) : mv_W E D k n m pc ls st h Q := by
  intro p l e R s mi args below meth c H locs cells slots Z mc ms Ls X Y d1 d2 c1 c2 c3 c4 F
  exact w p l e R s mi args below meth c H locs cells slots Z mc ms Ls X ⟨Y.1, hr H Y.2.1, Y.2.2⟩ d1 d2 c1 c2 c3 c4 F
theorem ag_of {L : Nat} {h : mv_H} (n : h.1 = 165) (lo : ∀ a, a < 50 → mv_K h a = mv_KB L a ∧ mv_R h a = mv_RB a) (hi : ∀ a, 50 ≤ a → mv_K h a = co_K cd2 a ∧ ∀ k, mv_R h a k = co_R cd2 a k) : mv_ag (mv_S L) (cS h) := by
  refine ⟨by show 165 ≤ h.1; rw [n]; exact Nat.le_refl _, fun a ha => ?_, fun a k r ha hr => ?_⟩
  · have ha : a < 165 := ha
    show mv_K h a = cond (Nat.beq a 48) (33, L) (mv_K0 a)
    rcases Nat.lt_or_ge a 50 with q | q
    · rw [(lo a q).1]
      by_cases w : a = 48
      · subst w; rfl
      · rw [mv_bne w]
        show mv_KB L a = mv_K0 a
        rw [← cd_kl a q w]
        unfold mv_KB
        rw [if_neg w, if_neg w]
    · rw [(hi a q).1, cd_k a ha q, mv_bne (show a ≠ 48 by omega)]; rfl
  · have ha : a < 165 := ha
    have hr : mv_R0 a k = some r := hr
    by_cases q1 : a = 131
    · subst q1
      have e : mv_R0 131 k = some (136 + 2 * k) := rfl
      rw [e] at hr
      cases hr
      rfl
    · by_cases q2 : a = 133
      · subst q2
        have e : mv_R0 133 k = some (144 + 2 * k) := rfl
        rw [e] at hr
        cases hr
        rfl
      · rw [cS_R q1 q2]
        rcases Nat.lt_or_ge k 33 with w | w
        · rcases Nat.lt_or_ge a 50 with q | q
          · have c := cd_rl a q k w
            rw [hr] at c
            rw [(lo a q).2]
            exact Nat.eq_of_beq_eq_true c
          · have c := cd_r a ha q q1 q2 k w
            rw [hr] at c
            rw [(hi a q).2 k]
            exact Nat.eq_of_beq_eq_true c
        · rw [cd_rn w q1 q2] at hr; cases hr
theorem cd_A : ∀ k, k < 200 → co_I cd2 149 k = if k = 2 then 1 else 0 := by decide +kernel
theorem cd_v : co_I cd2 71 0 = 0 ∧ co_I cd2 71 1 = 1 ∧ co_I cd2 71 2 = 0 ∧ co_I cd2 71 13 = 0 ∧ co_I cd2 50 1 = 0 ∧ co_I cd2 148 5 = 0 ∧ co_I cd2 52 4 = co_I cd2 148 13 ∧ co_I cd2 52 5 = co_I cd2 148 14 ∧ co_I cd2 109 1 = 0 ∧ co_I cd2 88 1 = 0 ∧ co_I cd2 90 0 = -1 ∧ co_I cd2 91 0 = -1 ∧ co_I cd2 150 0 = 0 ∧ co_I cd2 150 1 = 0 ∧ (∀ j, j < 3 → co_I cd2 81 j = 0) := by decide +kernel
theorem cd_w : (∀ c, c < 7 → ∀ p, p < 24 → co_I cd2 (72 + c) p = 0) ∧ (∀ p, p < 8 → co_I cd2 82 p = 0) ∧ (∀ t, t < 4 → co_I cd2 162 t = -1 ∧ co_I cd2 (136 + 2 * t) 2 = -1) := by decide +kernel
theorem cd_q : co_R cd2 50 3 = 71 ∧ co_R cd2 50 14 = 134 ∧ co_R cd2 50 15 = 135 ∧ co_R cd2 87 0 = 71 ∧ co_R cd2 132 0 = 0 ∧ co_R cd2 132 1 = 0 ∧ (∀ i, i < 10 → co_R cd2 110 i = 111 + 2 * i) ∧ co_R cd2 71 5 = 72 ∧ co_R cd2 71 6 = 73 ∧ co_R cd2 71 7 = 74 ∧ co_R cd2 71 8 = 75 ∧ co_R cd2 71 9 = 76 ∧ co_R cd2 71 10 = 77 ∧ co_R cd2 71 15 = 80 ∧ co_R cd2 71 11 = 78 ∧ co_R cd2 71 12 = 79 := by decide +kernel
theorem cd_s : co_K cd2 71 = (3, 16) ∧ co_K cd2 72 = (20, 8) ∧ co_K cd2 73 = (20, 8) ∧ co_K cd2 74 = (20, 8) ∧ co_K cd2 75 = (20, 24) ∧ co_K cd2 76 = (20, 8) ∧ co_K cd2 77 = (20, 8) ∧ co_K cd2 80 = (20, 8) ∧ co_K cd2 78 = (20, 0) ∧ co_K cd2 79 = (20, 0) := by decide +kernel
theorem cd_f : ∀ j, j < 9 → ([1, 1, 2, 6, 24, 120, 720, 5040, 40320] : List Int32).getD j 0 = nI (sp_fac j) := by decide +kernel
/-- what holds when the law's loop begins -/
theorem inv_of {E : mv_E} {g : mv_H} (n : g.1 = 165) (ag : mv_ag (mv_S (mv_sl E)) (cS g)) (lo : ∀ a, a < 50 → mv_I g a = mv_IB (mv_sx E) a) (hi : ∀ a, 50 ≤ a → mv_K g a = co_K cd2 a ∧ (∀ k, mv_R g a k = co_R cd2 a k) ∧ ∀ k, mv_I g a k = co_I cd2 a k) : lawI E (cS g) := by
  have eqR : ∀ a, 50 ≤ a → a ≠ 131 → a ≠ 133 → ∀ k, mv_R (cS g) a k = co_R cd2 a k := fun a ha n1 n2 k => (cS_R n1 n2).trans ((hi a ha).2.1 k)
  have eqK : ∀ a, 50 ≤ a → mv_K (cS g) a = co_K cd2 a := fun a ha => (hi a ha).1
  have eqI : ∀ a, 50 ≤ a → ∀ k, mv_I (cS g) a k = co_I cd2 a k := fun a ha => (hi a ha).2.2
  have lowI : ∀ a, a < 50 → mv_I (cS g) a = mv_IB (mv_sx E) a := lo
  have n : (cS g).1 = 165 := n
  generalize cS g = h at ag eqR eqK eqI lowI n
  have I : ∀ a, 50 ≤ a → ∀ k, mv_I h a k = co_I cd2 a k := eqI
  have R : ∀ a, (50 ≤ a ∧ a ≠ 131 ∧ a ≠ 133) → ∀ k, mv_R h a k = co_R cd2 a k := fun a ha k => eqR a ha.1 ha.2.1 ha.2.2 k
  have KE : ∀ a, 50 ≤ a → mv_KE E h a = co_K cd2 a := fun a ha => (ag.K a).trans (eqK a ha)
  have RE : ∀ a, (50 ≤ a ∧ a ≠ 131 ∧ a ≠ 133) → ∀ k, mv_RE E h a k = co_R cd2 a k := fun a ha k => (ag.R a k).trans (R a ha k)
  have A : ∀ k, k < 200 → mv_I h 149 k = if k = 2 then 1 else 0 := fun k hk => (I 149 (by omega) k).trans (cd_A k hk)
  have A0 : ∀ k, k < 200 → k ≠ 2 → mv_I h 149 k = 0 := fun k hk c => by rw [A k hk, if_neg c]
  obtain ⟨v1, v2, v3, v4, v5, v6, v7, v8, v9, v10, v11, v12, v13, v14, v15⟩ := cd_v
  obtain ⟨w1, w2, w3⟩ := cd_w
  obtain ⟨q1, q2, q3, q4, q5, q6, q7, q8, q9, q10, q11, q12, q13, q14, q15, q16⟩ := cd_q
  obtain ⟨s1, s2, s3, s4, s5, s6, s7, s8, s9, s10⟩ := cd_s
  have P0 : sp_P (mv_I h 149) = 0 := by unfold sp_P; rw [A0 1 (by omega) (by omega)]; rfl
  have d0 : sp_d (mv_I h 149) = 0 := by unfold sp_d; rw [A0 76 (by omega) (by omega)]; rfl
  have dg : sp_dg 0 := ⟨0, by omega, rfl⟩
  have ok : sp_ok (mv_I h 149) := by
    refine ⟨by rw [P0]; exact A0 1 (by omega) (by omega), by omega, fun q hq => absurd hq (by omega), Or.inl (A0 3 (by omega) (by omega)), Or.inl (A0 4 (by omega) (by omega))⟩
  have law : ∀ l, l < 2 → cr_law E h 71 (mv_I h 149) l := fun l hl => by
    have e : mv_RE E h 71 (11 + l) = 71 + 7 + l := by
      rw [RE 71 (by omega)]
      rcases (by omega : l = 0 ∨ l = 1) with c | c
      · subst c; exact q15
      · subst c; exact q16
    have k : mv_KE E h (71 + 7 + l) = (20, 0) := by
      rw [KE _ (by omega)]
      rcases (by omega : l = 0 ∨ l = 1) with c | c
      · subst c; exact s9
      · subst c; exact s10
    refine ⟨0, by rw [e]; exact k, Or.inl e, by rw [e, n]; omega, Or.inl ⟨A0 _ (by omega) (by omega), rfl⟩⟩
  have row : ∀ c p d, c < 7 → p < 24 → d < 200 → d ≠ 2 → mv_I h (72 + c) p = mv_I h 149 d := fun c p d h1 h2 h3 h4 => by rw [I _ (by omega), w1 c h1 p h2, A0 d h3 h4]
  have cr : cr_ok E h 71 (mv_I h 149) := by
    refine ⟨⟨Or.inr (Or.inl rfl), (KE 71 (by omega)).trans s1, ⟨(RE 71 (by omega) 5).trans q8, (KE 72 (by omega)).trans s2⟩, ⟨(RE 71 (by omega) 6).trans q9, (KE 73 (by omega)).trans s3⟩, ⟨(RE 71 (by omega) 7).trans q10, (KE 74 (by omega)).trans s4⟩, ⟨(RE 71 (by omega) 8).trans q11, (KE 75 (by omega)).trans s5⟩, ⟨(RE 71 (by omega) 9).trans q12, (KE 76 (by omega)).trans s6⟩, ⟨(RE 71 (by omega) 10).trans q13, (KE 77 (by omega)).trans s7⟩, ⟨(RE 71 (by omega) 15).trans q14, (KE 80 (by omega)).trans s8⟩, ⟨?_, ?_⟩, by rw [n]; omega⟩, ⟨?_, ?_, ?_, fun p hp => row 1 p (9 + p) (by omega) (by omega) (by omega) (by omega), fun p hp => row 2 p (17 + p) (by omega) (by omega) (by omega) (by omega), fun p hp => row 4 p (25 + p) (by omega) (by omega) (by omega) (by omega), fun p hp => row 5 p (33 + p) (by omega) (by omega) (by omega) (by omega), fun p hp => row 3 p (41 + p) (by omega) (by omega) (by omega) (by omega)⟩, law 0 (by omega), law 1 (by omega)⟩
    · rw [KE (71 + 7) (by omega)]; exact congrArg Prod.fst s9
    · rw [KE (71 + 8) (by omega)]; exact congrArg Prod.fst s10
    · rw [I 71 (by omega), v1, A0 1 (by omega) (by omega)]
    · rw [I 71 (by omega), v2, A 2 (by omega), if_pos rfl]
    · rw [I 71 (by omega), v3, A0 0 (by omega) (by omega)]
  have s0 : (0 : Int32).toNatClampNeg = 0 := by decide
  refine ⟨⟨⟨fun i hi => ?_, fun i hi j => ?_⟩, fun j hj => ?_⟩, ⟨⟨⟨ok, ⟨?_, ?_, fun p hp => ?_, ?_⟩, fun p hp => ?_, fun k hk => ?_⟩, ?_, ?_, fun i hi => ?_⟩, ⟨Or.inl ?_, Or.inl ?_⟩, fun t ht => Or.inl ?_, ⟨0, by omega, ?_, fun j hj => absurd hj (Nat.not_lt_zero _)⟩⟩, ?_⟩
  · rw [lowI (1 + i) (by omega)]
    unfold mv_IB
    rw [if_neg (by omega), if_neg (by omega), if_pos (by omega)]
  · rw [lowI (24 + i) (by omega)]
    unfold mv_IB
    rw [if_neg (by omega), if_neg (by omega), if_neg (by omega), if_pos (by omega), show 24 + i - 24 = i by omega]
  · rw [lowI 47 (by omega)]
    unfold mv_IB
    rw [if_neg (by omega), if_pos rfl]
    exact cd_f j hj
  · show mv_I h 149 65 = nI (mv_I h 149 65).toNatClampNeg
    rw [A0 65 (by omega) (by omega), s0]; rfl
  · show (mv_I h 149 65).toNatClampNeg < 2 ^ sp_P (mv_I h 149)
    rw [A0 65 (by omega) (by omega), s0, P0]; decide
  · have hp : p < sp_P (mv_I h 149) := hp
    exact absurd hp (by omega)
  · show sp_dg (mv_I h 149 74)
    rw [A0 74 (by omega) (by omega)]; exact dg
  · have hp : p < sp_P (mv_I h 149) := hp
    exact absurd hp (by omega)
  · show sp_dg (mv_I h 149 (41 + k))
    rw [A0 (41 + k) (by omega) (by omega)]; exact dg
  · show mv_I h 149 76 = nI (sp_d (mv_I h 149))
    rw [A0 76 (by omega) (by omega), d0]; rfl
  · show sp_d (mv_I h 149) ≤ 10
    omega
  · have hi : i < sp_d (mv_I h 149) := hi
    exact absurd hi (by omega)
  · exact (I 150 (by omega) 0).trans v13
  · exact (I 150 (by omega) 1).trans v14
  · exact (I 162 (by omega) t).trans (w3 t ht).1
  · exact (I 148 (by omega) 5).trans v6
  · refine ⟨⟨⟨⟨?_, Or.inl ?_⟩, ⟨?_, ?_, ?_, fun p hp => ?_⟩, ⟨?_, fun i hi => ⟨i, hi, ?_⟩, fun i j hi hj e => ?_, fun i _ hi => ?_⟩⟩, ⟨Or.inl ⟨?_, ?_⟩, Or.inl ⟨?_, ?_⟩⟩, fun t ht => Or.inl ⟨?_, ?_⟩, ⟨?_, fun j hj => ?_⟩, ⟨?_, ?_⟩, Or.inl ⟨?_, ?_⟩⟩, mv_I h 149, ok, ?_, ⟨?_, fun p hp => ?_⟩, fun s hs => ?_⟩
    · rw [R 50 (by omega) 3, q1]; exact cr
    · rw [R 50 (by omega) 3, q1, I 71 (by omega), v4]
    · show mv_I h 81 0 = mv_I h 149 65
      rw [I 81 (by omega), v15 0 (by omega), A0 65 (by omega) (by omega)]
    · show mv_I h 81 1 = mv_I h 149 74
      rw [I 81 (by omega), v15 1 (by omega), A0 74 (by omega) (by omega)]
    · show mv_I h 81 2 = mv_I h 149 75
      rw [I 81 (by omega), v15 2 (by omega), A0 75 (by omega) (by omega)]
    · show mv_I h 82 p = mv_I h 149 (65 + (1 + p))
      rw [I 82 (by omega), w2 p hp, A0 (65 + (1 + p)) (by omega) (by omega)]
    · show mv_I h 109 1 = mv_I h 149 76
      rw [I 109 (by omega), v9, A0 76 (by omega) (by omega)]
    · rw [R 110 (by omega) i]; exact q7 i hi
    · rw [R 110 (by omega) i, R 110 (by omega) j, q7 i hi, q7 j hj] at e
      omega
    · have hi : i < sp_d (mv_I h 149) := hi
      exact absurd hi (by omega)
    · exact (I 150 (by omega) 0).trans v13
    · exact (R 132 (by omega) 0).trans q5
    · exact (I 150 (by omega) 1).trans v14
    · exact (R 132 (by omega) 1).trans q6
    · exact (I 162 (by omega) t).trans (w3 t ht).1
    · exact (I _ (by omega) 2).trans (w3 t ht).2
    · show mv_I h 50 1 = mv_I h 148 5
      rw [I 50 (by omega), I 148 (by omega), v5, v6]
    · have hj : j < (mv_I h 148 5).toNatClampNeg := hj
      rw [I 148 (by omega), v6, s0] at hj
      exact absurd hj (Nat.not_lt_zero _)
    · show mv_I h 52 4 = mv_I h 148 13
      rw [I 52 (by omega), I 148 (by omega), v7]
    · show mv_I h 52 5 = mv_I h 148 14
      rw [I 52 (by omega), I 148 (by omega), v8]
    · exact (R 50 (by omega) 14).trans q2
    · exact (R 50 (by omega) 15).trans q3
    · rw [R 87 (by omega) 0, q4]; exact cr
    · rw [I 88 (by omega), v10, A0 74 (by omega) (by omega)]
    · have hp : p < sp_P (mv_I h 149) := hp
      exact absurd hp (by omega)
    · have hs : s < 2 ^ sp_P (mv_I h 149) := hs
      rw [P0] at hs
      have hs : s = 0 := by omega
      subst hs
      exact ⟨Or.inl ((I 90 (by omega) 0).trans v11), Or.inl ((I 91 (by omega) 0).trans v12)⟩
theorem cd_ag (L : Nat) (xs : Nat → Int32) : mv_ag (mv_S L) (cS (co_h L xs cd2)) := ag_of ((co_eq L xs cd2).1.trans cd_n) (fun a ha => ⟨(co_low L xs cd2 cd_all a ha).1, (co_low L xs cd2 cd_all a ha).2.2⟩) (fun a ha => ⟨((co_eq L xs cd2).2 a ha).1, ((co_eq L xs cd2).2 a ha).2.1⟩)
theorem cd_inv {E : mv_E} : lawI E (cS (co_h (mv_sl E) (mv_sx E) cd2)) := inv_of ((co_eq (mv_sl E) (mv_sx E) cd2).1.trans cd_n) (cd_ag _ _) (fun a ha => (co_low (mv_sl E) (mv_sx E) cd2 cd_all a ha).2.1) (co_eq (mv_sl E) (mv_sx E) cd2).2
theorem cd_t : co_K cd2 131 = (24, 4) ∧ co_K cd2 133 = (26, 2) ∧ (∀ k, k < 4 → co_R cd2 131 k = 136 + 2 * k) ∧ (∀ k, k < 2 → co_R cd2 133 k = 144 + 2 * k) := by decide +kernel
theorem cd_rep {E : mv_E} {H : Heap} (r : mv_Rep E (co_h (mv_sl E) (mv_sx E) cd2) H) : mv_Rep E (cS (co_h (mv_sl E) (mv_sx E) cd2)) H := by
  have eq := (co_eq (mv_sl E) (mv_sx E) cd2).2
  obtain ⟨t1, t2, t3, t4⟩ := cd_t
  exact cS_rep ((eq 131 (by omega)).1.trans t1) ((eq 133 (by omega)).1.trans t2) (fun k hk => ((eq 131 (by omega)).2.1 k).trans (t3 k hk)) (fun k hk => ((eq 133 (by omega)).2.1 k).trans (t4 k hk)) r
