/-! Calls: chance, mean by the model. -/
theorem fM.sJ {V : vw} {h0 h : mv_H} {a k : Nat} {x : Int64} (f : fM V h0 h) (ha : a = 160 ∨ a = 161) : fM V h0 (mv_sJ h a k x) := by
  refine ⟨f.1.tr (mx_fz.sJ (by rcases ha with rfl | rfl <;> rfl)), ?_⟩
  have e : mv_J (mv_sJ h a k x) 164 = mv_J h 164 := funext fun j => by rw [mx_upJ, if_neg (by omega)]
  have e2 : vw_of (mv_sJ h a k x) = ((vw_of h).1, (vw_of h).2.1, (vw_of h).2.2.1, (vw_of h).2.2.2.1, (vw_of h).2.2.2.2.1, (vw_of h).2.2.2.2.2.1, (vw_of h).2.2.2.2.2.2.1, (vw_of h).2.2.2.2.2.2.2.1, mv_J (mv_sJ h a k x) 164) := rfl
  rw [e2, e, ← f.2]
  rfl
def wl (h : mv_H) (a : Nat) (c : Nat → Nat) : Prop := ∀ s, s < 256 → mv_J h a s = lN (c s)
theorem wl.o {h h' : mv_H} {a : Nat} {c : Nat → Nat} (y : wl h a c) (e : mv_J h' a = mv_J h a) : wl h' a c := fun s hs => by rw [e]; exact y s hs
theorem wl.up {h : mv_H} {a k : Nat} {c d : Nat → Nat} {x : Int64} (y : wl h a c) (h1 : x = lN (d k)) (h2 : ∀ s, s ≠ k → d s = c s) : wl (mv_sJ h a k x) a d := fun s hs => by
  rw [mx_upJ]
  by_cases q : s = k
  · rw [if_pos ⟨rfl, q⟩, h1, q]
  · rw [if_neg (fun z => q z.2), y s hs, h2 s q]
theorem wl.ne {h : mv_H} {a b k : Nat} {c : Nat → Nat} {x : Int64} (y : wl h a c) (hb : a ≠ b) : wl (mv_sJ h b k x) a c := y.o (funext fun j => by rw [mx_upJ, if_neg (fun z => hb z.1)])
/-- one set's ways are spread -/
theorem cw293p {E : mv_E} {D k n : Nat} {h0 h : mv_H} {Q : mv_Q} {V : vw} {x1 x2 : Int32} {b c : Nat → Nat} (t : Nat) (f : fM V h0 h) (m : InvM V) (ht : t < 2 ^ sp_P (vA V)) (y : wl h 160 c) (y' : wl h 161 b) (H : ∀ h', fM V h0 h' → wl h' 160 c → wl h' 161 (fun s => b s + c t * sp_ct (sp_P (vA V)) (sp_week (vA V) t) s) → mv_VE E (D + 4) k n 293 53 [some (.ref 148), some (.int x1), some (.int x2), some (.int (nI (t + 1))), none, none, none] [] h' Q) : mv_VE E (D + 4) k n 293 88 [some (.ref 148), some (.int x1), some (.int x2), some (.int (nI t)), some (.int (nI (sp_week (vA V) t))), some (.int 10), some (.int 0)] [] h Q := by
  have p8 := m.p8
  have p2 := m.p2
  have hT : sp_week (vA V) t < 2 ^ sp_P (vA V) := sp_week_lt ht
  have sb := sm_bits (sp_P (vA V)) p8 hT
  generalize sp_week (vA V) t = T at H hT sb ⊢
  have it : (true && mv_in (nI t) 256) = true := mx_inT t (by omega) (by omega)
  have iT : (true && mv_in (nI T) 256) = true := mx_inT T (by omega) (by omega)
  have e10 : (10 : Int32) - nI (sm (fun p => (T.testBit p).toNat) 0) = 10 := by rw [sm_0]; decide
  suffices K : mv_VE E (D + 4) k n 293 88 [some (.ref 148), some (.int x1), some (.int x2), some (.int (nI t)), some (.int (nI T)), some (.int (10 - nI (sm (fun p => (T.testBit p).toNat) 0))), some (.int (nI 0))] [] h Q by
    rw [e10] at K; exact K
  refine mx_loop (P := fun j => ∀ h1, fM V h0 h1 → wl h1 160 c → wl h1 161 (fun s => b s + c t * sp_cp T s j) → mv_VE E (D + 4) k n 293 88 [some (.ref 148), some (.int x1), some (.int x2), some (.int (nI t)), some (.int (nI T)), some (.int (10 - nI (sm (fun p => (T.testBit p).toNat) j))), some (.int (nI j))] [] h1 Q) (sp_P (vA V)) ?_ ?_ h f y (fun s hs => y' s hs)
  · intro h1 f1 y1 y1'
    have bl := sp_bits_le T
    apply sg293_88
    rw [f1.A, m.ok.1, sb, show (10 : Int32) - nI (sp_bits T) = nI (10 - sp_bits T) from pk_sub (a := 10) (by omega), nI_clamp (n := T) (by omega), nI_clamp (n := t) (by omega), y1' T (by omega), y1 t (by omega), nI_l (n := 10 - sp_bits T) (by omega), lN_mul, lN_add, nI_1 t]
    refine mx_ltF (sp_P (vA V)) (sp_P (vA V)) (Nat.le_refl _) (mv_gdI iT (mv_gdI it (mv_gdI iT (H _ (f1.sJ (Or.inr rfl)) (y1.ne (by omega)) (y1'.up ?_ (fun s hs => ?_)))))) (by omega)
    · show lN (b T + c t * sp_cp T T (sp_P (vA V)) + c t * (10 - sp_bits T)) = lN (b T + c t * sp_ct (sp_P (vA V)) T T)
      unfold sp_ct
      rw [if_pos rfl, Nat.mul_add]
      congr 1
      omega
    · show b s + c t * sp_ct (sp_P (vA V)) T s = b s + c t * sp_cp T s (sp_P (vA V))
      unfold sp_ct
      rw [if_neg (fun z => hs z.symm), Nat.zero_add]
  · intro j hj ih h1 f1 y1 y1'
    have es : ∀ s, sp_cp T s (j + 1) = sp_cp T s j + if T.testBit j = true ∧ mx_wo T (2 ^ j) = s then 1 else 0 := fun s => rfl
    have es1 : ∀ s, T.testBit j = true → mx_wo T (2 ^ j) = s → sp_cp T s (j + 1) = sp_cp T s j + 1 := fun s h1 h2 => by rw [es, if_pos ⟨h1, h2⟩]
    have es0 : ∀ s, ¬ (T.testBit j = true ∧ mx_wo T (2 ^ j) = s) → sp_cp T s (j + 1) = sp_cp T s j := fun s h1 => by rw [es, if_neg h1, Nat.add_zero]
    have eb : sm (fun p => (T.testBit p).toNat) (j + 1) = sm (fun p => (T.testBit p).toNat) j + (T.testBit j).toNat := rfl
    rw [eb] at ih
    apply sg293_88
    rw [f1.A, m.ok.1, nI_1, mx_1shl (by omega), mx_andn]
    refine mx_ltT j (sp_P (vA V)) hj ?_ (by omega)
    refine mx_cdb (T.testBit j) (mx_isIn (by omega) (by omega)) (fun q => ?_) (fun q => ?_)
    · have X8 : mx_wo T (2 ^ j) < 256 := mx_wo_lt (n := 8) (by omega)
      have iX : (true && mv_in (nI (mx_wo T (2 ^ j))) 256) = true := mx_inT _ X8 (by omega)
      rw [q] at ih
      rw [nI_clamp (n := mx_wo T (2 ^ j)) (by omega), nI_clamp (n := t) (by omega), y1' _ X8, y1 t (by omega), lN_add]
      have e10 : (10 : Int32) - nI (sm (fun p => (T.testBit p).toNat) j) + (-1) = 10 - nI (sm (fun p => (T.testBit p).toNat) j + true.toNat) := by
        rw [show nI (sm (fun p => (T.testBit p).toNat) j + true.toNat) = nI (sm (fun p => (T.testBit p).toNat) j) + 1 from (nI_1 _).symm]
        simp only [Int32.sub_eq_add_neg, Int32.neg_add, Int32.add_assoc]
      rw [e10]
      refine mv_gdI iX (mv_gdI it (mv_gdI iX (ih _ (f1.sJ (Or.inr rfl)) (y1.ne (by omega)) (y1'.up ?_ (fun s hs => ?_)))))
      · show lN (b (mx_wo T (2 ^ j)) + c t * sp_cp T (mx_wo T (2 ^ j)) j + c t) = lN (b (mx_wo T (2 ^ j)) + c t * sp_cp T (mx_wo T (2 ^ j)) (j + 1))
        rw [es1 _ q rfl, Nat.mul_add, Nat.mul_one, Nat.add_assoc]
      · show b s + c t * sp_cp T s (j + 1) = b s + c t * sp_cp T s j
        rw [es0 s (fun z => hs z.2.symm)]
    · rw [q] at ih
      refine ih h1 f1 y1 (fun s hs => ?_)
      rw [y1' s hs]
      show lN (b s + c t * sp_cp T s j) = lN (b s + c t * sp_cp T s (j + 1))
      rw [es0 s (fun z => by rw [q] at z; cases z.1)]
theorem cw293 {E : mv_E} {D k n : Nat} {h0 h : mv_H} {Q : mv_Q} {V : vw} {x : Int32} (N : Nat) (hN : N ≤ 8) (f : fM V h0 h) (m : InvM V) (e : x = nI N) (H : ∀ h', fM V h0 h' → wl h' 160 (sp_ch (vA V) N) → Q none h') : mv_VE E (D + 4) k n 293 0 [some (.ref 148), some (.int x), none, none, none, none, none] [] h Q := by
  subst e
  have p8 := m.p8
  have p2 := m.p2
  have hh := m.1.1.hold
  have i8 : ∀ j, j < 256 → (true && mv_in (nI j) 256) = true := fun j hj => mx_inT j hj (by omega)
  apply sg293_0
  -- the weeks
  have weeks : ∀ h1, fM V h0 h1 → wl h1 160 (sp_ch (vA V) 0) → wl h1 161 (fun _ => 0) → mv_VE E (D + 4) k n 293 46 [some (.ref 148), some (.int (nI N)), some (.int 0), none, none, none, none] [] h1 Q := by
    refine mx_loop (P := fun j => ∀ h1, fM V h0 h1 → wl h1 160 (sp_ch (vA V) j) → wl h1 161 (fun _ => 0) → mv_VE E (D + 4) k n 293 46 [some (.ref 148), some (.int (nI N)), some (.int (nI j)), none, none, none, none] [] h1 Q) N ?_ ?_
    · intro h1 f1 y1 _
      apply sg293_46
      exact mx_ltF N N (Nat.le_refl _) (H h1 f1 y1) (by omega)
    · intro j hj ih h1 f1 y1 z1
      apply sg293_46
      refine mx_ltT j N hj ?_ (by omega)
      -- the sets
      refine mx_loop (P := fun t => ∀ h2, fM V h0 h2 → wl h2 160 (sp_ch (vA V) j) → wl h2 161 (fun s => sm (fun t => sp_ch (vA V) j t * sp_ct (sp_P (vA V)) (sp_week (vA V) t) s) t) → mv_VE E (D + 4) k n 293 53 [some (.ref 148), some (.int (nI N)), some (.int (nI j)), some (.int (nI t)), none, none, none] [] h2 Q) 256 ?_ ?_ h1 f1 y1 z1
      · intro h2 f2 y2 y2'
        apply sg293_53
        refine mx_ltF 256 256 (Nat.le_refl _) ?_ (by omega)
        -- laid back
        refine mx_loop (P := fun l => ∀ h3, fM V h0 h3 → wl h3 160 (fun s => if s < l then sp_step (vA V) (sp_ch (vA V) j) s else sp_ch (vA V) j s) → wl h3 161 (fun s => if s < l then 0 else sp_step (vA V) (sp_ch (vA V) j) s) → mv_VE E (D + 4) k n 293 173 [some (.ref 148), some (.int (nI N)), some (.int (nI j)), some (.int (nI l)), none, none, none] [] h3 Q) 256 ?_ ?_ h2 f2 (fun s hs => y2 s hs) (fun s hs => y2' s hs)
        · intro h3 f3 y3 y3'
          apply sg293_173
          rw [nI_1 j]
          refine mx_ltF 256 256 (Nat.le_refl _) (ih h3 f3 (fun s hs => ?_) (fun s hs => ?_)) (by omega)
          · rw [y3 s hs]
            show lN (if s < 256 then sp_step (vA V) (sp_ch (vA V) j) s else _) = lN (sp_step (vA V) (sp_ch (vA V) j) s)
            rw [if_pos hs]
          · rw [y3' s hs]
            show lN (if s < 256 then 0 else _) = lN 0
            rw [if_pos hs]
        · intro l hl ihl h3 f3 y3 y3'
          apply sg293_173
          rw [nI_1, nI_clamp (n := l) (by omega), y3' l hl]
          refine mx_ltT l 256 hl (mv_gdI (i8 l hl) (mv_gdI (i8 l hl) (mv_gdI (i8 l hl) ?_))) (by omega)
          refine ihl _ ((f3.sJ (Or.inl rfl)).sJ (Or.inr rfl)) ((y3.up (d := fun s => if s < l + 1 then sp_step (vA V) (sp_ch (vA V) j) s else sp_ch (vA V) j s) ?_ (fun s hs => ?_)).ne (by omega)) ((y3'.ne (by omega)).up (d := fun s => if s < l + 1 then 0 else sp_step (vA V) (sp_ch (vA V) j) s) ?_ (fun s hs => ?_))
          · show lN (if l < l then 0 else sp_step (vA V) (sp_ch (vA V) j) l) = lN (if l < l + 1 then sp_step (vA V) (sp_ch (vA V) j) l else sp_ch (vA V) j l)
            rw [if_neg (by omega), if_pos (by omega)]
          · show (if s < l + 1 then sp_step (vA V) (sp_ch (vA V) j) s else sp_ch (vA V) j s) = if s < l then sp_step (vA V) (sp_ch (vA V) j) s else sp_ch (vA V) j s
            by_cases q : s < l
            · rw [if_pos q, if_pos (by omega)]
            · rw [if_neg q, if_neg (by omega)]
          · show (0 : Int64) = lN (if l < l + 1 then 0 else sp_step (vA V) (sp_ch (vA V) j) l)
            rw [if_pos (by omega)]; rfl
          · show (if s < l + 1 then 0 else sp_step (vA V) (sp_ch (vA V) j) s) = if s < l then 0 else sp_step (vA V) (sp_ch (vA V) j) s
            by_cases q : s < l
            · rw [if_pos q, if_pos (by omega)]
            · rw [if_neg q, if_neg (by omega)]
      · intro t ht iht h2 f2 y2 y2'
        have cl := sp_ch_le m.1.1 (i := j) (s := t) (by omega)
        have es : ∀ s, sm (fun t => sp_ch (vA V) j t * sp_ct (sp_P (vA V)) (sp_week (vA V) t) s) (t + 1) = sm (fun t => sp_ch (vA V) j t * sp_ct (sp_P (vA V)) (sp_week (vA V) t) s) t + sp_ch (vA V) j t * sp_ct (sp_P (vA V)) (sp_week (vA V) t) s := fun s => rfl
        apply sg293_53
        rw [nI_clamp (n := t) (by omega), y2 t ht]
        refine mx_ltT t 256 ht (mv_gdI (i8 t ht) ?_) (by omega)
        by_cases q : sp_ch (vA V) j t = 0
        · refine mx_T (by rw [q, lg_cmp_eq]; rfl) ?_
          rw [nI_1]
          refine iht h2 f2 y2 (fun s hs => ?_)
          rw [y2' s hs]
          show lN (sm (fun t => sp_ch (vA V) j t * sp_ct (sp_P (vA V)) (sp_week (vA V) t) s) t) = lN (sm (fun t => sp_ch (vA V) j t * sp_ct (sp_P (vA V)) (sp_week (vA V) t) s) (t + 1))
          rw [es, q, Nat.zero_mul, Nat.add_zero]
        · refine mx_F (fun z => q ?_) ?_
          · rw [lg_cmp_eq] at z
            have z : lN (sp_ch (vA V) j t) = lN 0 := z
            rw [lN_eq (by omega) (by omega)] at z; exact z
          · have htP : t < 2 ^ sp_P (vA V) := sp_sub_lt (sp_ch_sub j t q) hh.2
            refine ct229 t (by rw [f2.A]; exact m.ok) (by omega) rfl (fun h3 fr3 => ⟨_, rfl, ?_⟩)
            have f3 := f2.s2 fr3
            have eJ : mv_J h3 = mv_J h2 := fr3.2.2.2.1
            rw [f2.A]
            exact cw293p t f3 m htP (y2.o (by rw [eJ])) (y2'.o (by rw [eJ])) (fun h4 f4 y4 y4' => iht h4 f4 y4 y4')
  refine mx_loop (P := fun l => ∀ h1, fM V h0 h1 → (∀ s, s < l → mv_J h1 160 s = lN (sp_ch (vA V) 0 s)) → (∀ s, s < l → mv_J h1 161 s = 0) → mv_VE E (D + 4) k n 293 2 [some (.ref 148), some (.int (nI N)), some (.int (nI l)), none, none, none, none] [] h1 Q) 256 ?_ ?_ h f (fun s hs => by omega) (fun s hs => by omega)
  · intro h1 f1 y1 z1
    apply sg293_2
    exact mx_ltF 256 256 (Nat.le_refl _) (weeks h1 f1 y1 z1) (by omega)
  · intro l hl ih h1 f1 y1 z1
    have fin : ∀ x, x = lN (sp_ch (vA V) 0 l) → mv_VE E (D + 4) k n 293 2 [some (.ref 148), some (.int (nI N)), some (.int (nI (l + 1))), none, none, none, none] [] (mv_sJ (mv_sJ h1 160 l x) 161 l 0) Q := by
      intro x hx
      refine ih _ ((f1.sJ (Or.inl rfl)).sJ (Or.inr rfl)) (fun s hs => ?_) (fun s hs => ?_)
      · rw [mx_upJ, if_neg (by omega), mx_upJ]
        by_cases q : s = l
        · rw [if_pos ⟨rfl, q⟩, hx, q]
        · rw [if_neg (fun z => q z.2)]; exact y1 s (by omega)
      · rw [mx_upJ]
        by_cases q : s = l
        · rw [if_pos ⟨rfl, q⟩]
        · rw [if_neg (fun z => q z.2), mx_upJ, if_neg (by omega)]; exact z1 s (by omega)
    have e0 : sp_ch (vA V) 0 l = if sp_hold (vA V) = l then 1 else 0 := rfl
    apply sg293_2
    rw [f1.A, hh.1, nI_1, nI_clamp (n := l) (by omega)]
    refine mx_ltT l 256 hl ?_ (by omega)
    refine mx_eq l (sp_hold (vA V)) (fun q => ?_) (fun q => ?_) (by omega) (by omega)
    · exact mv_gdI (i8 l hl) (mv_gdI (i8 l hl) (fin 1 (by rw [e0, if_pos q.symm]; rfl)))
    · exact mv_gdI (i8 l hl) (mv_gdI (i8 l hl) (fin 0 (by rw [e0, if_neg (fun z => q z.symm)]; rfl)))
theorem ct296 {E : mv_E} {h : mv_H} : ∀ (j : Nat) {D k n : Nat} {Q : mv_Q} {x0 x1 : Int64} (a b : Nat), a < 2 ^ 63 → b < 2 ^ j → b < 2 ^ 63 → x0 = lN a → x1 = lN b → Q (some (.long (lN (Nat.gcd a b)))) h → mv_VE E (D + 2 * j + 1) k n 296 0 [some (.long x0), none, some (.long x1), none] [] h Q
  | 0, D, k, n, Q, x0, x1, a, b, ha, hb, hb2, e0, e1, K => by
    have b0 : b = 0 := by omega
    subst e0; subst e1; subst b0
    rw [Nat.gcd_zero_right] at K
    apply sg296_0
    exact mx_T (by rw [lg_cmp_eq]; rfl) K
  | j + 1, D, k, n, Q, x0, x1, a, b, ha, hb, hb2, e0, e1, K => by
    subst e0; subst e1
    rw [show D + 2 * (j + 1) + 1 = D + 2 * j + 1 + 1 + 1 by omega]
    apply sg296_0
    by_cases b0 : b = 0
    · subst b0
      rw [Nat.gcd_zero_right] at K
      exact mx_T (by rw [lg_cmp_eq]; rfl) K
    · have nb : ¬ lN b = 0 := mx_lne b0 hb2
      refine mx_F (by rw [lg_cmp_eq]; exact nb) (mv_gdI (by rw [decide_eq_false nb]; rfl) ?_)
      rw [pk_lRem ha (by omega) hb2]
      have r1 : a % b < b := Nat.mod_lt _ (by omega)
      apply sg296_0
      by_cases r0 : a % b = 0
      · refine mx_T (by rw [r0, lg_cmp_eq]; rfl) ⟨_, rfl, ?_⟩
        rw [Nat.gcd_comm, Nat.gcd_rec, r0, Nat.gcd_zero_left] at K
        exact K
      · have nr : ¬ lN (a % b) = 0 := mx_lne r0 (by omega)
        refine mx_F (by rw [lg_cmp_eq]; exact nr) (mv_gdI (by rw [decide_eq_false nr]; rfl) ?_)
        rw [pk_lRem hb2 (by omega) (by omega)]
        have m2 := mx_mod2 (b := b) (r := a % b) (by omega) r1
        have r2 : b % (a % b) < a % b := Nat.mod_lt _ (by omega)
        refine ct296 j (a % b) (b % (a % b)) (by omega) (by rw [Nat.pow_succ] at hb; omega) (by omega) rfl rfl ⟨_, rfl, _, rfl, ?_⟩
        have e1 : Nat.gcd a b = Nat.gcd (a % b) b := by rw [Nat.gcd_comm, Nat.gcd_rec]
        have e2 : Nat.gcd (a % b) (b % (a % b)) = Nat.gcd (a % b) b := by rw [Nat.gcd_comm, ← Nat.gcd_rec]
        rw [e2, ← e1]
        exact K
theorem ct295 {E : mv_E} {D k n : Nat} {h : mv_H} {Q : mv_Q} {x0 x1 : Int64} {y : Int32} (a N : Nat) (ha : a < 2 ^ 31) (hN : N ≤ 8) (e0 : x0 = lN a) (e1 : x1 = lN (10 ^ N)) (K : Q (some (.int (sp_frac a N y))) h) : mv_VE E (D + 80) k n 295 0 [some (.long x0), none, some (.long x1), none, some (.int y)] [] h Q := by
  subst e0; subst e1
  have p10 : 10 ^ N ≤ 10 ^ 8 := Nat.pow_le_pow_right (by omega) hN
  have p10' : 0 < 10 ^ N := Nat.pow_pos (by omega)
  have g0 : 0 < Nat.gcd a (10 ^ N) := Nat.gcd_pos_of_pos_right _ p10'
  have g1 : Nat.gcd a (10 ^ N) ≤ 10 ^ N := Nat.gcd_le_right _ p10'
  have ng : ¬ lN (Nat.gcd a (10 ^ N)) = 0 := mx_lne (by omega) (by omega)
  rw [show D + 80 = D + 79 + 1 by omega]
  apply sg295_0
  rw [show D + 79 = D + 18 + 2 * 30 + 1 by omega]
  unfold sp_frac at K
  refine mx_if (fun q => ?_) (fun q => ?_)
  · rw [if_pos q] at K
    refine ct296 30 a (10 ^ N) (by omega) (by omega) (by omega) rfl rfl ⟨_, rfl, mv_gdI (by rw [decide_eq_false ng]; rfl) ?_⟩
    rw [pk_lDiv (by omega) g0 (by omega), lN_i]
    exact K
  · rw [if_neg q] at K
    refine ct296 30 a (10 ^ N) (by omega) (by omega) (by omega) rfl rfl ⟨_, rfl, mv_gdI (by rw [decide_eq_false ng]; rfl) ?_⟩
    rw [pk_lDiv (by omega) g0 (by omega), lN_i]
    exact K
theorem ct294 {E : mv_E} {D k n : Nat} {h : mv_H} {Q : mv_Q} {x : Int32} (N : Nat) (hN : N ≤ 8) (e : x = nI N) (K : Q (some (.long (lN (10 ^ N)))) h) : mv_VE E D k n 294 0 [some (.int x), none, none, none] [] h Q := by
  subst e
  apply sg294_0
  refine mx_loop (P := fun j => mv_VE E D k n 294 4 [some (.int (nI N)), some (.long (lN (10 ^ j))), none, some (.int (nI j))] [] h Q) N ?_ ?_
  · apply sg294_4
    exact mx_ltF N N (Nat.le_refl _) K (by omega)
  · intro j hj ih
    apply sg294_4
    rw [nI_1, show lN (10 ^ j) * (10 : Int64) = lN (10 ^ j * 10) from lN_mul _ 10, ← Nat.pow_succ]
    exact mx_ltT j N hj ih (by omega)
theorem cm291 {E : mv_E} {D k n : Nat} {h : mv_H} {Q : mv_Q} {V : vw} {x y : Int32} (e : vw_of h = V) (m : InvM V) (H : ∀ h', fM V h h' → Q (some (.int (v_chance V x y))) h') : mv_VE E (D + 90) k n 291 0 [some (.ref 148), some (.int x), some (.int y), none, none, none, none] [] h Q := by
  have f0 := fM.of e
  have p2 := m.p2
  have p1 : 0 < 2 ^ sp_P (vA V) := Nat.pow_pos (by omega)
  have hh := m.1.1.hold
  rw [show D + 90 = D + 85 + 5 by omega]
  apply sg291_0
  rw [show D + 85 + 4 = D + 88 + 1 by omega]
  apply cp292
  refine ⟨_, rfl, ?_⟩
  rw [mx_292]
  unfold v_chance at H
  refine mx_if (fun q => ?_) (fun q => ?_)
  · rw [if_pos q] at H
    obtain ⟨N, hN, rfl⟩ := sp_noc0 q
    rw [nI_clamp (by omega)] at H
    rw [show D + 88 + 1 = D + 85 + 4 by omega]
    refine cw293 N hN f0 m rfl (fun h1 f1 y1 => ⟨rfl, ?_⟩)
    have e256 : sp_abC (vA V) N (2 ^ sp_P (vA V)) = sp_abC (vA V) N 256 := (sm_ext (fun t ht => by
      show cond (sp_float (vA V) t) (sp_ch (vA V) N t) 0 = 0
      rw [sp_ch_0 (by omega)]
      cases sp_float (vA V) t <;> rfl) 256 (by omega)).symm
    refine mx_loop (P := fun j => ∀ h2, fM V h h2 → wl h2 160 (sp_ch (vA V) N) → mv_VE E (D + 85 + 5) k n 291 29 [some (.ref 148), some (.int (nI N)), some (.int y), none, some (.long (lN (sp_abC (vA V) N j))), none, some (.int (nI j))] [] h2 Q) (2 ^ sp_P (vA V)) ?_ ?_ h1 f1 y1
    · intro h2 f2 _
      have := sp_abC_le m.1.1 (n := N) hN 256 (Nat.le_refl _)
      apply sg291_29
      rw [cw219 f2 m, e256]
      refine mx_ltT (2 ^ sp_P (vA V) - 1) (2 ^ sp_P (vA V)) (by omega) ?_ (by omega)
      refine ct294 N hN rfl ⟨_, rfl, ?_⟩
      rw [show D + 85 + 4 = D + 9 + 80 by omega]
      exact ct295 _ N (by omega) hN rfl rfl ⟨_, rfl, H h2 f2⟩
    · intro j hj ih h2 f2 y2
      have es : sp_abC (vA V) N (j + 1) = sp_abC (vA V) N j + cond (sp_float (vA V) j) (sp_ch (vA V) N j) 0 := rfl
      rw [es] at ih
      apply sg291_29
      rw [cw219 f2 m]
      refine mx_ltF (2 ^ sp_P (vA V) - 1) j (by omega) ?_ (by omega)
      rw [show D + 85 + 4 = D + 86 + 3 by omega]
      refine ct220 j (by rw [f2.A]; exact m.ok) (by omega) rfl (fun h3 fr3 => ⟨_, rfl, ?_⟩)
      have f3 := f2.s2 fr3
      have y3 : wl h3 160 (sp_ch (vA V) N) := y2.o (by rw [fr3.2.2.2.1])
      have ih := ih h3 f3 y3
      rw [f2.A, nI_1]
      refine mx_ifB _ (fun z => ?_) (fun z => ?_)
      · rw [z, cond_false, Nat.add_zero] at ih
        rw [Int64.add_zero]; exact ih
      · rw [z, cond_true] at ih
        rw [nI_clamp (n := j) (by omega), y3 j (by omega), lN_add]
        exact mv_gdI (mx_inT j (by omega) (by omega)) ih
  · rw [if_neg q] at H; exact H _ f0
theorem cm297 {E : mv_E} {D k n : Nat} {h : mv_H} {Q : mv_Q} {V : vw} {x y : Int32} (e : vw_of h = V) (m : InvM V) (H : ∀ h', fM V h h' → Q (some (.int (v_mean V x y))) h') : mv_VE E (D + 90) k n 297 0 [some (.ref 148), some (.int x), some (.int y), none, none, none, none] [] h Q := by
  have f0 := fM.of e
  have p2 := m.p2
  have hh := m.1.1.hold
  rw [show D + 90 = D + 85 + 5 by omega]
  apply sg297_0
  rw [show D + 85 + 4 = D + 88 + 1 by omega]
  apply cp292
  refine ⟨_, rfl, ?_⟩
  rw [mx_292]
  unfold v_mean at H
  refine mx_if (fun q => ?_) (fun q => ?_)
  · rw [if_pos q] at H
    obtain ⟨N, hN, rfl⟩ := sp_noc0 q
    rw [nI_clamp (by omega)] at H
    rw [show D + 88 + 1 = D + 85 + 4 by omega]
    refine cw293 N hN f0 m rfl (fun h1 f1 y1 => ⟨rfl, ?_⟩)
    refine mx_loop (P := fun j => mv_VE E (D + 85 + 5) k n 297 29 [some (.ref 148), some (.int (nI N)), some (.int y), none, some (.long (lN (sp_abM (vA V) N j))), none, some (.int (nI j))] [] h1 Q) 256 ?_ ?_
    · have := sp_abM_le m.1.1 (n := N) hN 256 (Nat.le_refl _)
      apply sg297_29
      refine mx_ltF 256 256 (Nat.le_refl _) ?_ (by omega)
      refine ct294 N hN rfl ⟨_, rfl, ?_⟩
      rw [show D + 85 + 4 = D + 9 + 80 by omega]
      exact ct295 _ N (by omega) hN rfl rfl ⟨_, rfl, H h1 f1⟩
    · intro j hj ih
      have bl := sp_bits_le j
      have es : sp_abM (vA V) N (j + 1) = sp_abM (vA V) N j + sp_ch (vA V) N j * sp_bits j := rfl
      rw [es] at ih
      apply sg297_29
      rw [nI_clamp (n := j) (by omega), y1 j hj, nI_1]
      refine mx_ltT j 256 hj (mv_gdI (mx_inT j (by omega) (by omega)) ?_) (by omega)
      refine ct214 j (by omega) rfl ⟨_, rfl, ?_⟩
      rw [nI_l (by omega), lN_mul, lN_add]
      exact ih
  · rw [if_neg q] at H; exact H _ f0
