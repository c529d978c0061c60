/-! The model's tokens. -/
def lT (B : Nat → Nat) (N : Nat) (h : mv_H) : Prop := N ≤ 900 ∧ (∀ j, j < N → B j < 256) ∧ mv_I h 148 8 = nI N ∧ (∀ j, j < N → mv_I h 151 j = nI (B j)) ∧ gS h
def S183 (a k : Nat) : Bool := Nat.beq a 148 && (Nat.beq k 6 || Nat.beq k 7 || Nat.beq k 9 || Nat.beq k 10)
theorem S183f {a k : Nat} (h : a ≠ 148 ∨ (k ≠ 6 ∧ k ≠ 7 ∧ k ≠ 9 ∧ k ≠ 10)) : S183 a k = false := by
  unfold S183
  rcases h with h | ⟨h1, h2, h3, h4⟩
  · rw [mv_bne h]; rfl
  · rw [mv_bne h1, mv_bne h2, mv_bne h3, mv_bne h4]; exact Bool.and_false _
theorem lT.fr {B : Nat → Nat} {N : Nat} {S : Nat → Nat → Bool} {h h' : mv_H} (i : lT B N h) (f : mx_fr S h h') (s1 : S 148 8 = false) (s2 : ∀ k, S 151 k = false) (s3 : ∀ a k, a < 50 → S a k = false) : lT B N h' := ⟨i.1, i.2.1, by rw [f.2.2.1 _ _ s1]; exact i.2.2.1, fun j hj => by rw [f.2.2.1 _ _ (s2 j)]; exact i.2.2.2.1 j hj, i.2.2.2.2.o (fun a ha => f.I a (fun k => s3 a k ha))⟩
theorem lT.n {B : Nat → Nat} {N : Nat} {h h' : mv_H} (i : lT B N h) (f : mx_fr S183 h h') : lT B N h' := i.fr f (S183f (by omega)) (fun _ => S183f (by omega)) (fun _ _ _ => S183f (by omega))
def lS (B : Nat → Nat) (N p : Nat) : Int32 := if p < N then nI (B p) else -1
theorem ct184 {E : mv_E} {D k n : Nat} {h : mv_H} {Q : mv_Q} {B : Nat → Nat} {N : Nat} {x : Int32} (p : Nat) (hp : p ≤ N) (i : lT B N h) (e : x = nI p) (H : Q (some (.int (lS B N p))) h) : mv_VE E D k n 184 0 [some (.ref 148), some (.int x)] [] h Q := by
  subst e
  have := i.1
  apply sg184_0
  rw [i.2.2.1]
  unfold lS at H
  by_cases q : p < N
  · rw [if_pos q] at H
    refine mx_ltT p N q (mv_gdI (mx_inT p (by omega) (by omega)) ?_) (by omega)
    rw [nI_clamp (by omega), i.2.2.2.1 p q]
    exact H
  · rw [if_neg q] at H
    exact mx_ltF p N (by omega) H (by omega)
theorem lS_is {B : Nat → Nat} {N p c : Nat} (hc : c < 256) (hB : ∀ j, j < N → B j < 256) : (lS B N p = nI c) ↔ (p < N ∧ B p = c) := by
  unfold lS
  by_cases q : p < N
  · rw [if_pos q, nI_eq (by have := hB p q; omega) (by omega)]
    exact ⟨fun e => ⟨q, e⟩, fun e => e.2⟩
  · rw [if_neg q]
    refine ⟨fun e => ?_, fun e => absurd e.1 q⟩
    exact absurd e ((by decide +kernel : ∀ c, c < 256 → ¬ (-1 : Int32) = nI c) c hc)
theorem lb_is {B : Nat → Nat} {N p : Nat} (hB : ∀ j, j < N → B j < 256) : lb B N p = true ↔ (lS B N p = 10 ∨ lS B N p = 32) := by
  rw [show (10 : Int32) = nI 10 from rfl, show (32 : Int32) = nI 32 from rfl, lS_is (by omega) hB, lS_is (by omega) hB]
  unfold lb
  simp
  omega
theorem lpf {B : Nat → Nat} {N p l u : Nat} (hB : ∀ j, j < N → B j < 256) (hl : 0 < l) (hu : u < 256) (hl2 : l < 256) : (if lS B N p < nI l then false else if nI u < lS B N p then false else true) = (decide (p < N) && (decide (l ≤ B p) && decide (B p ≤ u))) := by
  unfold lS
  by_cases q : p < N
  · have := hB p q
    rw [if_pos q, decide_eq_true q, Bool.true_and]
    by_cases r : B p < l
    · rw [if_pos ((nI_ltI (by omega) (by omega)).mpr r), decide_eq_false (by omega)]; rfl
    · rw [if_neg (fun c => r ((nI_ltI (by omega) (by omega)).mp c)), decide_eq_true (by omega), Bool.true_and]
      by_cases t : u < B p
      · rw [if_pos ((nI_ltI (by omega) (by omega)).mpr t), decide_eq_false (by omega)]
      · rw [if_neg (fun c => t ((nI_ltI (by omega) (by omega)).mp c)), decide_eq_true (by omega)]
  · rw [if_neg q, decide_eq_false q, Bool.false_and]
    rw [if_pos ((by decide +kernel : ∀ c, c < 256 → 0 < c → (-1 : Int32) < nI c) l hl2 hl)]
theorem ll_is {B : Nat → Nat} {N p : Nat} (hB : ∀ j, j < N → B j < 256) : pf185 (lS B N p) = ll B N p := lpf (l := 97) (u := 122) hB (by omega) (by omega) (by omega)
theorem ld_is {B : Nat → Nat} {N p : Nat} (hB : ∀ j, j < N → B j < 256) : pf187 (lS B N p) = ld B N p := lpf (l := 48) (u := 57) hB (by omega) (by omega) (by omega)
-- keys
def kws (m : Nat) : Nat := ([1, 6, 12, 19, 25, 32, 38, 44, 50, 53, 61, 67, 72, 79, 83, 87, 92, 97, 103, 107, 110] : List Nat).getD m 114
def wic (m : Nat) : Nat := ([0, 1, 2, 3, 4, 5, 6, 7, 8, 9, 10, 11, 12, 16, 17, 18, 19, 20, 14, 15, 13] : List Nat).getD m 21
set_option maxRecDepth 100000 in
theorem kw_ok : ∀ m, m < 21 → kws (m + 1) = kws m + ksl (wic m) + 1 ∧ wic m < 21 ∧ wmk (wic m) = m ∧ ksb 22 (kws m + ksl (wic m)) = 32 ∧ kws m + ksl (wic m) < 114 := by decide +kernel
set_option maxRecDepth 100000 in
theorem kw_b : ∀ m, m < 21 → ∀ j, j < ksl (wic m) → ksb 22 (kws m + j) = ksb (wic m) j ∧ ksb (wic m) j ≠ 32 := by decide +kernel
theorem kw_all : ∀ c, c < 21 → wmk c < 21 ∧ wic (wmk c) = c := by decide +kernel
theorem ksl22 : ksl 22 = 114 := by decide +kernel
theorem wx_no {B : Nat → Nat} {a b : Nat} (h : ∀ c, c < 21 → eqw B a b c = false) : wx B a b = 21 := by
  have l := wx_le B a b
  rcases (by omega : wx B a b < 21 ∨ wx B a b = 21) with q | q
  · have := wx_t q; rw [h _ q] at this; cases this
  · exact q
theorem sp_alI {c : Nat → Bool} : ∀ f i, (∀ j, i ≤ j → j < i + f → c j = true) → sp_al c f i = true
  | 0, i, _ => rfl
  | f + 1, i, h => by
    unfold sp_al
    rw [h i (Nat.le_refl _) (by omega), sp_alI f (i + 1) (fun j h1 h2 => h j (by omega) (by omega))]
    rfl
theorem eqw_mk {B : Nat → Nat} {a b c : Nat} (h1 : b - a = ksl c) (h2 : ∀ j, j < ksl c → B (a + j) = ksb c j) : eqw B a b c = true := by
  unfold eqw
  rw [decide_eq_true h1, Bool.true_and]
  exact sp_alI (ksl c) 0 (fun j _ hj => decide_eq_true (h2 j (by omega)))
theorem ct186 {E : mv_E} {D k n : Nat} {h : mv_H} {Q : mv_Q} {B : Nat → Nat} {N : Nat} (a e : Nat) (he : e ≤ N) (hae : a < e) (i : lT B N h) (ha : mv_I h 148 6 = nI a) (hb : mv_I h 148 7 = nI e) (H : Q (some (.int (nI (wmk (wx B a e))))) h) : mv_VE E (D + 4) k n 186 0 [some (.ref 148), none, none, none] [] h Q := by
  have N9 := i.1
  have g := i.2.2.2.2
  apply sg186_0
  have key : ∀ f m, m + f = 21 → (∀ l, l < m → eqw B a e (wic l) = false) → mv_VE E (D + 4) k n 186 4 [some (.ref 148), some (.int (nI m)), some (.int (nI (kws m))), none] [] h Q := by
    intro f
    induction f with
    | zero =>
      intro m hm no
      apply sg186_4
      refine ct309 22 (by omega) g rfl ⟨_, rfl, ?_⟩
      have : m = 21 := by omega
      subst this
      rw [wx_no (fun c hc => by rw [← (kw_all c hc).2]; exact no _ (kw_all c hc).1)] at H
      exact mx_ltF 114 114 (by omega) H (by omega)
    | succ f ih =>
      intro m hm no
      obtain ⟨w1, w2, w3, w4, w5⟩ := kw_ok m (by omega)
      have kb := kw_b m (by omega)
      have kl := ksl_lt (wic m) (by omega)
      apply sg186_4
      refine ct309 22 (by omega) g rfl ⟨_, rfl, ?_⟩
      rw [ksl22]
      refine mx_ltT (kws m) 114 (by omega) ?_ (by omega)
      -- on to the next
      have on : eqw B a e (wic m) = false → ∀ q j, j + q = ksl (wic m) → mv_VE E (D + 4) k n 186 97 [some (.ref 148), some (.int (nI m)), some (.int (nI (kws m + j))), none] [] h Q := by
        intro nq q
        induction q with
        | zero =>
          intro j hj
          apply sg186_97
          refine ct311 22 (kws m + j) (by omega) (by rw [ksl22]; omega) g rfl rfl ⟨_, rfl, ?_⟩
          rw [show j = ksl (wic m) by omega, w4, nI_1 m, nI_1 (kws m + ksl (wic m)), ← w1]
          refine mx_eqT 32 32 rfl (ih (m + 1) (by omega) (fun l hl => ?_))
          rcases (by omega : l < m ∨ l = m) with r | r
          · exact no l r
          · rw [r]; exact nq
        | succ q ihq =>
          intro j hj
          apply sg186_97
          refine ct311 22 (kws m + j) (by omega) (by rw [ksl22]; omega) g rfl rfl ⟨_, rfl, ?_⟩
          have k0 := ks_ok 22 (by omega) (kws m + j) (by rw [ksl22]; omega)
          rw [nI_1 (kws m + j)]
          exact mx_eqF (ksb 22 (kws m + j)) 32 (by rw [(kb j (by omega)).1]; exact (kb j (by omega)).2) (ihq (j + 1) (by omega)) (by omega) (by omega)
      have at_ : ∀ q j, j + q = ksl (wic m) → (∀ t, t < j → a + t < e ∧ B (a + t) = ksb (wic m) t) → mv_VE E (D + 4) k n 186 15 [some (.ref 148), some (.int (nI m)), some (.int (nI (kws m))), some (.int (nI j))] [] h Q := by
        intro q
        induction q with
        | zero =>
          intro j hj al
          apply sg186_15
          rw [nI_add]
          have ej : j = ksl (wic m) := by omega
          refine ct311 22 (kws m + j) (by omega) (by rw [ksl22]; omega) g rfl rfl ⟨_, rfl, ?_⟩
          rw [ej, w4]
          refine mx_eqT 32 32 rfl (ct311 22 (kws m + ksl (wic m)) (by omega) (by rw [ksl22]; omega) g rfl rfl ⟨_, rfl, ?_⟩)
          rw [w4, ha, hb, nI_add]
          refine mx_eqT 32 32 rfl (mx_eq (a + ksl (wic m)) e (fun z => ?_) (fun z => on ?_ (ksl (wic m)) 0 (by omega)) (by omega) (by omega))
          · rw [wx_is w2 (eqw_mk (B := B) (a := a) (b := e) (c := wic m) (by omega) (fun t ht => (al t (by omega)).2)), w3] at H
            exact H
          · cases z2 : eqw B a e (wic m) with
            | false => rfl
            | true => exact absurd (eqw_ch z2).1 (by omega)
        | succ q ihq =>
          intro j hj al
          have k0 := ks_ok 22 (by omega) (kws m + j) (by rw [ksl22]; omega)
          have kj := kb j (by omega)
          apply sg186_15
          rw [nI_add]
          refine ct311 22 (kws m + j) (by omega) (by rw [ksl22]; omega) g rfl rfl ⟨_, rfl, ?_⟩
          rw [ha, hb, nI_add a]
          refine mx_eqF (ksb 22 (kws m + j)) 32 (by rw [kj.1]; exact kj.2) (mx_lt (a + j) e (fun z => ?_) (fun z => ?_) (by omega) (by omega)) (by omega) (by omega)
          · have bl := i.2.1 (a + j) (by omega)
            refine mv_gdI (mx_inT (a + j) (by omega) (by omega)) (ct311 22 (kws m + j) (by omega) (by rw [ksl22]; omega) g rfl rfl ⟨_, rfl, ?_⟩)
            rw [nI_clamp (by omega), i.2.2.2.1 (a + j) (by omega), nI_1 j]
            refine mx_eq (B (a + j)) (ksb 22 (kws m + j)) (fun y => ihq (j + 1) (by omega) (fun t ht => ?_)) (fun y => ct311 22 (kws m + j) (by omega) (by rw [ksl22]; omega) g rfl rfl ⟨_, rfl, ?_⟩) (by omega) (by omega)
            · rcases (by omega : t < j ∨ t = j) with r | r
              · exact al t r
              · rw [r]; exact ⟨z, by rw [y, kj.1]⟩
            · refine mx_eqF (ksb 22 (kws m + j)) 32 (by rw [kj.1]; exact kj.2) (on ?_ (ksl (wic m)) 0 (by omega)) (by omega) (by omega)
              cases z2 : eqw B a e (wic m) with
              | false => rfl
              | true => exact absurd ((eqw_ch z2).2 j (by omega)) (by rw [← kj.1]; exact y)
          · refine ct311 22 (kws m + j) (by omega) (by rw [ksl22]; omega) g rfl rfl ⟨_, rfl, ?_⟩
            refine mx_eqF (ksb 22 (kws m + j)) 32 (by rw [kj.1]; exact kj.2) (on ?_ (ksl (wic m)) 0 (by omega)) (by omega) (by omega)
            cases z2 : eqw B a e (wic m) with
            | false => rfl
            | true => exact absurd (eqw_ch z2).1 (by omega)
      exact at_ (ksl (wic m)) 0 (by omega) (fun t ht => absurd ht (by omega))
  exact key 21 0 (by omega) (fun l hl => absurd hl (by omega))

theorem ct183w {E : mv_E} {D k n : Nat} {Q : mv_Q} {B : Nat → Nat} {N : Nat} (a : Nat) : ∀ f b h, b + f = N → a < b → lT B N h → mv_I h 148 6 = nI a → mv_I h 148 7 = nI b → (∀ h', mx_fr S183 h h' → mv_I h' 148 6 = nI a → mv_I h' 148 7 = nI (lx_sp N (ll B N) b) → mv_I h' 148 9 = nI (wmk (wx B a (lx_sp N (ll B N) b))) → Q none h') → mv_VE E (D + 5) k n 183 89 [some (.ref 148), none] [] h Q := by
  intro f
  induction f with
  | zero =>
    intro b h hf hab i ha hb K
    have := i.1
    apply sg183_89
    refine ct184 b (by omega) i hb ⟨_, rfl, ?_⟩
    rw [ll_is i.2.1]
    have z : ll B N b = false := by
      cases z : ll B N b with
      | false => rfl
      | true => exact absurd (ll_lt b z) (by omega)
    rw [z]
    rw [lx_f z] at K
    exact ct186 a b (by omega) hab i ha hb ⟨_, rfl, K _ (mx_fr.sI rfl) (by rw [mx_Isk (by omega)]; exact ha) (by rw [mx_Isk (by omega)]; exact hb) mx_Iss⟩
  | succ f ih =>
    intro b h hf hab i ha hb K
    have := i.1
    apply sg183_89
    refine ct184 b (by omega) i hb ⟨_, rfl, ?_⟩
    rw [ll_is i.2.1]
    refine mx_cd (fun z => ?_) (fun z => ?_)
    · rw [hb, nI_1]
      rw [lx_t z (by omega)] at K
      have fr : mx_fr S183 h (mv_sI h 148 7 (nI (b + 1))) := mx_fr.sI rfl
      exact ih (b + 1) _ (by omega) (by omega) (i.n fr) (by rw [mx_Isk (by omega)]; exact ha) mx_Iss (fun h' f1 => K h' (fr.tr f1))
    · rw [lx_f z] at K
      exact ct186 a b (by omega) hab i ha hb ⟨_, rfl, K _ (mx_fr.sI rfl) (by rw [mx_Isk (by omega)]; exact ha) (by rw [mx_Isk (by omega)]; exact hb) mx_Iss⟩
def n3 (l : Nat) : Nat := if 3 < l then 3 else l
theorem ct183d {E : mv_E} {D k n : Nat} {Q : mv_Q} {B : Nat → Nat} {N : Nat} (a : Nat) : ∀ f b h, b + f = N → a ≤ b → lT B N h → mv_I h 148 6 = nI a → mv_I h 148 7 = nI b → mv_I h 148 10 = nI (nv B a (n3 (b - a))) → nv B a (n3 (b - a)) < 10 ^ (n3 (b - a)) → (∀ h', mx_fr S183 h h' → mv_I h' 148 6 = nI a → mv_I h' 148 7 = nI (lx_sp N (ld B N) b) → mv_I h' 148 9 = nI (if 3 < lx_sp N (ld B N) b - a then 25 else 23) → mv_I h' 148 10 = nI (nv B a (n3 (lx_sp N (ld B N) b - a))) → Q none h') → mv_VE E (D + 5) k n 183 146 [some (.ref 148), none] [] h Q := by
  have sub : ∀ a b, a ≤ b → nI b - nI a = nI (b - a) := fun a b hab => by
    have : nI b = nI (b - a) + nI a := by rw [nI_add, Nat.sub_add_cancel hab]
    rw [this, Int32.add_sub_cancel]
  intro f
  have fin : ∀ b h, b ≤ N → a ≤ b → ld B N b = false → lT B N h → mv_I h 148 6 = nI a → mv_I h 148 7 = nI b → mv_I h 148 10 = nI (nv B a (n3 (b - a))) → (∀ h', mx_fr S183 h h' → mv_I h' 148 6 = nI a → mv_I h' 148 7 = nI (lx_sp N (ld B N) b) → mv_I h' 148 9 = nI (if 3 < lx_sp N (ld B N) b - a then 25 else 23) → mv_I h' 148 10 = nI (nv B a (n3 (lx_sp N (ld B N) b - a))) → Q none h') → mv_VE E (D + 5) k n 183 146 [some (.ref 148), none] [] h Q := by
    intro b h hbN hab z i ha hb hn K
    have := i.1
    apply sg183_146
    refine ct184 b hbN i hb ⟨_, rfl, ?_⟩
    rw [ld_is i.2.1, z, ha, hb, sub a b hab]
    rw [lx_f z] at K
    refine mx_lt 3 (b - a) (fun q => ?_) (fun q => ?_) (by omega) (by omega)
    · rw [if_pos q] at K
      exact K _ (mx_fr.sI rfl) (by rw [mx_Isk (by omega)]; exact ha) (by rw [mx_Isk (by omega)]; exact hb) mx_Iss (by rw [mx_Isk (by omega)]; exact hn)
    · rw [if_neg (by omega)] at K
      exact K _ (mx_fr.sI rfl) (by rw [mx_Isk (by omega)]; exact ha) (by rw [mx_Isk (by omega)]; exact hb) mx_Iss (by rw [mx_Isk (by omega)]; exact hn)
  induction f with
  | zero =>
    intro b h hf hab i ha hb hn hm K
    have z : ld B N b = false := by
      cases z : ld B N b with
      | false => rfl
      | true => exact absurd (ld_lt b z) (by omega)
    exact fin b h (by omega) hab z i ha hb hn K
  | succ f ih =>
    intro b h hf hab i ha hb hn hm K
    have := i.1
    by_cases z : ld B N b = true
    · have bl := i.2.1 b (by omega)
      have b48 : 48 ≤ B b := by
        unfold ld at z; rw [Bool.and_eq_true, Bool.and_eq_true] at z; simpa using z.2.1
      have b57 : B b ≤ 57 := by
        unfold ld at z; rw [Bool.and_eq_true, Bool.and_eq_true] at z; simpa using z.2.2
      rw [lx_t z (by omega)] at K
      apply sg183_146
      refine ct184 b (by omega) i hb ⟨_, rfl, ?_⟩
      rw [ld_is i.2.1, z, ha, hb, sub a b hab]
      refine mx_lt (b - a) 3 (fun q => ct184 b (by omega) i rfl ⟨_, rfl, ?_⟩) (fun q => ?_) (by omega) (by omega)
      · have e0 : n3 (b - a) = b - a := by unfold n3; rw [if_neg (by omega)]
        have e1 : n3 (b + 1 - a) = b - a + 1 := by unfold n3; rw [if_neg (by omega)]; omega
        rw [e0] at hn hm
        have le : nv B a (b - a) < 1000 := Nat.lt_of_lt_of_le hm (by rcases (by omega : b - a = 0 ∨ b - a = 1 ∨ b - a = 2) with r | r | r <;> rw [r] <;> decide)
        have ev : 10 * nI (nv B a (b - a)) + lS B N b - 48 = nI (nv B a (b - a + 1)) := by
          unfold lS
          rw [if_pos (by omega), show (10 : Int32) = nI 10 from rfl, show (48 : Int32) = nI 48 from rfl, show nI 10 * nI (nv B a (b - a)) = nI (10 * nv B a (b - a)) from (Int32.ofNat_mul 10 _).symm, nI_add, sub 48 _ (by omega)]
          show nI (10 * nv B a (b - a) + B b - 48) = nI (10 * nv B a (b - a) + (B (a + (b - a)) - 48))
          rw [show a + (b - a) = b by omega, Nat.add_sub_assoc b48]
        rw [hn, ev, hb, nI_1]
        have fr : mx_fr S183 h (mv_sI (mv_sI h 148 10 (nI (nv B a (b - a + 1)))) 148 7 (nI (b + 1))) := (mx_fr.sI rfl).tr (mx_fr.sI rfl)
        refine ih (b + 1) _ (by omega) (by omega) (i.n fr) (by rw [mx_Isk (by omega), mx_Isk (by omega)]; exact ha) mx_Iss (by rw [mx_Isk (by omega), mx_Iss, e1]) ?_ (fun h' f1 => K h' (fr.tr f1))
        rw [e1]
        show 10 * nv B a (b - a) + (B (a + (b - a)) - 48) < 10 ^ (b - a + 1)
        rw [show a + (b - a) = b by omega, Nat.pow_succ]
        omega
      · rw [nI_1]
        have e1 : n3 (b + 1 - a) = n3 (b - a) := by
          unfold n3
          rw [if_pos (by omega)]
          split <;> omega
        have fr : mx_fr S183 h (mv_sI h 148 7 (nI (b + 1))) := mx_fr.sI rfl
        exact ih (b + 1) _ (by omega) (by omega) (i.n fr) (by rw [mx_Isk (by omega)]; exact ha) mx_Iss (by rw [mx_Isk (by omega), e1]; exact hn) (by rw [e1]; exact hm) (fun h' f1 => K h' (fr.tr f1))
    · exact fin b h (by omega) hab (by cases y : ld B N b with | false => rfl | true => exact absurd y z) i ha hb hn K
theorem sgi_k : ∀ k, k < 12 → sgi (ksb 21 k) = k := by decide +kernel
theorem ct183s {E : mv_E} {D k n : Nat} {Q : mv_Q} {B : Nat → Nat} {N : Nat} (a : Nat) (haN : a < N) : ∀ f s h, s + f = 12 → lT B N h → mv_I h 148 6 = nI a → mv_I h 148 9 = nI (if sgi (B a) < s then 30 + sgi (B a) else 25) → (∀ h', mx_fr S183 h h' → mv_I h' 148 6 = nI a → mv_I h' 148 7 = mv_I h 148 7 → mv_I h' 148 9 = nI (if sgi (B a) < 12 then 30 + sgi (B a) else 25) → Q none h') → mv_VE E (D + 5) k n 183 254 [some (.ref 148), some (.int (nI s))] [] h Q := by
  intro f
  induction f with
  | zero =>
    intro s h hs i ha hk K
    apply sg183_254
    refine ct309 21 (by omega) i.2.2.2.2 rfl ⟨_, rfl, ?_⟩
    have : s = 12 := by omega
    subst this
    exact mx_ltF 12 12 (by omega) (K h mx_fr.rf ha rfl hk) (by omega)
  | succ f ih =>
    intro s h hs i ha hk K
    have := i.1
    have bl := i.2.1 a haN
    obtain ⟨-, k2, -⟩ := ks_ok 21 (by omega) s (show s < 12 by omega)
    apply sg183_254
    refine ct309 21 (by omega) i.2.2.2.2 rfl ⟨_, rfl, ?_⟩
    refine mx_ltT s 12 (by omega) (ct184 a (by omega) i ha ⟨_, rfl, ct311 21 s (by omega) (show s < 12 by omega) i.2.2.2.2 rfl rfl ⟨_, rfl, ?_⟩⟩) (by omega)
    rw [show lS B N a = nI (B a) from if_pos haN, nI_1, show (30 : Int32) = nI 30 from rfl, nI_add]
    refine mx_eq (B a) (ksb 21 s) (fun q => ?_) (fun q => ?_) (by omega) (by omega)
    · have e : sgi (B a) = s := by rw [q]; exact sgi_k s (by omega)
      have fr : mx_fr S183 h (mv_sI h 148 9 (nI (30 + s))) := mx_fr.sI rfl
      refine ih (s + 1) _ (by omega) (i.n fr) (by rw [mx_Isk (by omega)]; exact ha) (by rw [mx_Iss, if_pos (by omega), e]) (fun h' f1 q1 q2 => K h' (fr.tr f1) q1 (by rw [q2, mx_Isk (by omega)]))
    · refine ih (s + 1) _ (by omega) i ha ?_ K
      rw [hk]
      have ne : sgi (B a) ≠ s := fun c => q (by have := sgi_t (c := B a) (by omega); rw [c] at this; exact this.symm)
      by_cases r : sgi (B a) < s
      · rw [if_pos r, if_pos (by omega)]
      · rw [if_neg r, if_neg (by omega)]
/-- the token behind a place -/
theorem ct183p {E : mv_E} {D k n : Nat} {Q : mv_Q} {B : Nat → Nat} {N : Nat} : ∀ f p h, p + f = N → lT B N h → mv_I h 148 6 = nI p → (∀ h', mx_fr S183 h h' → mv_I h' 148 6 = nI (lx B N p).2.1 → mv_I h' 148 7 = nI (lx B N p).2.2.1 → mv_I h' 148 9 = nI (lx B N p).1 → ((lx B N p).1 = 23 → mv_I h' 148 10 = nI (lx B N p).2.2.2) → Q none h') → mv_VE E (D + 5) k n 183 8 [some (.ref 148), none] [] h Q := by
  intro f
  have fin : ∀ p h, p ≤ N → lb B N p = false → lT B N h → mv_I h 148 6 = nI p → (∀ h', mx_fr S183 h h' → mv_I h' 148 6 = nI (lx B N p).2.1 → mv_I h' 148 7 = nI (lx B N p).2.2.1 → mv_I h' 148 9 = nI (lx B N p).1 → ((lx B N p).1 = 23 → mv_I h' 148 10 = nI (lx B N p).2.2.2) → Q none h') → mv_VE E (D + 5) k n 183 8 [some (.ref 148), none] [] h Q := by
    intro p h hp z i ha K
    have N9 := i.1
    have nz : ¬ (lS B N p = 10 ∨ lS B N p = 32) := fun c => by rw [(lb_is i.2.1).mpr c] at z; cases z
    apply sg183_8
    refine ct184 p hp i ha ⟨_, rfl, ?_⟩
    rw [if_neg (fun c => nz (Or.inl c))]
    refine ct184 p hp i ha ⟨_, rfl, ?_⟩
    rw [if_neg (fun c => nz (Or.inr c)), i.2.2.1, ha]
    unfold lx at K
    rw [lx_f z] at K
    refine mx_lt p N (fun q => ?_) (fun q => ?_) (by omega) (by omega)
    · rw [if_neg (by omega)] at K
      have fr : mx_fr S183 h (mv_sI h 148 7 (nI p)) := mx_fr.sI rfl
      have i1 := i.n fr
      refine ct184 p hp i1 rfl ⟨_, rfl, ?_⟩
      rw [ll_is i.2.1]
      refine mx_cd (fun r => ?_) (fun r => ?_)
      · rw [if_pos r, lx_t r q] at K
        have fr2 : mx_fr S183 h (mv_sI (mv_sI h 148 7 (nI p)) 148 7 (nI p + 1)) := fr.tr (mx_fr.sI rfl)
        apply sg183_89
        refine ct184 p hp i1 mx_Iss ⟨_, rfl, ?_⟩
        rw [ll_is i.2.1, r, mx_Iss]
        rw [nI_1] at fr2 ⊢
        exact ct183w p (N - (p + 1)) (p + 1) _ (by omega) (by omega) (i.n fr2) (by rw [mx_Isk (by omega), mx_Isk (by omega)]; exact ha) mx_Iss (fun h' f1 q1 q2 q3 => K h' (fr2.tr f1) q1 q2 q3 (fun c => absurd c (wmk_ne _ (wx_le _ _ _)).2.2.1))
      · rw [if_neg (by rw [r]; decide)] at K
        refine ct184 p hp i1 (by rw [mx_Isk (by omega)]; exact ha) ⟨_, rfl, ?_⟩
        rw [ld_is i.2.1]
        refine mx_cd (fun t => ?_) (fun t => ?_)
        · rw [if_pos t] at K
          have fr2 : mx_fr S183 h (mv_sI (mv_sI h 148 7 (nI p)) 148 10 0) := fr.tr (mx_fr.sI rfl)
          have n0 : n3 (p - p) = 0 := by rw [Nat.sub_self]; rfl
          exact ct183d p (N - p) p _ (by omega) (Nat.le_refl _) (i.n fr2) (by rw [mx_Isk (by omega), mx_Isk (by omega)]; exact ha) (by rw [mx_Isk (by omega)]; exact mx_Iss) (by rw [mx_Iss, n0]; rfl) (by rw [n0]; exact Nat.zero_lt_one) (fun h' f1 q1 q2 q3 q4 => K h' (fr2.tr f1) q1 q2 q3 (fun _ => q4))
        · rw [if_neg (by rw [t]; decide)] at K
          rw [mx_Iss, nI_1]
          have fr2 : mx_fr S183 h (mv_sI (mv_sI (mv_sI h 148 7 (nI p)) 148 7 (nI (p + 1))) 148 9 25) := (fr.tr (mx_fr.sI rfl)).tr (mx_fr.sI rfl)
          refine ct183s p q 12 0 _ (by omega) (i.n fr2) (by rw [mx_Isk (by omega), mx_Isk (by omega), mx_Isk (by omega)]; exact ha) (by rw [mx_Iss, if_neg (by omega)]; rfl) (fun h' f1 q1 q2 q3 => K h' (fr2.tr f1) q1 (by rw [q2, mx_Isk (by omega), mx_Iss]) q3 (fun c => ?_))
          have c : (if sgi (B p) < 12 then 30 + sgi (B p) else 25) = 23 := c
          split at c <;> omega
    · rw [if_pos (by omega)] at K
      exact K _ ((mx_fr.sI rfl).tr (mx_fr.sI rfl)) (by rw [mx_Isk (by omega), mx_Isk (by omega)]; exact ha) (by rw [mx_Isk (by omega), mx_Iss]) mx_Iss (fun c => absurd c (show ¬ (24 : Nat) = 23 by omega))
  induction f with
  | zero =>
    intro p h hf i ha K
    have z : lb B N p = false := by
      cases z : lb B N p with
      | false => rfl
      | true => exact absurd (lb_lt p z) (by omega)
    exact fin p h (by omega) z i ha K
  | succ f ih =>
    intro p h hf i ha K
    have N9 := i.1
    by_cases z : lb B N p = true
    · have on : mv_VE E (D + 5) k n 183 8 [some (.ref 148), none] [] (mv_sI h 148 6 (mv_I h 148 6 + 1)) Q := by
        rw [ha, nI_1]
        have fr : mx_fr S183 h (mv_sI h 148 6 (nI (p + 1))) := mx_fr.sI rfl
        have el : lx B N p = lx B N (p + 1) := by unfold lx; rw [lx_t z (by omega)]
        rw [el] at K
        exact ih (p + 1) _ (by omega) (i.n fr) mx_Iss (fun h' f1 => K h' (fr.tr f1))
      apply sg183_8
      refine ct184 p (by omega) i ha ⟨_, rfl, ?_⟩
      rcases (lb_is i.2.1).mp z with q | q
      · rw [if_pos q]; exact on
      · rw [if_neg (by rw [q]; decide)]
        refine ct184 p (by omega) i ha ⟨_, rfl, ?_⟩
        rw [if_pos q]; exact on
    · exact fin p h (by omega) (by cases y : lb B N p with | false => rfl | true => exact absurd y z) i ha K
/-- which token the model stands at -/
def mT (B : Nat → Nat) (N i : Nat) (h : mv_H) : Prop := lT B N h ∧ mv_I h 148 6 = nI (tA B N i) ∧ mv_I h 148 7 = nI (tpos B N (i + 1)) ∧ mv_I h 148 9 = nI (tK B N i) ∧ (tK B N i = 23 → mv_I h 148 10 = nI (tN B N i))
theorem ct183_0 {E : mv_E} {D k n : Nat} {Q : mv_Q} {h : mv_H} {B : Nat → Nat} {N : Nat} (l : lT B N h) (h0 : mv_I h 148 7 = 0) (H : ∀ h', mx_fr S183 h h' → mT B N 0 h' → Q none h') : mv_VE E (D + 5) k n 183 0 [some (.ref 148), none] [] h Q := by
  apply sg183_0
  rw [h0]
  have fr : mx_fr S183 h (mv_sI h 148 6 0) := mx_fr.sI rfl
  exact ct183p N 0 _ (by omega) (l.n fr) mx_Iss (fun h' f1 q1 q2 q3 q4 => H h' (fr.tr f1) ⟨l.n (fr.tr f1), q1, q2, q3, q4⟩)
theorem ct183 {E : mv_E} {D k n : Nat} {Q : mv_Q} {h : mv_H} {B : Nat → Nat} {N i : Nat} (t : mT B N i h) (H : ∀ h', mx_fr S183 h h' → mT B N (i + 1) h' → Q none h') : mv_VE E (D + 5) k n 183 0 [some (.ref 148), none] [] h Q := by
  apply sg183_0
  have l := t.1
  have := tpos_le B N (i + 1)
  rw [t.2.2.1]
  have fr : mx_fr S183 h (mv_sI h 148 6 (nI (tpos B N (i + 1)))) := mx_fr.sI rfl
  exact ct183p (N - tpos B N (i + 1)) (tpos B N (i + 1)) _ (by omega) (l.n fr) mx_Iss (fun h' f1 q1 q2 q3 q4 => H h' (fr.tr f1) ⟨l.n (fr.tr f1), q1, q2, q3, q4⟩)
