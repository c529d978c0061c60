/-! Calls: beats, island, holder. -/
def sp_lk (A : Nat → Int32) (p i : Nat) : Nat := (A (41 + 3 * p + i)).toNatClampNeg
def sp_vt (A : Nat → Int32) (p : Nat) : Nat := (A (17 + p)).toNatClampNeg
/-- votes of those who like i more than j -/
def sp_vf (A : Nat → Int32) (i j : Nat) : Nat → Nat := mx_fold (fun p a => a + cond (decide (sp_lk A p j < sp_lk A p i)) (sp_vt A p) 0) 0
theorem sp_dg.e {x : Int32} (h : sp_dg x) : x = nI x.toNatClampNeg ∧ x.toNatClampNeg ≤ 9 := by
  obtain ⟨b, hb, rfl⟩ := h
  rw [nI_clamp (by omega)]
  exact ⟨rfl, hb⟩
theorem m_ok.lk {A : Nat → Int32} (m : m_ok A) {p i : Nat} (hp : p < sp_P A) (hi : i < 3) : A (41 + 3 * p + i) = nI (sp_lk A p i) ∧ sp_lk A p i ≤ 9 := by
  have h8 := m.1.2.1
  have := (m.2.2.2 (3 * p + i) (by omega)).e
  rw [show 41 + (3 * p + i) = 41 + 3 * p + i by omega] at this
  exact this
theorem m_ok.vt {A : Nat → Int32} (m : m_ok A) {p : Nat} (hp : p < sp_P A) : A (17 + p) = nI (sp_vt A p) ∧ sp_vt A p ≤ 9 := (m.2.2.1 p hp).2.1.e
theorem sp_vf_le {A : Nat → Int32} (m : m_ok A) (i j : Nat) : ∀ p, p ≤ sp_P A → sp_vf A i j p ≤ 9 * p
  | 0, _ => Nat.le_refl _
  | p + 1, hp => by
    have ih := sp_vf_le m i j p (by omega)
    have := (m.vt (p := p) (by omega)).2
    show sp_vf A i j p + cond (decide (sp_lk A p j < sp_lk A p i)) (sp_vt A p) 0 ≤ _
    cases decide (sp_lk A p j < sp_lk A p i) with
    | false => rw [cond_false]; omega
    | true => rw [cond_true]; omega
theorem ct37 {E : mv_E} {D k n : Nat} {h : mv_H} {Q : mv_Q} {r : Nat} {A : Nat → Int32} {x1 x2 : Int32} (i j : Nat) (cr : cr_ok E h r A) (m : m_ok A) (hi : i < 3) (hj : j < 3) (e1 : x1 = nI i) (e2 : x2 = nI j) (H : Q (some (.int (nI (sp_vf A i j (sp_P A))))) h) : mv_VE E (D + 1) k n 37 0 [some (.ref r), some (.int x1), some (.int x2), none, none] [] h Q := by
  subst e1; subst e2
  have h8 := m.1.2.1
  obtain ⟨⟨-, K, -, -, ⟨s1, s2⟩, -⟩, ⟨v0, -, -, -, v1, -⟩, -⟩ := id cr
  apply sg37_0
  refine mx_loop (P := fun p => mv_VE E (D + 1) k n 37 5 [some (.ref r), some (.int (nI i)), some (.int (nI j)), some (.int (nI (sp_vf A i j p))), some (.int (nI p))] [] h Q) (sp_P A) ?_ ?_
  · apply sg37_5
    rw [K, v0, m.1.1]
    exact mv_gdI rfl (mx_ltF (sp_P A) (sp_P A) (Nat.le_refl _) H (by omega))
  · intro p hp ih
    have es : sp_vf A i j (p + 1) = sp_vf A i j p + cond (decide (sp_lk A p j < sp_lk A p i)) (sp_vt A p) 0 := rfl
    rw [es] at ih
    have l1 := m.lk hp hi
    have l2 := m.lk hp hj
    apply sg37_5
    rw [K, v0, m.1.1]
    refine mv_gdI rfl (mx_ltT p (sp_P A) hp (mv_gdI rfl ?_) (by omega))
    refine ct28 p i cr (by omega) hi rfl rfl ⟨_, rfl, ?_⟩
    rw [K]
    refine mv_gdI rfl (ct28 p j cr (by omega) hj rfl rfl ⟨_, rfl, ?_⟩)
    rw [K, s1, s2, nI_clamp (n := p) (by omega), v1 p (by omega), l1.1, l2.1, (m.vt hp).1, nI_add, nI_1]
    refine mx_lt (sp_lk A p j) (sp_lk A p i) (fun c => ?_) (fun c => ?_) (by omega) (by omega)
    · rw [decide_eq_true c] at ih
      exact mv_gdI rfl (mv_gdI (mx_inT p (by omega) (by omega)) ih)
    · rw [decide_eq_false (by omega), cond_false, Nat.add_zero] at ih
      exact ih
/-- who beats whom: 1, -1, 0 -/
def sp_bt3 (A : Nat → Int32) (i j : Nat) : Int32 := if sp_vf A j i (sp_P A) < sp_vf A i j (sp_P A) then 1 else if sp_vf A i j (sp_P A) < sp_vf A j i (sp_P A) then -1 else 0
theorem mx_sub0p {a b : Nat} (ha : a < 2 ^ 30) (hb : b < 2 ^ 30) : (0 < nI a - nI b) ↔ b < a := by
  rw [Int32.lt_iff_toInt_lt, pk_sub_toInt ha hb]
  show (0 : Int) < _ ↔ _
  omega
theorem mx_sub0n {a b : Nat} (ha : a < 2 ^ 30) (hb : b < 2 ^ 30) : (nI a - nI b < 0) ↔ a < b := by
  rw [Int32.lt_iff_toInt_lt, pk_sub_toInt ha hb]
  show _ < (0 : Int) ↔ _
  omega
theorem mx_sba (a b v : Nat) : nI a - nI b + nI v = nI (a + v) - nI b := by
  rw [Int32.sub_eq_add_neg, Int32.sub_eq_add_neg, ← nI_add, Int32.add_assoc, Int32.add_comm (-nI b), ← Int32.add_assoc]
theorem mx_sbs (a b v : Nat) : nI a - nI b + -nI v = nI a - nI (b + v) := by
  rw [Int32.sub_eq_add_neg, Int32.sub_eq_add_neg, ← nI_add, Int32.neg_add, Int32.sub_eq_add_neg, Int32.add_assoc]
theorem ct272 {E : mv_E} {D k n : Nat} {h0 h : mv_H} {Q : mv_Q} {V : vw} {x1 x2 : Int32} (i j : Nat) (f : fM V h0 h) (m : InvM V) (hi : i < 3) (hj : j < 3) (e1 : x1 = nI i) (e2 : x2 = nI j) (H : Q (some (.int (sp_bt3 (vA V) i j))) h) : mv_VE E D k n 272 0 [some (.ref 148), some (.int x1), some (.int x2), none, none, none] [] h Q := by
  subst e1; subst e2
  have h8 := m.p8
  have mo := m.1.1
  apply sg272_0
  have b1 := sp_vf_le mo i j
  have b2 := sp_vf_le mo j i
  have z0 : (0 : Int32) = nI 0 - nI 0 := by decide
  rw [z0]
  refine mx_loop (P := fun p => mv_VE E D k n 272 5 [some (.ref 148), some (.int (nI i)), some (.int (nI j)), some (.int (nI (sp_vf (vA V) i j p) - nI (sp_vf (vA V) j i p))), some (.int (nI p)), none] [] h Q) (sp_P (vA V)) ?_ ?_
  · have c1 := b1 (sp_P (vA V)) (Nat.le_refl _)
    have c2 := b2 (sp_P (vA V)) (Nat.le_refl _)
    unfold sp_bt3 at H
    apply sg272_5
    rw [f.A, m.ok.1]
    refine mx_ltF (sp_P (vA V)) (sp_P (vA V)) (Nat.le_refl _) ?_ (by omega)
    refine mx_if (fun q => ?_) (fun q => mx_if (fun q2 => ?_) (fun q2 => ?_))
    · rw [if_pos ((mx_sub0p (by omega) (by omega)).mp q)] at H; exact H
    · rw [if_neg (fun c => q ((mx_sub0p (by omega) (by omega)).mpr c)), if_pos ((mx_sub0n (by omega) (by omega)).mp q2)] at H; exact H
    · rw [if_neg (fun c => q ((mx_sub0p (by omega) (by omega)).mpr c)), if_neg (fun c => q2 ((mx_sub0n (by omega) (by omega)).mpr c))] at H; exact H
  · intro p hp ih
    have es : ∀ i j, sp_vf (vA V) i j (p + 1) = sp_vf (vA V) i j p + cond (decide (sp_lk (vA V) p j < sp_lk (vA V) p i)) (sp_vt (vA V) p) 0 := fun _ _ => rfl
    rw [es, es] at ih
    have l1 := mo.lk hp hi
    have l2 := mo.lk hp hj
    have lv := mo.vt hp
    apply sg272_5
    rw [f.A, m.ok.1, show (3 : Int32) * nI p = nI (3 * p) from pk_mul 3 p, show (41 : Int32) + nI (3 * p) = nI (41 + 3 * p) from nI_add 41 _, nI_add, nI_add, show (17 : Int32) + nI p = nI (17 + p) from nI_add 17 p, nI_clamp (n := 41 + 3 * p + i) (by omega), nI_clamp (n := 41 + 3 * p + j) (by omega), nI_clamp (n := 17 + p) (by omega), l1.1, l2.1, lv.1, nI_1, mx_sba, mx_sbs]
    refine mx_ltT p (sp_P (vA V)) hp (mv_gdI (mx_inT (41 + 3 * p + i) (by omega) (by omega)) (mv_gdI (mx_inT (41 + 3 * p + j) (by omega) (by omega)) ?_)) (by omega)
    refine mx_if (fun q => ?_) (fun q => mx_if (fun q2 => ?_) (fun q2 => ?_))
    · have c := (mx_sub0p (by omega) (by omega)).mp q
      rw [decide_eq_true c, decide_eq_false (show ¬ sp_lk (vA V) p i < sp_lk (vA V) p j by omega)] at ih
      exact mv_gdI (mx_inT (17 + p) (by omega) (by omega)) ih
    · have c := (mx_sub0n (by omega) (by omega)).mp q2
      rw [decide_eq_true c, decide_eq_false (show ¬ sp_lk (vA V) p j < sp_lk (vA V) p i by omega)] at ih
      exact mv_gdI (mx_inT (17 + p) (by omega) (by omega)) ih
    · have c1 : ¬ sp_lk (vA V) p j < sp_lk (vA V) p i := fun c => q ((mx_sub0p (by omega) (by omega)).mpr c)
      have c2 : ¬ sp_lk (vA V) p i < sp_lk (vA V) p j := fun c => q2 ((mx_sub0n (by omega) (by omega)).mpr c)
      rw [decide_eq_false c1, decide_eq_false c2] at ih
      rw [Int32.add_zero]
      exact ih
theorem mx_148 (x : Int32) : pf148 x = (!decide (x < 0) && decide (x < nI 3)) := by
  unfold pf148
  by_cases q : x < 0
  · rw [if_pos q, decide_eq_true q]; rfl
  · rw [if_neg q, decide_eq_false q]
    by_cases r : x < 3
    · rw [if_pos r, decide_eq_true (show x < nI 3 from r)]; rfl
    · rw [if_neg r, decide_eq_false (show ¬ x < nI 3 from r)]; rfl
theorem mx_w02 (x : Int32) : pf182 x.toInt64 0 2 = (!decide (x < 0) && decide (x < nI 3)) := by
  have w := mx_wi (x := x) (L := 0) (H := 2) 0 2 rfl rfl
  rw [w]
  congr 1
  by_cases q : x < nI 3
  · rw [decide_eq_true q, decide_eq_false]
    · rfl
    · rw [Int32.lt_iff_toInt_lt, nI_toInt (by omega)] at q
      rw [Int32.lt_iff_toInt_lt]
      show ¬ (2 : Int) < _
      omega
  · rw [decide_eq_false q, decide_eq_true]
    · rfl
    · rw [Int32.lt_iff_toInt_lt, nI_toInt (by omega)] at q
      rw [Int32.lt_iff_toInt_lt]
      show (2 : Int) < _
      omega
theorem mx_r3 {x : Int32} (h : (!decide (x < 0) && decide (x < nI 3)) = true) : ∃ j, j < 3 ∧ x = nI j := by
  simp only [Bool.and_eq_true, Bool.not_eq_true', decide_eq_false_iff_not, decide_eq_true_eq] at h
  obtain ⟨j, hj, rfl⟩ := nI_of h.1
  rw [nI_ltI hj (by omega)] at h
  exact ⟨j, h.2, rfl⟩
theorem mx_306 {a b : Nat} (ha : a < 2 ^ 31) (hb : b < 2 ^ 31) : pf306 (nI a) (nI b) = if b < a then 1 else if a < b then -1 else 0 := by
  unfold pf306
  by_cases q : a < b
  · rw [if_pos ((nI_ltI ha hb).mpr q), if_neg (by omega), if_pos q]
  · rw [if_neg (fun c => q ((nI_ltI ha hb).mp c))]
    by_cases r : a = b
    · rw [if_pos (by rw [r]), if_neg (by omega), if_neg (by omega)]
    · rw [if_neg (fun c => r ((nI_eq ha hb).mp c)), if_pos (by omega)]
-- beats
def v_beats (V : vw) (x y : Int32) : Int32 := cond ((!decide (x < 0) && decide (x < nI 3)) && (!decide (y < 0) && decide (y < nI 3))) (sp_bt3 (vA V) x.toNatClampNeg y.toNatClampNeg) (-2)
theorem cc147 {E : mv_E} {D k n : Nat} {h : mv_H} {Q : mv_Q} {V : vw} {x y : Int32} (i : InvC E h V) (m : InvM V) (H : ∀ h', InvC E h' V → fCl h h' → Q (some (.int (v_beats V x y))) h') : mv_VE E (D + 2) k n 147 0 [some (.ref 50), some (.int x), some (.int y)] [] h Q := by
  have hH := H h i fCl.rf
  have p8 := m.p8
  have K := i.1.1.1.1.1.2.1
  apply sg147_0
  unfold v_beats at hH
  refine mx_cdb _ (mx_148 x) (fun z1 => ?_) (fun z1 => ?_)
  · refine mx_cdb _ (mx_148 y) (fun z2 => ?_) (fun z2 => ?_)
    · rw [z1, z2] at hH
      obtain ⟨a, ha, rfl⟩ := mx_r3 z1
      obtain ⟨b, hb, rfl⟩ := mx_r3 z2
      rw [nI_clamp (by omega), nI_clamp (by omega)] at hH
      rw [K]
      refine mv_gdI rfl (ct37 a b i.1.1.1.1 m.1.1 ha hb rfl rfl ⟨_, rfl, ?_⟩)
      rw [K]
      refine mv_gdI rfl (ct37 b a i.1.1.1.1 m.1.1 hb ha rfl rfl ⟨_, rfl, ?_⟩)
      have l1 := sp_vf_le m.1.1 a b _ (Nat.le_refl _)
      have l2 := sp_vf_le m.1.1 b a _ (Nat.le_refl _)
      rw [mx_306 (by omega) (by omega)]
      exact hH
    · rw [z2, Bool.and_false] at hH; exact hH
  · rw [z1] at hH; exact hH
theorem cm271 {E : mv_E} {D k n : Nat} {h : mv_H} {Q : mv_Q} {V : vw} {x y : Int32} (e : vw_of h = V) (m : InvM V) (H : ∀ h', fM V h h' → Q (some (.int (v_beats V x y))) h') : mv_VE E (D + 1) k n 271 0 [some (.ref 148), some (.int x), some (.int y)] [] h Q := by
  have f0 := fM.of e
  have hH := H _ f0
  apply sg271_0
  unfold v_beats at hH
  refine mx_cdb _ (mx_w02 x) (fun z1 => ?_) (fun z1 => ?_)
  · refine mx_cdb _ (mx_w02 y) (fun z2 => ?_) (fun z2 => ?_)
    · rw [z1, z2] at hH
      obtain ⟨a, ha, rfl⟩ := mx_r3 z1
      obtain ⟨b, hb, rfl⟩ := mx_r3 z2
      rw [nI_clamp (by omega), nI_clamp (by omega)] at hH
      exact ct272 a b f0 m ha hb rfl rfl ⟨_, rfl, hH⟩
    · rw [z2, Bool.and_false] at hH; exact hH
  · rw [z1] at hH; exact hH
-- island
theorem sp_bt3_1 {A : Nat → Int32} {i j : Nat} : sp_bt3 A i j = 1 ↔ sp_vf A j i (sp_P A) < sp_vf A i j (sp_P A) := by
  unfold sp_bt3
  by_cases q : sp_vf A j i (sp_P A) < sp_vf A i j (sp_P A)
  · rw [if_pos q]; exact ⟨fun _ => q, fun _ => rfl⟩
  · rw [if_neg q]
    refine ⟨fun c => ?_, fun c => absurd c q⟩
    by_cases r : sp_vf A i j (sp_P A) < sp_vf A j i (sp_P A)
    · rw [if_pos r] at c; exact absurd c (by decide)
    · rw [if_neg r] at c; exact absurd c (by decide)
theorem cc151 {E : mv_E} {D k n : Nat} {h : mv_H} {Q : mv_Q} {V : vw} {x : Int32} (j : Nat) (i : InvC0 E h V) (m : InvM V) (hj : j < 3) (e : x = nI j) (H : Q (some (.int (nI (decide (sp_bt3 (vA V) j ((j + 1) % 3) = 1)).toNat))) h) : mv_VE E (D + 2) k n 151 0 [some (.ref 50), some (.int x), none] [] h Q := by
  subst e
  have p8 := m.p8
  have K := i.1.1.1.1.2.1
  have hk := Nat.mod_lt (j + 1) (show 0 < 3 by omega)
  apply sg151_0
  rw [K, nI_1, show nI (j + 1) - nI (j + 1) / (3 : Int32) * 3 = nI ((j + 1) % 3) from pk_rem (d := 3) (by omega) (by omega) (by omega)]
  refine mv_gdI rfl (ct37 j ((j + 1) % 3) i.1.1.1 m.1.1 hj hk rfl rfl ⟨_, rfl, ?_⟩)
  rw [K]
  refine mv_gdI rfl (ct37 ((j + 1) % 3) j i.1.1.1 m.1.1 hk hj rfl rfl ⟨_, rfl, ?_⟩)
  have l1 := sp_vf_le m.1.1 j ((j + 1) % 3) _ (Nat.le_refl _)
  have l2 := sp_vf_le m.1.1 ((j + 1) % 3) j _ (Nat.le_refl _)
  refine mx_lt (sp_vf (vA V) ((j + 1) % 3) j (sp_P (vA V))) (sp_vf (vA V) j ((j + 1) % 3) (sp_P (vA V))) (fun c => ?_) (fun c => ?_) (by omega) (by omega)
  · rw [decide_eq_true (sp_bt3_1.mpr c)] at H; exact H
  · rw [decide_eq_false (fun d => by have := sp_bt3_1.mp d; omega)] at H; exact H
theorem cc152 {E : mv_E} {D k n : Nat} {h : mv_H} {Q : mv_Q} {V : vw} {x : Int32} (j : Nat) (i : InvC0 E h V) (m : InvM V) (hj : j < 3) (e : x = nI j) (H : Q (some (.int (nI (decide (sp_bt3 (vA V) j ((j + 2) % 3) = 1)).toNat))) h) : mv_VE E (D + 2) k n 152 0 [some (.ref 50), some (.int x), none] [] h Q := by
  subst e
  have p8 := m.p8
  have K := i.1.1.1.1.2.1
  have hk := Nat.mod_lt (j + 2) (show 0 < 3 by omega)
  apply sg152_0
  rw [K, show nI j + (2 : Int32) = nI (j + 2) from nI_add j 2, show nI (j + 2) - nI (j + 2) / (3 : Int32) * 3 = nI ((j + 2) % 3) from pk_rem (d := 3) (by omega) (by omega) (by omega)]
  refine mv_gdI rfl (ct37 j ((j + 2) % 3) i.1.1.1 m.1.1 hj hk rfl rfl ⟨_, rfl, ?_⟩)
  rw [K]
  refine mv_gdI rfl (ct37 ((j + 2) % 3) j i.1.1.1 m.1.1 hk hj rfl rfl ⟨_, rfl, ?_⟩)
  have l1 := sp_vf_le m.1.1 j ((j + 2) % 3) _ (Nat.le_refl _)
  have l2 := sp_vf_le m.1.1 ((j + 2) % 3) j _ (Nat.le_refl _)
  refine mx_lt (sp_vf (vA V) ((j + 2) % 3) j (sp_P (vA V))) (sp_vf (vA V) j ((j + 2) % 3) (sp_P (vA V))) (fun c => ?_) (fun c => ?_) (by omega) (by omega)
  · rw [decide_eq_true (sp_bt3_1.mpr c)] at H; exact H
  · rw [decide_eq_false (fun d => by have := sp_bt3_1.mp d; omega)] at H; exact H
theorem mx_ifB {A B : Prop} (b : Bool) (f : b = false → A) (g : b = true → B) : if nI b.toNat = 0 then A else B := by
  cases b with
  | false => rw [if_pos (by rfl)]; exact f rfl
  | true => rw [if_neg (by decide)]; exact g rfl
theorem sp_bt3_n {A : Nat → Int32} {i j : Nat} : sp_bt3 A j i = 1 ↔ sp_bt3 A i j = -1 := by
  rw [sp_bt3_1]
  unfold sp_bt3
  by_cases q : sp_vf A j i (sp_P A) < sp_vf A i j (sp_P A)
  · rw [if_pos q]; exact ⟨fun c => by omega, fun c => absurd c (by decide)⟩
  · rw [if_neg q]
    by_cases r : sp_vf A i j (sp_P A) < sp_vf A j i (sp_P A)
    · rw [if_pos r]; exact ⟨fun _ => rfl, fun _ => r⟩
    · rw [if_neg r]; exact ⟨fun c => absurd c r, fun c => absurd c (by decide)⟩
theorem sp_bt3_c (A : Nat → Int32) (i j : Nat) : sp_bt3 A i j = 1 ∨ sp_bt3 A i j = -1 ∨ sp_bt3 A i j = 0 := by
  unfold sp_bt3
  by_cases q : sp_vf A j i (sp_P A) < sp_vf A i j (sp_P A)
  · rw [if_pos q]; exact Or.inl rfl
  · rw [if_neg q]
    by_cases r : sp_vf A i j (sp_P A) < sp_vf A j i (sp_P A)
    · rw [if_pos r]; exact Or.inr (Or.inl rfl)
    · rw [if_neg r]; exact Or.inr (Or.inr rfl)
def sp_rd (A : Nat → Int32) : Bool := decide (sp_bt3 A 0 1 ≠ 0 ∧ sp_bt3 A 0 1 = sp_bt3 A 1 2 ∧ sp_bt3 A 1 2 = sp_bt3 A 2 0)
theorem sp_rd_is (A : Nat → Int32) : sp_rd A = ((decide (sp_bt3 A 0 1 = 1) && (decide (sp_bt3 A 1 2 = 1) && decide (sp_bt3 A 2 0 = 1))) || (decide (sp_bt3 A 0 2 = 1) && (decide (sp_bt3 A 1 0 = 1) && decide (sp_bt3 A 2 1 = 1)))) := by
  have n1 : decide (sp_bt3 A 0 2 = 1) = decide (sp_bt3 A 2 0 = -1) := decide_eq_decide.mpr sp_bt3_n
  have n2 : decide (sp_bt3 A 1 0 = 1) = decide (sp_bt3 A 0 1 = -1) := decide_eq_decide.mpr sp_bt3_n
  have n3 : decide (sp_bt3 A 2 1 = 1) = decide (sp_bt3 A 1 2 = -1) := decide_eq_decide.mpr sp_bt3_n
  rw [n1, n2, n3]
  unfold sp_rd
  rcases sp_bt3_c A 0 1 with a | a | a <;> rcases sp_bt3_c A 1 2 with b | b | b <;> rcases sp_bt3_c A 2 0 with c | c | c <;> rw [a, b, c] <;> decide
theorem cc150 {E : mv_E} {D k n : Nat} {h : mv_H} {Q : mv_Q} {V : vw} (i : InvC0 E h V) (m : InvM V) (H : Q (some (.int (nI (sp_rd (vA V)).toNat))) h) : mv_VE E (D + 3) k n 150 0 [some (.ref 50), none, none] [] h Q := by
  rw [sp_rd_is] at H
  apply sg150_0
  have c10 := fun {Q : mv_Q} => cc151 (E := E) (D := D) (k := 0) (n := 0) (Q := Q) (x := 0) 0 i m (by omega) rfl
  have c11 := fun {Q : mv_Q} => cc151 (E := E) (D := D) (k := 0) (n := 0) (Q := Q) (x := 1) 1 i m (by omega) rfl
  have c12 := fun {Q : mv_Q} => cc151 (E := E) (D := D) (k := 0) (n := 0) (Q := Q) (x := 2) 2 i m (by omega) rfl
  have c20 := fun {Q : mv_Q} => cc152 (E := E) (D := D) (k := 0) (n := 0) (Q := Q) (x := 0) 0 i m (by omega) rfl
  have c21 := fun {Q : mv_Q} => cc152 (E := E) (D := D) (k := 0) (n := 0) (Q := Q) (x := 1) 1 i m (by omega) rfl
  have c22 := fun {Q : mv_Q} => cc152 (E := E) (D := D) (k := 0) (n := 0) (Q := Q) (x := 2) 2 i m (by omega) rfl
  simp only [show (0 + 1) % 3 = 1 from rfl, show (1 + 1) % 3 = 2 from rfl, show (2 + 1) % 3 = 0 from rfl, show (0 + 2) % 3 = 2 from rfl, show (1 + 2) % 3 = 0 from rfl, show (2 + 2) % 3 = 1 from rfl] at c10 c11 c12 c20 c21 c22
  have dn : ∀ (u : Bool), (Q (some (.int (nI (u || (decide (sp_bt3 (vA V) 0 2 = 1) && (decide (sp_bt3 (vA V) 1 0 = 1) && decide (sp_bt3 (vA V) 2 1 = 1)))).toNat))) h) → u = false → mv_VE E (D + 2) 0 0 152 0 [some (.ref 50), some (.int 0), none] [] h (fun v h3 => ∃ r4, v = some (.int r4) ∧ if r4 = 0 then (Q (some (.int 0)) h3) else (mv_VE E (D + 2) 0 0 152 0 [some (.ref 50), some (.int 1), none] [] h3 (fun v h5 => ∃ r6, v = some (.int r6) ∧ if r6 = 0 then (Q (some (.int 0)) h5) else (mv_VE E (D + 2) 0 0 152 0 [some (.ref 50), some (.int 2), none] [] h5 (fun v h7 => ∃ r8, v = some (.int r8) ∧ if r8 = 0 then (Q (some (.int 0)) h7) else (Q (some (.int 1)) h7)))))) := by
    intro u H hu
    subst hu
    refine c20 ⟨_, rfl, mx_ifB _ (fun z => ?_) (fun z => ?_)⟩
    · rw [z] at H; exact H
    rw [z] at H
    refine c21 ⟨_, rfl, mx_ifB _ (fun z => ?_) (fun z => ?_)⟩
    · rw [z] at H; exact H
    rw [z] at H
    refine c22 ⟨_, rfl, mx_ifB _ (fun z => ?_) (fun z => ?_)⟩
    · rw [z] at H; exact H
    rw [z] at H; exact H
  refine c10 ⟨_, rfl, mx_ifB _ (fun z => ?_) (fun z => ?_)⟩
  · rw [z] at H; exact dn _ H rfl
  rw [z] at H
  refine c11 ⟨_, rfl, mx_ifB _ (fun z => ?_) (fun z => ?_)⟩
  · rw [z] at H; exact dn _ H rfl
  rw [z] at H
  refine c12 ⟨_, rfl, mx_ifB _ (fun z => ?_) (fun z => ?_)⟩
  · rw [z] at H; exact dn _ H rfl
  rw [z] at H
  refine c20 ⟨_, rfl, mx_ifB _ (fun _ => H) (fun _ => ?_)⟩
  refine c21 ⟨_, rfl, mx_ifB _ (fun _ => H) (fun _ => ?_)⟩
  exact c22 ⟨_, rfl, mx_ifB _ (fun _ => H) (fun _ => H)⟩
def sp_isl (A : Nat → Int32) : Int32 := mx_find (fun i => decide (sp_bt3 A i ((i + 1) % 3) = 1) && decide (sp_bt3 A i ((i + 2) % 3) = 1)) 3 0
def v_island (V : vw) (y : Int32) : Int32 := if y = 0 ∨ y = 1 then (if y = 1 then nI (sp_rd (vA V)).toNat else sp_isl (vA V)) else -2
theorem cc149 {E : mv_E} {D k n : Nat} {h : mv_H} {Q : mv_Q} {V : vw} {y : Int32} (i : InvC E h V) (m : InvM V) (H : ∀ h', InvC E h' V → fCl h h' → Q (some (.int (v_island V y))) h') : mv_VE E (D + 4) k n 149 0 [some (.ref 50), some (.int y), none] [] h Q := by
  have hH := H h i fCl.rf
  apply sg149_0
  unfold v_island at hH
  refine mx_cdb _ (mx_128 y) (fun z2 => ?_) (fun z2 => ?_)
  · rw [if_pos (of_decide_eq_true z2)] at hH
    refine mx_if (fun q => ?_) (fun q => ?_)
    · rw [if_pos q] at hH
      refine cc150 i.1 m ⟨_, rfl, mx_ifB _ (fun z => ?_) (fun z => ?_)⟩
      · rw [z] at hH; exact hH
      · rw [z] at hH; exact hH
    · rw [if_neg q] at hH
      have key : ∀ g j, j + g = 3 → Q (some (.int (mx_find (fun i => decide (sp_bt3 (vA V) i ((i + 1) % 3) = 1) && decide (sp_bt3 (vA V) i ((i + 2) % 3) = 1)) g j))) h → mv_VE E (D + 4) k n 149 30 [some (.ref 50), none, some (.int (nI j))] [] h Q := by
        intro g
        induction g with
        | zero =>
          intro j hj H
          apply sg149_30
          exact mx_ltF j 3 (by omega) H (by omega)
        | succ g ih =>
          intro j hj H
          unfold mx_find at H
          apply sg149_30
          rw [nI_1]
          refine mx_ltT j 3 (by omega) ?_ (by omega)
          refine cc151 j i.1 m (by omega) rfl ⟨_, rfl, mx_ifB _ (fun z => ?_) (fun z => ?_)⟩
          · rw [z, Bool.false_and, if_neg (by decide)] at H
            exact ih (j + 1) (by omega) H
          · rw [z, Bool.true_and] at H
            refine cc152 j i.1 m (by omega) rfl ⟨_, rfl, mx_ifB _ (fun z => ?_) (fun z => ?_)⟩
            · rw [z, if_neg (by decide)] at H
              exact ih (j + 1) (by omega) H
            · rw [z, if_pos rfl] at H
              exact H
      exact key 3 0 rfl hH
  · rw [if_neg (of_decide_eq_false z2)] at hH; exact hH
theorem cm273 {E : mv_E} {D k n : Nat} {h : mv_H} {Q : mv_Q} {V : vw} {y : Int32} (e : vw_of h = V) (m : InvM V) (H : ∀ h', fM V h h' → Q (some (.int (v_island V y))) h') : mv_VE E (D + 1) k n 273 0 [some (.ref 148), some (.int y), none] [] h Q := by
  have f0 := fM.of e
  have hH := H _ f0
  apply sg273_0
  unfold v_island at hH
  refine mx_cdb _ (mx_w01 y) (fun z2 => ?_) (fun z2 => ?_)
  · rw [if_pos (of_decide_eq_true z2)] at hH
    refine mx_if (fun q => ?_) (fun q => ?_)
    · rw [if_pos q] at hH
      unfold sp_rd at hH
      refine ct272 0 1 f0 m (by omega) (by omega) rfl rfl ⟨_, rfl, mx_if (fun a => ?_) (fun a => ?_)⟩
      · rw [decide_eq_false (fun c => c.1 a)] at hH; exact hH
      refine ct272 0 1 f0 m (by omega) (by omega) rfl rfl ⟨_, rfl, ?_⟩
      refine ct272 1 2 f0 m (by omega) (by omega) rfl rfl ⟨_, rfl, mx_if (fun b => ?_) (fun b => ?_)⟩
      · refine ct272 1 2 f0 m (by omega) (by omega) rfl rfl ⟨_, rfl, ?_⟩
        refine ct272 2 0 f0 m (by omega) (by omega) rfl rfl ⟨_, rfl, mx_if (fun c => ?_) (fun c => ?_)⟩
        · rw [decide_eq_true ⟨a, b, c⟩] at hH; exact hH
        · rw [decide_eq_false (fun d => c d.2.2)] at hH; exact hH
      · rw [decide_eq_false (fun d => b d.2.1)] at hH; exact hH
    · rw [if_neg q] at hH
      have key : ∀ g j, j + g = 3 → Q (some (.int (mx_find (fun i => decide (sp_bt3 (vA V) i ((i + 1) % 3) = 1) && decide (sp_bt3 (vA V) i ((i + 2) % 3) = 1)) g j))) (mv_sI h 148 0 0) → mv_VE E (D + 1) k n 273 74 [some (.ref 148), none, some (.int (nI j))] [] (mv_sI h 148 0 0) Q := by
        intro g
        induction g with
        | zero =>
          intro j hj H
          apply sg273_74
          exact mx_ltF j 3 (by omega) H (by omega)
        | succ g ih =>
          intro j hj H
          unfold mx_find at H
          have k1 := Nat.mod_lt (j + 1) (show 0 < 3 by omega)
          have k2 := Nat.mod_lt (j + 2) (show 0 < 3 by omega)
          apply sg273_74
          rw [nI_1, show nI (j + 1) - nI (j + 1) / (3 : Int32) * 3 = nI ((j + 1) % 3) from pk_rem (d := 3) (by omega) (by omega) (by omega), show nI j + (2 : Int32) = nI (j + 2) from nI_add j 2, show nI (j + 2) - nI (j + 2) / (3 : Int32) * 3 = nI ((j + 2) % 3) from pk_rem (d := 3) (by omega) (by omega) (by omega)]
          refine mx_ltT j 3 (by omega) ?_ (by omega)
          refine ct272 j _ f0 m (by omega) k1 rfl rfl ⟨_, rfl, mx_if (fun a => ?_) (fun a => ?_)⟩
          · rw [decide_eq_true a, Bool.true_and] at H
            refine ct272 j _ f0 m (by omega) k2 rfl rfl ⟨_, rfl, mx_if (fun b => ?_) (fun b => ?_)⟩
            · rw [decide_eq_true b, if_pos rfl] at H; exact H
            · rw [decide_eq_false b, if_neg (by decide)] at H; exact ih (j + 1) (by omega) H
          · rw [decide_eq_false a, Bool.false_and, if_neg (by decide)] at H
            exact ih (j + 1) (by omega) H
      exact key 3 0 rfl hH
  · rw [if_neg (of_decide_eq_false z2)] at hH; exact hH
