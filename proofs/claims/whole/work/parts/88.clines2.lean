/-! How the class reads lines: holders, pairs, storms. -/
def cmap (k c j : Nat) : Prop := (c = 0 ∧ ((k = 2 ∧ j = 1) ∨ (k = 74 ∧ j = 3) ∨ (k = 65 ∧ j = 4) ∨ (k = 76 ∧ j = 13))) ∨ (c = 1 ∧ j < 8 ∧ k = 66 + j) ∨ (c = 2 ∧ j < 8 ∧ k = 9 + j) ∨ (c = 3 ∧ j < 8 ∧ k = 17 + j) ∨ (c = 4 ∧ j < 24 ∧ k = 41 + j) ∨ (c = 5 ∧ j < 8 ∧ k = 25 + j) ∨ (c = 6 ∧ j < 8 ∧ k = 33 + j)
theorem cXv_of {h : mv_H} {r : Nat} {F : Nat → Int32} (H : ∀ k c j, cmap k c j → mv_I h (r + c) j = F k) : cXv h r F := ⟨H 2 0 1 (by unfold cmap; omega), H 74 0 3 (by unfold cmap; omega), H 65 0 4 (by unfold cmap; omega), fun p hp => H _ 1 p (by unfold cmap; omega), fun p hp => H _ 2 p (by unfold cmap; omega), fun p hp => H _ 3 p (by unfold cmap; omega), fun p hp => H _ 4 p (by unfold cmap; omega), fun p hp => H _ 5 p (by unfold cmap; omega), fun p hp => H _ 6 p (by unfold cmap; omega), H 76 0 13 (by unfold cmap; omega)⟩
theorem cXv.at {h : mv_H} {r : Nat} {F : Nat → Int32} (c : cXv h r F) {k d j : Nat} (q : cmap k d j) : mv_I h (r + d) j = F k := by
  obtain ⟨c1, c2, c3, c4, c5, c6, c7, c8, c9, c10⟩ := c
  rcases q with ⟨a, ⟨x, y⟩ | ⟨x, y⟩ | ⟨x, y⟩ | ⟨x, y⟩⟩ | ⟨a, x, y⟩ | ⟨a, x, y⟩ | ⟨a, x, y⟩ | ⟨a, x, y⟩ | ⟨a, x, y⟩ | ⟨a, x, y⟩ <;> subst a <;> subst y
  · subst x; exact c1
  · subst x; exact c2
  · subst x; exact c3
  · subst x; exact c10
  · exact c4 j x
  · exact c5 j x
  · exact c6 j x
  · exact c7 j x
  · exact c8 j x
  · exact c9 j x
theorem cmap_b {k c j : Nat} (h : cmap k c j) : c ≤ 6 ∧ (k = 2 ∨ (9 ≤ k ∧ k ≤ 76)) := by unfold cmap at h; omega
theorem cmap_i {k c j k' c' j' : Nat} (h : cmap k c j) (h' : cmap k' c' j') : (k = k' → c = c' ∧ j = j') ∧ (c = c' → j = j' → k = k') := by
  unfold cmap at h h'
  rcases h with h | h | h | h | h | h | h <;> rcases h' with h' | h' | h' | h' | h' | h' | h' <;> omega
theorem cX.g {E : mv_E} {h : mv_H} {r c j : Nat} {x : Int32} {F F' : Nat → Int32} (q : cX E h r F) (hc : c ≤ 6) (v : cXv (mv_sI h (r + c) j x) r F') (e : ∀ k, (3 ≤ k ∧ k ≤ 8) ∨ 188 ≤ k → F' k = F k) : cX E (mv_sI h (r + c) j x) r F' := by
  obtain ⟨c1, c2, c3, -, c5, c6, c7, c8, c9⟩ := q
  have f : mx_fr (fun _ _ => true) h (mv_sI h (r + c) j x) := mx_fr.sI rfl
  have lw : ∀ l, l < 2 → cLx E h r F l → cLx E (mv_sI h (r + c) j x) r F' l := fun l hl q => by
    unfold cLx at q ⊢
    rw [f.R E]
    obtain ⟨L, q1, q2, q3, q4⟩ := q
    refine ⟨L, by rw [f.K E]; exact q1, q2, q3, ?_⟩
    have eN : sp_N F' l = sp_N F l := by unfold sp_N; rw [e _ (by omega)]
    have eC : ∀ i, sp_C F' l i = sp_C F l i := fun i => by unfold sp_C sp_F; rw [e _ (by omega), e _ (by omega)]
    rw [e _ (by omega), eN]
    rcases q4 with q4 | ⟨a, b, d⟩
    · exact Or.inl q4
    · exact Or.inr ⟨a, b, fun i hi => by rw [mx_InE (by omega), eC]; exact d i hi⟩
  refine ⟨c1, c2, ?_, v, lw 0 (by omega) c5, lw 1 (by omega) c6, fun a h1 h2 => by rw [f.K E]; exact c7 a h1 h2, by rw [mx_InE (by omega)]; exact c8, by rw [mx_InE (by omega)]; exact c9⟩
  unfold cr_sh at c3 ⊢
  simp only [f.K E, f.R E]
  exact c3
theorem cX.wk {E : mv_E} {h : mv_H} {r k c j : Nat} {x : Int32} {F : Nat → Int32} (q : cX E h r F) (m : cmap k c j) : cX E (mv_sI h (r + c) j x) r (mx_upA F k x) := by
  have b := cmap_b m
  refine q.g b.1 (cXv_of (fun k' c' j' m' => ?_)) (fun i hi => upA_n (by omega))
  have inj := cmap_i m m'
  rw [mx_upI]
  unfold mx_upA
  by_cases z : k' = k
  · have := inj.1 z.symm
    rw [if_pos ⟨by omega, this.2.symm⟩, if_pos z]
  · rw [if_neg (fun y => z (inj.2 (by omega) y.2.symm).symm), if_neg z]
    exact q.2.2.2.1.at m'
theorem cX.w0 {E : mv_E} {h : mv_H} {r j : Nat} {x : Int32} {F : Nat → Int32} (q : cX E h r F) (hj : j = 0 ∨ j = 2) : cX E (mv_sI h r j x) r F := by
  refine q.g (c := 0) (by omega) (cXv_of (fun k' c' j' m' => ?_)) (fun _ _ => rfl)
  have := m'
  unfold cmap at this
  rw [mx_upI, if_neg (by omega)]
  exact q.2.2.2.1.at m'
/-- people and lines are not in cX -/
theorem cX.p {E : mv_E} {h : mv_H} {r : Nat} {F F' : Nat → Int32} (q : cX E h r F) (e : ∀ k, k ≠ 0 → k ≠ 1 → F' k = F k) : cX E h r F' := by
  have := q.g (c := 0) (j := 0) (x := mv_I h r 0) (F' := F') (by omega)
  obtain ⟨c1, c2, c3, c4, c5, c6, c7, c8, c9⟩ := q
  have lw : ∀ l, l < 2 → cLx E h r F l → cLx E h r F' l := fun l hl q => by
    unfold cLx at q ⊢
    obtain ⟨L, q1, q2, q3, q4⟩ := q
    refine ⟨L, q1, q2, q3, ?_⟩
    have eN : sp_N F' l = sp_N F l := by unfold sp_N; rw [e _ (by omega) (by omega)]
    have eC : ∀ i, sp_C F' l i = sp_C F l i := fun i => by unfold sp_C sp_F; rw [e _ (by omega) (by omega), e _ (by omega) (by omega)]
    rw [e _ (by omega) (by omega), eN]
    rcases q4 with q4 | ⟨a, b, d⟩
    · exact Or.inl q4
    · exact Or.inr ⟨a, b, fun i hi => by rw [eC]; exact d i hi⟩
  exact ⟨c1, c2, c3, cXv_of (fun k' c' j' m' => by have b := cmap_b m'; rw [e _ (by omega) (by omega)]; exact c4.at m'), lw 0 (by omega) c5, lw 1 (by omega) c6, c7, c8, c9⟩
def S44 (r a k : Nat) : Bool := S42e a k || (Nat.ble r a && Nat.ble a (r + 6))
theorem f44e {r : Nat} {h h' : mv_H} (f : mx_fr S42e h h') : mx_fr (S44 r) h h' := f.to (fun _ _ q => (Bool.or_eq_false_iff.mp q).1)
theorem f44 {r : Nat} {h h' : mv_H} (f : mx_fr S43 h h') : mx_fr (S44 r) h h' := f44e (fre f)
theorem f44w {r c k : Nat} {x : Int32} {h : mv_H} (hc : c ≤ 6) : mx_fr (S44 r) h (mv_sI h (r + c) k x) := mx_fr.sI (by
  unfold S44
  rw [Nat.ble_eq_true_of_le (show r ≤ r + c by omega), Nat.ble_eq_true_of_le (show r + c ≤ r + 6 by omega)]
  exact Bool.or_true _)
theorem cK.wr {B : Nat → Nat} {N i a k : Nat} {x : Int32} {h : mv_H} (c : cK B N i h) (ha : 165 ≤ a) : cK B N i (mv_sI h a k x) := by
  have fr : mx_fr (fun b _ => Nat.beq b a) h (mv_sI h a k x) := mx_fr.sI (mv_beq a)
  exact ⟨c.1.fr fr ⟨mv_bne (by omega), mv_bne (by omega)⟩ (fun _ => ⟨mv_bne (by omega), mv_bne (by omega), mv_bne (by omega)⟩), by rw [mx_InE (by omega)]; exact c.2.1, c.2.2⟩
theorem lflag_1 {B : Nat → Nat} {N p : Nat} (hp : p < 8) : ∀ {f i i' : Nat} {F F' : Nat → Int32}, lflag B N p f i F = .inr (i', F') → F' 1 = F 1 ∧ i ≤ i' := by
  intro f
  induction f with
  | zero => intro i i' F F' e; cases e; exact ⟨rfl, Nat.le_refl _⟩
  | succ f ih =>
    intro i i' F F' e
    rw [lflag_s] at e
    split at e
    · have := ih e; exact ⟨by rw [this.1, upA_n (by omega)], by omega⟩
    · split at e
      · obtain ⟨-, -, e⟩ := lnum_i e
        have := ih e; exact ⟨by rw [this.1, upA_n (by omega)], by omega⟩
      · split at e
        · obtain ⟨-, -, e⟩ := lnum_i e
          obtain ⟨-, -, e⟩ := lnum_i e
          obtain ⟨-, -, e⟩ := lnum_i e
          have := ih e; exact ⟨by rw [this.1, upA_n (by omega), upA_n (by omega), upA_n (by omega)], by omega⟩
        · cases e; exact ⟨rfl, Nat.le_refl _⟩
theorem ck_f : ∀ m, m < 42 → pf45 (nI (ck m)) = (decide (m = 5) || decide (m = 6) || decide (m = 7)) ∧ (nI (ck m) = 134 ↔ m = 5) ∧ (nI (ck m) = 135 ↔ m = 6) := by decide +kernel
/-- one flag -/
theorem ct46 {E : mv_E} {D k n : Nat} {h : mv_H} {Q : mv_Q} {B : Nat → Nat} {N i p f r : Nat} {F : Nat → Int32} (hN : N ≤ 900) (hp : p < 8) (hk : tK B N i = 5 ∨ tK B N i = 6 ∨ tK B N i = 7) (t : cK B N i h) (q : cX E h r F) (H1 : ∀ i' F' h', lflag B N p (f + 1) i F = lflag B N p f i' F' → i < i' → mx_fr (S44 r) h h' → cK B N i' h' → cX E h' r F' → mv_I h' r 0 = mv_I h r 0 → mv_I h' r 2 = mv_I h r 2 → F' 1 = F 1 → Q (some (.int 1)) h') (H0 : ∀ g i' h', lflag B N p (f + 1) i F = .inl (g, i') → mx_fr (S44 r) h h' → cEr B N g i' h' → Q (some (.int 0)) h') : mv_VE E (D + 4) k n 46 0 [some (.ref 52), some (.int (nI p)), none, none] [] h Q := by
  have un := lflag_s (B := B) (N := N) (p := p) (f := f) (i := i) (F := F)
  have k41 := tK_41 B N i
  obtain ⟨-, q5, q6⟩ := ck_f (tK B N i) (by omega)
  have r165 := q.1
  have row : ∀ (g : mv_H) (G : Nat → Int32), cX E g r G → mv_R g 52 2 = r ∧ mv_KE E g r = (3, 16) ∧ (mv_RE E g r 7 = r + 3 ∧ mv_KE E g (r + 3) = (20, 8)) ∧ (mv_RE E g r 8 = r + 4 ∧ mv_KE E g (r + 4) = (20, 24)) := fun g G z => ⟨z.2.1, z.2.2.1.2.1, z.2.2.1.2.2.2.2.1, z.2.2.1.2.2.2.2.2.1⟩
  have keep : ∀ (g g' : mv_H) (j : Nat), mx_fr S43 g g' → mv_I g' r j = mv_I g r j := fun g g' j z => z.2.2.1 r j (S43f (by omega))
  apply sg46_0
  refine ct81 hN t ⟨_, rfl, ct83 hN t (by omega) (fun h1 f1 t1 => ⟨rfl, ?_⟩)⟩
  have q1 := q.f (f43 f1)
  refine mx_if (fun y => ?_) (fun y => mx_if (fun z => ?_) (fun z => ?_))
  · obtain ⟨w1, w2, -⟩ := row h1 F q1
    rw [w1, w2, q1.2.2.2.1.2.2.1]
    refine mv_gdI rfl (mv_gdI rfl (H1 (i + 1) _ _ (by rw [un, if_pos (q5.mp y)]) (by omega) ((f44 (f43 f1)).tr (f44w (c := 0) (by omega))) (t1.wr (by omega)) (q1.wk (c := 0) (k := 65) (j := 4) (by unfold cmap; omega)) ?_ ?_ (upA_n (by omega))))
    · rw [mx_Isk (by omega)]; exact keep _ _ _ (f43 f1)
    · rw [mx_Isk (by omega)]; exact keep _ _ _ (f43 f1)
  · have n5 : tK B N i ≠ 5 := fun e => y (q5.mpr e)
    rw [if_neg n5, if_pos (q6.mp z)] at un
    refine ct43 (D := D + 1) 0 10 rfl rfl (by omega) (by omega) hN t1 (fun a l1 l2 h2 f2 t2 g2 => ⟨_, rfl, ?_⟩) (fun g h2 f2 m2 s2 => ⟨_, rfl, ?_⟩)
    · have q2 := q1.f f2
      obtain ⟨w1, w2, ⟨w3, w4⟩, -⟩ := row h2 F q2
      rw [if_neg (by decide), w1, w2, w3, w4, nI_clamp (by omega), g2]
      refine mv_gdI rfl (mv_gdI (mx_inT p (by omega) (by omega)) (H1 (i + 1 + 1) _ _ (by rw [un]; exact lnum_t a ⟨l1, l2⟩) (by omega) ((f44 ((f43 f1).tr f2)).tr (f44w (c := 3) (by omega))) (t2.wr (by omega)) (q2.wk (c := 3) (k := 17 + p) (j := p) (by unfold cmap; omega)) ?_ ?_ (upA_n (by omega))))
      · rw [mx_InE (by omega)]; exact keep _ _ _ ((f43 f1).tr f2)
      · rw [mx_InE (by omega)]; exact keep _ _ _ ((f43 f1).tr f2)
    · rw [if_pos rfl]
      exact H0 g (i + 1) h2 (by rw [un]; exact s2 _) ((f44 (f43 f1)).tr (f44e f2)) m2
  · have n5 : tK B N i ≠ 5 := fun e => y (q5.mpr e)
    have n6 : tK B N i ≠ 6 := fun e => z (q6.mpr e)
    rw [if_neg n5, if_neg n6, if_pos (by omega)] at un
    have ix : ∀ c : Nat, nI p * 3 + nI c = nI (3 * p + c) := fun c => by
      rw [show (3 : Int32) = nI 3 from rfl, show nI p * nI 3 = nI (p * 3) from (Int32.ofNat_mul p 3).symm, nI_add, Nat.mul_comm]
    have ix0 : nI p * 3 + 0 = nI (3 * p) := ix 0
    have ix1 : nI p * 3 + nI (0 + 1) = nI (3 * p + 1) := ix 1
    have ix2 : nI p * 3 + nI (0 + 1 + 1) = nI (3 * p + 2) := ix 2
    apply sg46_77
    rw [if_pos (by decide)]
    refine ct43 (D := D + 1) 0 10 rfl rfl (by omega) (by omega) hN t1 (fun a l1 l2 h2 f2 t2 g2 => ⟨_, rfl, ?_⟩) (fun g h2 f2 m2 s2 => ⟨_, rfl, ?_⟩)
    · have q2 := q1.f f2
      obtain ⟨w1, w2, -, ⟨w3, w4⟩⟩ := row h2 F q2
      rw [if_neg (by decide), w1, w2, w3, w4, ix0, nI_clamp (by omega), g2, show (0 : Int32) + 1 = nI (0 + 1) from rfl]
      refine mv_gdI rfl (mv_gdI (mx_inT (3 * p) (by omega) (by omega)) ?_)
      have Q2 := q2.wk (c := 4) (k := 41 + 3 * p) (j := 3 * p) (x := nI (tN B N (i + 1))) (by unfold cmap; omega)
      have T2 := t2.wr (a := r + 4) (k := 3 * p) (x := nI (tN B N (i + 1))) (by omega)
      have F2 := (f44 (r := r) ((f43 f1).tr f2)).tr (f44w (r := r) (c := 4) (k := 3 * p) (x := nI (tN B N (i + 1))) (by omega))
      have I2 : ∀ j, mv_I (mv_sI h2 (r + 4) (3 * p) (nI (tN B N (i + 1)))) r j = mv_I h r j := fun j => by rw [mx_InE (by omega)]; exact keep _ _ _ ((f43 f1).tr f2)
      apply sg46_77
      rw [if_pos (by decide)]
      refine ct43 (D := D + 1) 0 10 rfl rfl (by omega) (by omega) hN T2 (fun a' l1' l2' h3 f3 t3 g3 => ⟨_, rfl, ?_⟩) (fun g h3 f3 m3 s3 => ⟨_, rfl, ?_⟩)
      · have q3 := Q2.f f3
        obtain ⟨w1, w2, -, ⟨w3, w4⟩⟩ := row h3 _ q3
        rw [if_neg (by decide), w1, w2, w3, w4, ix1, nI_clamp (by omega), g3, nI_1 (0 + 1)]
        refine mv_gdI rfl (mv_gdI (mx_inT (3 * p + 1) (by omega) (by omega)) ?_)
        have Q3 := q3.wk (c := 4) (k := 41 + 3 * p + 1) (j := 3 * p + 1) (x := nI (tN B N (i + 1 + 1))) (by unfold cmap; omega)
        have T3 := t3.wr (a := r + 4) (k := 3 * p + 1) (x := nI (tN B N (i + 1 + 1))) (by omega)
        have F3 := (F2.tr (f44 f3)).tr (f44w (r := r) (c := 4) (k := 3 * p + 1) (x := nI (tN B N (i + 1 + 1))) (by omega))
        have I3 : ∀ j, mv_I (mv_sI h3 (r + 4) (3 * p + 1) (nI (tN B N (i + 1 + 1)))) r j = mv_I h r j := fun j => by rw [mx_InE (by omega), keep _ _ _ f3, I2]
        apply sg46_77
        rw [if_pos (by decide)]
        refine ct43 (D := D + 1) 0 10 rfl rfl (by omega) (by omega) hN T3 (fun a'' l1'' l2'' h4 f4 t4 g4 => ⟨_, rfl, ?_⟩) (fun g h4 f4 m4 s4 => ⟨_, rfl, ?_⟩)
        · have q4 := Q3.f f4
          obtain ⟨w1, w2, -, ⟨w3, w4⟩⟩ := row h4 _ q4
          rw [if_neg (by decide), w1, w2, w3, w4, ix2, nI_clamp (by omega), g4]
          refine mv_gdI rfl (mv_gdI (mx_inT (3 * p + 2) (by omega) (by omega)) ?_)
          apply sg46_77
          rw [if_neg (by decide)]
          refine H1 (i + 1 + 1 + 1 + 1) _ _ ?_ (by omega) ((F3.tr (f44 f4)).tr (f44w (r := r) (c := 4) (by omega))) (t4.wr (by omega)) (q4.wk (c := 4) (k := 41 + 3 * p + 2) (j := 3 * p + 2) (by unfold cmap; omega)) ?_ ?_ (by rw [upA_n (by omega), upA_n (by omega), upA_n (by omega)])
          · rw [un]
            exact (lnum_t a ⟨l1, l2⟩).trans ((lnum_t a' ⟨l1', l2'⟩).trans (lnum_t a'' ⟨l1'', l2''⟩))
          · rw [mx_InE (by omega), keep _ _ _ f4, I3]
          · rw [mx_InE (by omega), keep _ _ _ f4, I3]
        · rw [if_pos rfl]
          exact H0 g _ h4 (by rw [un]; exact (lnum_t a ⟨l1, l2⟩).trans ((lnum_t a' ⟨l1', l2'⟩).trans (s4 _))) (F3.tr (f44e f4)) m4
      · rw [if_pos rfl]
        exact H0 g _ h3 (by rw [un]; exact (lnum_t a ⟨l1, l2⟩).trans (s3 _)) (F2.tr (f44e f3)) m3
    · rw [if_pos rfl]
      exact H0 g (i + 1) h2 (by rw [un]; exact s2 _) ((f44 (f43 f1)).tr (f44e f2)) m2
