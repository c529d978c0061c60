/-! How the class reads lines: whole lines but laws. -/
def cPl (E : mv_E) (B : Nat → Nat) (N i r : Nat) (sp : LR) (h : mv_H) (Q : mv_Q) : Prop := (∀ i' F' h', sp = .inr (i', F') → i ≤ i' → mx_fr (S44 r) h h' → cK B N i' h' → cX E h' r F' → mv_I h' r 0 = F' 1 → mv_I h' r 2 = mv_I h r 2 → Q (some (.int 1)) h') ∧ (∀ f i' h', sp = .inl (f, i') → mx_fr (S44 r) h h' → cEr B N f i' h' → Q (some (.int 0)) h')
theorem crow {E : mv_E} {h : mv_H} {r : Nat} {F : Nat → Int32} (z : cX E h r F) : mv_R h 52 2 = r ∧ mv_KE E h r = (3, 16) ∧ (mv_RE E h r 5 = r + 1 ∧ mv_KE E h (r + 1) = (20, 8)) ∧ (mv_RE E h r 6 = r + 2 ∧ mv_KE E h (r + 2) = (20, 8)) ∧ (mv_RE E h r 7 = r + 3 ∧ mv_KE E h (r + 3) = (20, 8)) ∧ (mv_RE E h r 9 = r + 5 ∧ mv_KE E h (r + 5) = (20, 8)) ∧ (mv_RE E h r 10 = r + 6 ∧ mv_KE E h (r + 6) = (20, 8)) := ⟨z.2.1, z.2.2.1.2.1, z.2.2.1.2.2.1, z.2.2.1.2.2.2.1, z.2.2.1.2.2.2.2.1, z.2.2.1.2.2.2.2.2.2.1, z.2.2.1.2.2.2.2.2.2.2.1⟩
theorem ct44l {E : mv_E} {D k n : Nat} {h0 : mv_H} {Q : mv_Q} {B : Nat → Nat} {N i0 p r : Nat} {sp : LR} (hN : N ≤ 900) (hp : p < 8) (H : cPl E B N i0 r sp h0 Q) : ∀ f i c h G, tT B N + 1 - i ≤ f → i0 ≤ i → c ≤ i → mx_fr (S44 r) h0 h → cK B N i h → cX E h r G → mv_I h r 0 = G 1 + 1 → mv_I h r 2 = mv_I h0 r 2 → sp = lbind (lflag B N p f i G) (fun i F => .inr (i, mx_upA F 1 (F 1 + 1))) → mv_VE E (D + 5) k n 44 137 [some (.ref 52), some (.int (nI p)), some (.int (nI c))] [] h Q := by
  intro f
  induction f with
  | zero => intro i c h G hf _ _ _ t; exact absurd t.2.2 (by omega)
  | succ f ih =>
    intro i c h G hf ii ci fr t q p0 p2 e
    have k41 := tK_41 B N i
    have T9 := (tT_lt B N).1
    have Z9 := tZ_ge B N
    have iT := t.2.2
    have fin : ¬ (tK B N i = 5 ∨ tK B N i = 6 ∨ tK B N i = 7) → Q (some (.int 1)) h := fun z => by
      refine H.1 i (mx_upA G 1 (G 1 + 1)) h ?_ ii fr t (q.p (fun k a b => upA_n b)) (by rw [upA_s]; exact p0) p2
      rw [e, lflag_s, if_neg (by omega), if_neg (by omega), if_neg (by omega)]; rfl
    apply sg44_137
    rw [t.1.2.1]
    refine mx_lt c (tZ B N) (fun y => ct81 hN t ⟨_, rfl, ?_⟩) (fun y => fin ?_) (by omega) (by omega)
    · rw [(ck_f (tK B N i) (by omega)).1]
      by_cases z : tK B N i = 5 ∨ tK B N i = 6 ∨ tK B N i = 7
      · have w : (decide (tK B N i = 5) || decide (tK B N i = 6) || decide (tK B N i = 7)) = true := by simpa [or_assoc] using z
        rw [w, cond_true]
        refine ct46 (D := D) (f := f) hN hp z t q (fun i' F' h' e' l' f' t' q' a0 a2 g1 => ⟨_, rfl, ?_⟩) (fun g i' h' e' f' m' => ⟨_, rfl, ?_⟩)
        · rw [if_neg (by decide), nI_1]
          exact ih i' (c + 1) h' F' (by omega) (by omega) (by omega) (fr.tr f') t' q' (by rw [a0, p0, g1]) (by rw [a2, p2]) (by rw [e, e'])
        · rw [if_pos rfl]
          exact H.2 g i' h' (by rw [e, e']; rfl) (fr.tr f') m'
      · have w : (decide (tK B N i = 5) || decide (tK B N i = 6) || decide (tK B N i = 7)) = false := by
          rw [decide_eq_false (by omega), decide_eq_false (by omega), decide_eq_false (by omega)]; rfl
        rw [w]
        exact fin z
    · have := cK_z iT (show ¬ i < tZ B N by omega)
      omega
theorem ct44 {E : mv_E} {D k n : Nat} {h : mv_H} {Q : mv_Q} {B : Nat → Nat} {N i r P : Nat} {F : Nat → Int32} (hN : N ≤ 900) (hk : tK B N i = 2) (hP : P ≤ 8) (e1 : F 1 = nI P) (t : cK B N i h) (q : cX E h r F) (p0 : mv_I h r 0 = F 1) (H : cPl E B N i r (lhold B N i F) h Q) : mv_VE E (D + 5) k n 44 0 [some (.ref 52), none, none] [] h Q := by
  have r165 := q.1
  have keep : ∀ (g g' : mv_H) (j : Nat), mx_fr S43 g g' → mv_I g' r j = mv_I g r j := fun g g' j z => z.2.2.1 r j (S43f (by omega))
  obtain ⟨w1, w2, -⟩ := crow q
  apply sg44_0
  rw [w1, w2, p0, e1]
  refine mv_gdI rfl (mx_lt P 8 (fun y => ?_) (fun y => ?_) (by omega) (by omega))
  · have un : lhold B N i F = lpass B N 3 (i + 1) (fun i => lnum B N 0 10 i (fun b i => lpass B N 4 i (fun i => lnum B N 0 10 i (fun w i => lbind (lflag B N P (tT B N + 1 - i) i (lhF F P b w)) (fun i F => .inr (i, mx_upA F 1 (F 1 + 1))))))) := by
      unfold lhold
      rw [e1, nI_clamp (by omega), if_neg (show ¬ nI P = 8 from fun c => absurd ((nI_eq (a := P) (b := 8) (by omega) (by omega)).mp c) (by omega))]
    refine ct83 hN t (by omega) (fun h1 f1 t1 => ⟨rfl, ct41 (D := D + 2) 3 rfl (by omega) (by decide) (by omega) hN t1 (fun y3 h2 f2 t2 => ⟨_, rfl, ?_⟩) (fun y3 h2 f2 m2 => ⟨_, rfl, ?_⟩)⟩)
    · rw [if_neg (by decide)]
      refine ct43 (D := D + 2) 0 10 rfl rfl (by omega) (by omega) hN t2 (fun a l1 l2 h3 f3 t3 g3 => ⟨_, rfl, ?_⟩) (fun g h3 f3 m3 s3 => ⟨_, rfl, ?_⟩)
      · have q3 := ((q.f (f43 f1)).f f2).f f3
        have K3 := ((f43 f1).tr f2).tr f3
        obtain ⟨w1, w2, ⟨w3, w4⟩, -⟩ := crow q3
        rw [if_neg (by decide), w1, w2, w3, w4, nI_clamp (by omega), g3]
        refine mv_gdI rfl (mv_gdI (mx_inT P (by omega) (by omega)) ?_)
        have q4 := q3.wk (c := 1) (k := 66 + P) (j := P) (x := nI (tN B N (i + 1 + 1))) (by unfold cmap; omega)
        have F4 := (f44 (r := r) K3).tr (f44w (r := r) (c := 1) (k := P) (x := nI (tN B N (i + 1 + 1))) (by omega))
        refine ct41 (D := D + 2) 4 rfl (by omega) (by decide) (by omega) hN (t3.wr (by omega)) (fun y4 h5 f5 t5 => ⟨_, rfl, ?_⟩) (fun y4 h5 f5 m5 => ⟨_, rfl, ?_⟩)
        · rw [if_neg (by decide)]
          refine ct43 (D := D + 2) 0 10 rfl rfl (by omega) (by omega) hN t5 (fun a' l1' l2' h6 f6 t6 g6 => ⟨_, rfl, ?_⟩) (fun g h6 f6 m6 s6 => ⟨_, rfl, ?_⟩)
          · have q6 := (q4.f f5).f f6
            obtain ⟨v1, v2, -, ⟨v3, v4⟩, ⟨v5, v6⟩, -⟩ := crow q6
            rw [if_neg (by decide), v1, v2, v3, v4, v5, v6, g6]
            refine mv_gdI rfl (mv_gdI (mx_inT P (by omega) (by omega)) (mv_gdI rfl (mv_gdI (mx_inT P (by omega) (by omega)) (mv_gdI rfl (mv_gdI rfl ?_)))))
            have q7 := (q6.wk (c := 2) (k := 9 + P) (j := P) (x := nI (tN B N (i + 1 + 1 + 1 + 1))) (by unfold cmap; omega)).wk (c := 3) (k := 17 + P) (j := P) (x := 1) (by unfold cmap; omega)
            have e65 := q7.2.2.2.1.2.2.1
            rw [upA_n (by omega), upA_n (by omega), upA_n (by omega)] at e65
            rw [e65]
            have q8 : cX E (mv_sI (mv_sI (mv_sI h6 (r + 2) P (nI (tN B N (i + 1 + 1 + 1 + 1)))) (r + 3) P 1) r 4 (F 65 ||| (1 <<< (nI P &&& 31)))) r _ := q7.wk (c := 0) (k := 65) (j := 4) (x := F 65 ||| (1 <<< (nI P &&& 31))) (by unfold cmap; omega)
            obtain ⟨u1, u2, -⟩ := crow q8
            show mv_gd (Nat.beq (mv_KE E (mv_sI _ r 4 _) (mv_R (mv_sI _ r 4 _) 52 2)).1 3) _
            rw [u1, u2]
            refine mv_gdI rfl (mv_gdI rfl ?_)
            have a0 : ∀ j, j ≠ 4 → mv_I (mv_sI (mv_sI (mv_sI h6 (r + 2) P (nI (tN B N (i + 1 + 1 + 1 + 1)))) (r + 3) P 1) r 4 (F 65 ||| (1 <<< (nI P &&& 31)))) r j = mv_I h r j := fun j hj => by
              rw [mx_Isk hj, mx_InE (by omega), mx_InE (by omega), keep _ _ _ f6, keep _ _ _ f5, mx_InE (by omega), keep _ _ _ K3]
            rw [a0 0 (by omega), p0, e1]
            have F9 := ((((F4.tr (f44 (f5.tr f6))).tr (f44w (r := r) (c := 2) (k := P) (x := nI (tN B N (i + 1 + 1 + 1 + 1))) (by omega))).tr (f44w (r := r) (c := 3) (k := P) (x := 1) (by omega))).tr (f44w (r := r) (c := 0) (k := 4) (x := F 65 ||| (1 <<< (nI P &&& 31))) (by omega))).tr (f44w (r := r) (c := 0) (k := 0) (x := nI P + 1) (by omega))
            have eG : mx_upA (mx_upA (mx_upA (mx_upA F (66 + P) (nI (tN B N (i + 1 + 1)))) (9 + P) (nI (tN B N (i + 1 + 1 + 1 + 1)))) (17 + P) 1) 65 (F 65 ||| (1 <<< (nI P &&& 31))) = lhF F P (tN B N (i + 1 + 1)) (tN B N (i + 1 + 1 + 1 + 1)) := by
              funext j
              unfold lhF mx_upA
              by_cases z1 : j = 65
              · rw [if_pos z1, if_neg (by omega), if_pos z1]
              · rw [if_neg z1, if_neg z1]
            rw [eG] at q8
            refine ct44l (h0 := h) hN y H (tT B N + 1 - (i + 1 + 1 + 1 + 1 + 1)) (i + 1 + 1 + 1 + 1 + 1) 0 _ (lhF F P (tN B N (i + 1 + 1)) (tN B N (i + 1 + 1 + 1 + 1))) (Nat.le_refl _) (by omega) (by omega) F9 ((((t6.wr (by omega)).wr (by omega)).wr (by omega)).wr (by omega)) (q8.w0 (by omega)) ?_ ?_ ?_
            · rw [mx_Iss]
              unfold lhF
              rw [upA_n (by omega), upA_n (by omega), upA_n (by omega), upA_n (by omega), e1]
            · rw [mx_Isk (by omega)]; exact a0 2 (by omega)
            · rw [un]
              exact (lpass_t y3).trans ((lnum_t a ⟨l1, l2⟩).trans ((lpass_t y4).trans (lnum_t a' ⟨l1', l2'⟩)))
          · rw [if_pos rfl]
            exact H.2 g _ h6 (by rw [un]; exact (lpass_t y3).trans ((lnum_t a ⟨l1, l2⟩).trans ((lpass_t y4).trans (s6 _)))) ((F4.tr (f44 f5)).tr (f44e f6)) m6
        · rw [if_pos rfl]
          exact H.2 2 _ h5 (by rw [un]; exact (lpass_t y3).trans ((lnum_t a ⟨l1, l2⟩).trans (lpass_f y4))) (F4.tr (f44e f5)) m5
      · rw [if_pos rfl]
        exact H.2 g _ h3 (by rw [un]; exact (lpass_t y3).trans (s3 _)) ((f44 ((f43 f1).tr f2)).tr (f44e f3)) m3
    · rw [if_pos rfl]
      exact H.2 2 _ h2 (by rw [un]; exact lpass_f y3) ((f44 (f43 f1)).tr (f44e f2)) m2
  · refine ct42 4 rfl hN t (fun h1 f1 m1 => ⟨_, rfl, mv_gdI rfl (H.2 4 i h1 ?_ (f44e f1) m1)⟩)
    unfold lhold
    rw [e1, show P = 8 by omega]; rfl
theorem ct48 {E : mv_E} {D k n : Nat} {h : mv_H} {Q : mv_Q} {B : Nat → Nat} {N i r : Nat} {F : Nat → Int32} (hN : N ≤ 900) (hk : tK B N i = 10) (t : cK B N i h) (q : cX E h r F) (p0 : mv_I h r 0 = F 1) (H : cPl E B N i r (lstorm B N i F) h Q) : mv_VE E (D + 4) k n 48 0 [some (.ref 52)] [] h Q := by
  have r165 := q.1
  have keep : ∀ (g g' : mv_H) (j : Nat), mx_fr S43 g g' → mv_I g' r j = mv_I g r j := fun g g' j z => z.2.2.1 r j (S43f (by omega))
  apply sg48_0
  refine ct83 hN t (by omega) (fun h1 f1 t1 => ⟨rfl, ct43 (D := D + 1) 0 10 rfl rfl (by omega) (by omega) hN t1 (fun a l1 l2 h2 f2 t2 g2 => ⟨_, rfl, ?_⟩) (fun g h2 f2 m2 s2 => ⟨_, rfl, ?_⟩)⟩)
  · have q2 := (q.f (f43 f1)).f f2
    obtain ⟨w1, w2, -⟩ := crow q2
    rw [if_neg (by decide), w1, w2, g2]
    refine mv_gdI rfl (H.1 (i + 1 + 1) _ _ (by unfold lstorm; exact lnum_t a ⟨l1, l2⟩) (by omega) ((f44 ((f43 f1).tr f2)).tr (f44w (c := 0) (by omega))) (t2.wr (by omega)) (q2.wk (c := 0) (k := 74) (j := 3) (by unfold cmap; omega)) ?_ ?_)
    · rw [mx_Isk (by omega), upA_n (by omega), keep _ _ _ ((f43 f1).tr f2), p0]
    · rw [mx_Isk (by omega), keep _ _ _ ((f43 f1).tr f2)]
  · rw [if_pos rfl]
    exact H.2 g (i + 1) h2 (by unfold lstorm; exact s2 _) ((f44 (f43 f1)).tr (f44e f2)) m2
