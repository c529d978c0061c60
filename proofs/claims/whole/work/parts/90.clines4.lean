/-! How the class reads lines: pairs, the first line. -/
theorem cmap_p {b d j : Nat} (hb : (b = 25 ∧ d = 5) ∨ (b = 33 ∧ d = 6)) (hj : j < 8) : cmap (b + j) d j := by
  rcases hb with ⟨x, y⟩ | ⟨x, y⟩ <;> subst x <;> subst y
  · exact Or.inr (Or.inr (Or.inr (Or.inr (Or.inr (Or.inl ⟨rfl, hj, rfl⟩)))))
  · exact Or.inr (Or.inr (Or.inr (Or.inr (Or.inr (Or.inr ⟨rfl, hj, rfl⟩)))))
theorem ct47 {E : mv_E} {D k n : Nat} {h : mv_H} {Q : mv_Q} {B : Nat → Nat} {N i r P x : Nat} {F : Nat → Int32} (b d : Nat) (hb : (b = 25 ∧ d = 5) ∨ (b = 33 ∧ d = 6)) (ex : x = r + d) (hN : N ≤ 900) (hk : tK B N i ≠ 24 ∧ tK B N i ≠ 25) (hP : P ≤ 8) (e1 : F 1 = nI P) (t : cK B N i h) (q : cX E h r F) (p0 : mv_I h r 0 = F 1) (H : cPl E B N i r (lpair B N b i F) h Q) : mv_VE E (D + 4) k n 47 0 [some (.ref 52), some (.ref x), none] [] h Q := by
  subst ex
  have r165 := q.1
  have keep : ∀ (g g' : mv_H) (j : Nat), mx_fr S43 g g' → mv_I g' r j = mv_I g r j := fun g g' j z => z.2.2.1 r j (S43f (by omega))
  have kd : ∀ (g : mv_H) (G : Nat → Int32), cX E g r G → mv_KE E g (r + d) = (20, 8) := fun g G z => by
    obtain ⟨-, -, -, -, -, ⟨-, a⟩, ⟨-, b⟩⟩ := crow z
    rcases hb with ⟨-, c⟩ | ⟨-, c⟩ <;> rw [c]
    · exact a
    · exact b
  have cp : (F 1).toNatClampNeg = P := by rw [e1, nI_clamp (by omega)]
  apply sg47_0
  refine ct83 hN t hk (fun h1 f1 t1 => ⟨rfl, ?_⟩)
  have q1 := q.f (f43 f1)
  obtain ⟨w1, w2, -⟩ := crow q1
  rw [w1, w2, keep _ _ _ (f43 f1), p0, e1]
  refine mv_gdI rfl (ct43 (D := D + 1) 0 P rfl rfl (by omega) (by omega) hN t1 (fun a l1 l2 h2 f2 t2 g2 => ⟨_, rfl, ?_⟩) (fun g h2 f2 m2 s2 => ⟨_, rfl, ?_⟩))
  · have q2 := q1.f f2
    have K2 := (f43 f1).tr f2
    have k41 := tK_41 B N (i + 1 + 1)
    have q23 := (cki (tK B N (i + 1 + 1)) (by omega)).1
    have un : lpair B N b i F = if tK B N (i + 1 + 1) = 23 ∧ tN B N (i + 1 + 1) = tN B N (i + 1) then .inl (3, i + 1 + 1) else lnum B N 0 P (i + 1 + 1) (fun q j2 => .inr (j2, lpF F b (tN B N (i + 1)) q)) := by
      unfold lpair
      rw [cp]
      exact lnum_t a ⟨l1, l2⟩
    rw [if_neg (by decide)]
    refine ct81 hN t2 ⟨_, rfl, mx_if (fun y => ?_) (fun y => ?_)⟩
    · have y := q23.mp y
      have tn := tN_lt y
      have tn1 := tN_lt a
      refine ct84 hN t2 y ⟨_, rfl, ?_⟩
      rw [g2]
      refine mx_eq (tN B N (i + 1 + 1)) (tN B N (i + 1)) (fun z => ?_) (fun z => ?_) (by omega) (by omega)
      · exact ct42 (D := D + 2) 3 rfl hN t2 (fun h3 f3 m3 => ⟨_, rfl, mv_gdI rfl (H.2 3 _ h3 (by rw [un, if_pos ⟨y, z⟩]) ((f44 K2).tr (f44e f3)) m3)⟩)
      · rw [if_neg (fun c => z c.2)] at un
        obtain ⟨v1, v2, -⟩ := crow q2
        rw [v1, v2, keep _ _ _ K2, p0, e1]
        refine mv_gdI rfl (ct43 (D := D + 1) 0 P rfl rfl (by omega) (by omega) hN t2 (fun a' l1' l2' h3 f3 t3 g3 => ⟨_, rfl, ?_⟩) (fun g h3 f3 m3 s3 => ⟨_, rfl, ?_⟩))
        · have q3 := q2.f f3
          have cm : ∀ j, j < 8 → cmap (b + j) d j := fun j hj => cmap_p hb hj
          have o1 : mv_I h3 (r + d) (tN B N (i + 1)) = F (b + tN B N (i + 1)) := q3.2.2.2.1.at (cm _ (by omega))
          rw [if_neg (by decide), kd h3 F q3, nI_clamp (by omega), o1, g3]
          have q4 := q3.wk (x := F (b + tN B N (i + 1)) ||| (1 <<< (nI (tN B N (i + 1 + 1)) &&& 31))) (cm (tN B N (i + 1)) (by omega))
          have o2 : mv_I (mv_sI h3 (r + d) (tN B N (i + 1)) (F (b + tN B N (i + 1)) ||| (1 <<< (nI (tN B N (i + 1 + 1)) &&& 31)))) (r + d) (tN B N (i + 1 + 1)) = _ := q4.2.2.2.1.at (cm _ (by omega))
          rw [mx_InE (show (52 : Nat) ≠ r + d by omega), g3, nI_clamp (by omega), o2]
          refine mv_gdI (mx_inT (tN B N (i + 1)) (by omega) (by omega)) (mv_gdI (mx_inT (tN B N (i + 1)) (by omega) (by omega)) (mv_gdI (mx_inT (tN B N (i + 1 + 1)) (by omega) (by omega)) (mv_gdI (mx_inT (tN B N (i + 1 + 1)) (by omega) (by omega)) (H.1 (i + 1 + 1 + 1) _ _ ?_ (by omega) (((f44 (K2.tr f3)).tr (f44w (c := d) (by omega))).tr (f44w (c := d) (by omega))) ((t3.wr (by omega)).wr (by omega)) (q4.wk (cm (tN B N (i + 1 + 1)) (by omega))) ?_ ?_))))
          · rw [un]; exact lnum_t a' ⟨l1', l2'⟩
          · rw [mx_InE (by omega), mx_InE (by omega), keep _ _ _ (K2.tr f3), p0, upA_n (by omega), upA_n (by omega)]
          · rw [mx_InE (by omega), mx_InE (by omega), keep _ _ _ (K2.tr f3)]
        · rw [if_pos rfl]
          exact H.2 g _ h3 (by rw [un]; exact s3 _) ((f44 K2).tr (f44e f3)) m3
    · have y : tK B N (i + 1 + 1) ≠ 23 := fun e => y (q23.mpr e)
      rw [if_neg (fun c => y c.1)] at un
      obtain ⟨v1, v2, -⟩ := crow q2
      rw [v1, v2, keep _ _ _ K2, p0, e1]
      refine mv_gdI rfl (ct43 (D := D + 1) 0 P rfl rfl (by omega) (by omega) hN t2 (fun a' l1' l2' h3 f3 t3 g3 => absurd a' y) (fun g h3 f3 m3 s3 => ⟨_, rfl, ?_⟩))
      rw [if_pos rfl]
      exact H.2 g _ h3 (by rw [un]; exact s3 _) ((f44 K2).tr (f44e f3)) m3
  · rw [if_pos rfl]
    refine H.2 g (i + 1) h2 ?_ ((f44 (f43 f1)).tr (f44e f2)) m2
    unfold lpair
    rw [cp]
    exact s2 _
def lhead (B : Nat → Nat) (N : Nat) (F : Nat → Int32) : LR := lpass B N 0 0 (fun i => lpass B N 1 i (fun i => lnum B N 1 100 i (fun q i => lclose B N i (mx_upA F 2 (nI q)))))
theorem lbind_pass {B : Nat → Nat} {N c i : Nat} {k : Nat → LR} {g : Nat → (Nat → Int32) → LR} : lbind (lpass B N c i k) g = lpass B N c i (fun j => lbind (k j) g) := by
  unfold lpass
  by_cases q : tK B N i = c
  · rw [if_pos q, if_pos q]
  · rw [if_neg q, if_neg q]; rfl
theorem lbind_num {B : Nat → Nat} {N lo hb i : Nat} {k : Nat → Nat → LR} {g : Nat → (Nat → Int32) → LR} : lbind (lnum B N lo hb i k) g = lnum B N lo hb i (fun v j => lbind (k v j) g) := by
  unfold lnum
  by_cases q : tK B N i = 23
  · rw [if_pos q, if_pos q]
    by_cases r : lo ≤ tN B N i ∧ tN B N i < hb
    · rw [if_pos r, if_pos r]
    · rw [if_neg r, if_neg r]; rfl
  · rw [if_neg q, if_neg q]; rfl
theorem lraft_h {B : Nat → Nat} {N : Nat} : lraft B N = lbind (lhead B N lF0) (fun i F => llines B N (tT B N + 1 - i) i F) := by
  unfold lraft lhead
  rw [lbind_pass]
  refine congrArg (lpass B N 0 0) (funext fun i => ?_)
  rw [lbind_pass]
  refine congrArg (lpass B N 1 i) (funext fun i => ?_)
  rw [lbind_num]
theorem ct40 {E : mv_E} {D k n : Nat} {h : mv_H} {Q : mv_Q} {B : Nat → Nat} {N r : Nat} {F : Nat → Int32} (hN : N ≤ 900) (t : cK B N 0 h) (q : cX E h r F) (p0 : mv_I h r 0 = F 1) (f0 : F 0 = 0) (H1 : ∀ i' F' h', lhead B N F = .inr (i', F') → mx_fr (S44 r) h h' → cK B N i' h' → cX E h' r F' → mv_I h' r 0 = F' 1 → mv_I h' r 2 = F' 0 → Q (some (.int 1)) h') (H0 : ∀ f i' h', lhead B N F = .inl (f, i') → mx_fr (S44 r) h h' → cEr B N f i' h' → Q (some (.int 0)) h') : mv_VE E (D + 4) k n 40 0 [some (.ref 52)] [] h Q := by
  have r165 := q.1
  have keep : ∀ (g g' : mv_H) (j : Nat), mx_fr S43 g g' → mv_I g' r j = mv_I g r j := fun g g' j z => z.2.2.1 r j (S43f (by omega))
  apply sg40_0
  refine ct41 (D := D + 1) 0 rfl (by omega) (by decide) (by omega) hN t (fun y h1 f1 t1 => ⟨_, rfl, ?_⟩) (fun y h1 f1 m1 => ⟨_, rfl, ?_⟩)
  · rw [if_neg (by decide)]
    refine ct41 (D := D + 1) 1 rfl (by omega) (by decide) (by omega) hN t1 (fun y1 h2 f2 t2 => ⟨_, rfl, ?_⟩) (fun y1 h2 f2 m2 => ⟨_, rfl, ?_⟩)
    · rw [if_neg (by decide)]
      refine ct43 (D := D + 1) 1 100 rfl rfl (by omega) (by omega) hN t2 (fun a l1 l2 h3 f3 t3 g3 => ⟨_, rfl, ?_⟩) (fun g h3 f3 m3 s3 => ⟨_, rfl, ?_⟩)
      · have q3 := ((q.f f1).f f2).f f3
        have K3 := (f1.tr f2).tr f3
        obtain ⟨w1, w2, -⟩ := crow q3
        rw [if_neg (by decide), w1, w2, g3]
        refine mv_gdI rfl (mv_gdI rfl ?_)
        have q4 := (q3.wk (c := 0) (k := 2) (j := 1) (x := nI (tN B N (0 + 1 + 1))) (by unfold cmap; omega)).w0 (j := 2) (x := 1) (by omega)
        have F4 := ((f44 (r := r) K3).tr (f44w (r := r) (c := 0) (k := 1) (x := nI (tN B N (0 + 1 + 1))) (by omega))).tr (f44w (r := r) (c := 0) (k := 2) (x := 1) (by omega))
        have i4 : mv_I (mv_sI (mv_sI h3 r 1 (nI (tN B N (0 + 1 + 1)))) r 2 1) r 0 = F 1 := by rw [mx_Isk (by omega), mx_Isk (by omega), keep _ _ _ K3, p0]
        refine ct41 (D := D + 1) 30 rfl (by omega) (by decide) (by omega) hN ((t3.wr (by omega)).wr (by omega)) (fun y4 h5 f5 t5 => ⟨_, rfl, mv_gdI rfl ?_⟩) (fun y4 h5 f5 m5 => ⟨_, rfl, mv_gdI rfl ?_⟩)
        · refine H1 (0 + 1 + 1 + 1 + 1) (mx_upA (mx_upA F 2 (nI (tN B N (0 + 1 + 1)))) 0 ((mx_upA F 2 (nI (tN B N (0 + 1 + 1)))) 0 + 1)) h5 ?_ (F4.tr (f44 f5)) t5 ((q4.f f5).p (fun k a b => upA_n a)) ?_ ?_
          · unfold lhead
            exact (lpass_t y).trans ((lpass_t y1).trans ((lnum_t a ⟨l1, l2⟩).trans (by unfold lclose; exact lpass_t y4)))
          · rw [keep _ _ _ f5]
            exact i4.trans (by rw [upA_n (by omega), upA_n (by omega)])
          · rw [keep _ _ _ f5, upA_s, upA_n (by omega), f0]
            exact mx_Iss
        · exact H0 2 _ h5 (by unfold lhead; exact (lpass_t y).trans ((lpass_t y1).trans ((lnum_t a ⟨l1, l2⟩).trans (by unfold lclose; exact lpass_f y4)))) (F4.tr (f44e f5)) m5
      · rw [if_pos rfl]
        exact H0 g _ h3 (by unfold lhead; exact (lpass_t y).trans ((lpass_t y1).trans (s3 _))) ((f44 (f1.tr f2)).tr (f44e f3)) m3
    · rw [if_pos rfl]
      exact H0 2 _ h2 (by unfold lhead; exact (lpass_t y).trans (lpass_f y1)) ((f44 f1).tr (f44e f2)) m2
  · rw [if_pos rfl]
    exact H0 2 _ h1 (by unfold lhead; exact lpass_f y) (f44e f1) m1
