/-! The class reads a law's line. -/
/-- cells were made; of the old ones, only S changed -/
def mx_gz (S : Nat → Nat → Bool) (h h' : mv_H) : Prop := h.1 ≤ h'.1 ∧ (∀ a, a < h.1 → mv_K h' a = mv_K h a) ∧ ∀ a k, a < h.1 → S a k = false → mv_I h' a k = mv_I h a k ∧ mv_J h' a k = mv_J h a k ∧ mv_R h' a k = mv_R h a k
theorem mx_fz.g {S : Nat → Nat → Bool} {h h' : mv_H} (f : mx_fz S h h') : mx_gz S h h' := ⟨by rw [f.1]; exact Nat.le_refl _, fun a _ => by show h'.2.1 a = h.2.1 a; rw [f.2.1], fun a k _ q => f.2.2 a k q⟩
theorem mx_gz.tr {S : Nat → Nat → Bool} {h h' h'' : mv_H} (a : mx_gz S h h') (b : mx_gz S h' h'') : mx_gz S h h'' := ⟨Nat.le_trans a.1 b.1, fun c hc => (b.2.1 c (Nat.lt_of_lt_of_le hc a.1)).trans (a.2.1 c hc), fun c k hc q => by
  have x := a.2.2 c k hc q
  have y := b.2.2 c k (Nat.lt_of_lt_of_le hc a.1) q
  exact ⟨y.1.trans x.1, y.2.1.trans x.2.1, y.2.2.trans x.2.2⟩⟩
theorem mx_gz.to {S T : Nat → Nat → Bool} {h h' : mv_H} (f : mx_gz S h h') (hS : ∀ a k, a < h.1 → T a k = false → S a k = false) : mx_gz T h h' := ⟨f.1, f.2.1, fun a k ha q => f.2.2 a k ha (hS a k ha q)⟩
def SL (r a k : Nat) : Bool := S42e a k || S2w a k || (Nat.ble r a && Nat.ble a (r + 6))
theorem S2wf {a k : Nat} (h : 165 ≤ a) : S2w a k = false := by
  unfold S2w S2 S5 S83
  rw [mv_bne (show a ≠ 58 by omega), mv_bne (show a ≠ 59 by omega), mv_bne (show a ≠ 60 by omega), mv_bne (show a ≠ 53 by omega)]; rfl
theorem fL44 {r : Nat} {h h' : mv_H} (f : mx_fr (S44 r) h h') : mx_fr (SL r) h h' := f.to (fun a k q => by
  unfold SL at q
  rw [Bool.or_eq_false_iff, Bool.or_eq_false_iff] at q
  unfold S44
  rw [q.1.1, q.2]; rfl)
theorem fL2 {r : Nat} {h h' : mv_H} (f : mx_fr S2w h h') : mx_fr (SL r) h h' := f.to (fun a k q => by
  unfold SL at q
  rw [Bool.or_eq_false_iff, Bool.or_eq_false_iff] at q
  exact q.1.2)
theorem cX.fg {E : mv_E} {h h' : mv_H} {r : Nat} {F : Nat → Int32} {S : Nat → Nat → Bool} (c : cX E h r F) (f : mx_fr S h h') (hS : ∀ a k, 165 ≤ a → S a k = false) (h4 : S 52 4 = false ∧ S 52 5 = false) : cX E h' r F := by
  obtain ⟨c1, c2, c3, c4, c5, c6, c7, c8, c9⟩ := c
  have lw : ∀ l, l < 2 → cLx E h r F l → cLx E h' r F l := fun l hl q => by
    unfold cLx at q ⊢
    rw [f.R E, f.1]
    obtain ⟨L, q1, q2, q3, q4⟩ := q
    refine ⟨L, by rw [f.K E]; exact q1, q2, q3, ?_⟩
    rw [f.I _ (fun _ => hS _ _ (by omega))]
    exact q4
  refine ⟨c1, by rw [f.2.2.2.2]; exact c2, ?_, ?_, lw 0 (by omega) c5, lw 1 (by omega) c6, fun a h1 h2 => by rw [f.K E]; exact c7 a h1 (by rw [← f.1]; exact h2), by rw [f.2.2.1 52 4 h4.1]; exact c8, by rw [f.2.2.1 52 5 h4.2]; exact c9⟩
  · unfold cr_sh at c3 ⊢
    rw [f.1]
    simp only [f.K E, f.R E]
    exact c3
  · unfold cXv at c4 ⊢
    rw [f.I r (fun _ => hS _ _ (by omega)), f.I (r + 1) (fun _ => hS _ _ (by omega)), f.I (r + 2) (fun _ => hS _ _ (by omega)), f.I (r + 3) (fun _ => hS _ _ (by omega)), f.I (r + 4) (fun _ => hS _ _ (by omega)), f.I (r + 5) (fun _ => hS _ _ (by omega)), f.I (r + 6) (fun _ => hS _ _ (by omega))]
    exact c4
theorem cK.eq {B : Nat → Nat} {N i : Nat} {h h' : mv_H} (c : cK B N i h) (e : ∀ a, a < 100 → mv_I h' a = mv_I h a) : cK B N i h' := ⟨⟨by rw [e _ (by omega)]; exact c.1.1, by rw [e _ (by omega)]; exact c.1.2.1, fun l hl => by
  unfold cE
  rw [e 54 (by omega), e 55 (by omega), e 56 (by omega)]
  exact c.1.2.2 l hl⟩, by rw [e _ (by omega)]; exact c.2.1, c.2.2⟩
theorem ct49 {E : mv_E} {D k n : Nat} {h : mv_H} {Q : mv_Q} {B : Nat → Nat} {N i r l b : Nat} {F : Nat → Int32} {x : Int32} (hN : N ≤ 900) (hl : l < 2) (ex : x = nI (140 + l)) (hk : tK B N i = 11 + l) (hb : b ≤ i) (e1 : F 187 = nI b) (o : ∀ m, m < 2 → m ≠ l → lreg F b m) (t : cK B N i h) (q : cX E h r F) (rk : 1 ≤ k) (rn : (MO B N l 1 [] [] (i + 1 + 1)).2.2.length ≤ n) (H1 : ∀ i' R h', MO B N l 1 [] [] (i + 1 + 1) = (0, i', R) → llaw B N l i F = .inr (i', lstore l F R) → R.length + (i + 1 + 1) ≤ i' → mx_gz (SL r) h h' → cK B N i' h' → cX E h' r (lstore l F R) → mv_I h' r 0 = mv_I h r 0 → mv_I h' r 2 = mv_I h r 2 → Q (some (.int 1)) h') (H0 : ∀ f i' h', llaw B N l i F = .inl (f, i') → mx_fr (SL r) h h' → cEr B N f i' h' → Q (some (.int 0)) h') : mv_VE E (D + 6) k n 49 0 [some (.ref 52), some (.int x), none] [] h Q := by
  subst ex
  have r165 := q.1
  have T9 := (tT_lt B N).1
  apply sg49_0
  refine ct83 hN t (by omega) (fun h1 f1 t1 => ⟨rfl, ct41 (D := D + 3) 31 rfl (by omega) (by decide) (by omega) hN t1 (fun y h2 f2 t2 => ⟨_, rfl, ?_⟩) (fun y h2 f2 m2 => ⟨_, rfl, ?_⟩)⟩)
  · rw [if_neg (by decide)]
    have un : llaw B N l i F = if (MO B N l 1 [] [] (i + 1 + 1)).1 = 0 then .inr ((MO B N l 1 [] [] (i + 1 + 1)).2.1, lstore l F (MO B N l 1 [] [] (i + 1 + 1)).2.2) else .inl ((MO B N l 1 [] [] (i + 1 + 1)).1, (MO B N l 1 [] [] (i + 1 + 1)).2.1) := by
      unfold llaw
      exact lpass_t y
    have K2 : mx_fr (SL r) h h2 := fL44 (f44 ((f43 f1).tr f2))
    refine ct2 (D := D) hN hl t2 (fun r5 h3 f3 po => ⟨_, rfl, ?_⟩)
    have K3 := K2.tr (fL2 (r := r) f3)
    have q3 := ((q.f (f43 f1)).f f2).fg f3 (fun _ _ z => S2wf z) ⟨rfl, rfl⟩
    have i3 : ∀ j, mv_I h3 r j = mv_I h r j := fun j => by rw [f3.2.2.1 _ _ (S2wf r165), f2.2.2.1 _ _ (S43f (by omega)), f1.2.2.1 _ _ (S83f (by omega))]
    rcases po with ⟨g, i', hg, rg, c3, e3⟩ | ⟨r0, i', R', c3, s3, l3, lT3, e3⟩
    · rw [e3] at un
      rw [if_neg (show ¬ g = 0 by omega)] at un
      rcases hg with z | z
      · subst z
        rw [rg, if_neg (by decide), if_neg (by decide)]
        exact ct42 (D := D + 4) 2 rfl hN c3 (fun h4 f4 m4 => ⟨_, rfl, mv_gdI rfl (H0 2 i' h4 un (K3.tr (fL44 (f44e f4))) m4)⟩)
      · subst z
        rw [rg, if_pos (by decide)]
        exact ct42 (D := D + 4) 4 rfl hN c3 (fun h4 f4 m4 => ⟨_, rfl, mv_gdI rfl (H0 4 i' h4 un (K3.tr (fL44 (f44e f4))) m4)⟩)
    · have mb := MO_b e3
      have r9 : r + 9 < h3.1 := q3.2.2.1.2.2.2.2.2.2.2.2.2.2
      rw [e3] at un rn
      rw [if_pos rfl] at un
      rw [r0, if_neg (by decide), if_pos rfl, show mv_R h3 52 2 = r from q3.2.1]
      have i'T := c3.2.2
      have fin : ∀ h4, gnew R'.length h3 h4 → (Nat.beq (mv_KE E h4 r).1 3 && true && !mv_fx (mv_S (mv_sl E)) r (11 + l)) = true ∧ Q (some (.int 1)) (mv_sR h4 r (11 + l) h3.1) := fun h4 g4 => by
        have q5 := q3.nw hl g4 (b := b) (by omega) e1 mb.1 s3.2.2.2.1 o
        have kr : mv_KE E h4 r = (3, 16) := by
          have := q5.2.2.1.2.1
          exact this
        refine ⟨by rw [kr, fx_hi r165]; rfl, H1 i' R' _ e3 un (by omega) ?_ (c3.eq (fun a ha => ?_)) q5 ?_ ?_⟩
        · refine (K3.z.g).tr ⟨?_, fun a ha => ?_, fun a k ha z => ⟨?_, ?_, ?_⟩⟩
          · show h3.1 ≤ h4.1; rw [g4.1]; omega
          · exact (g4.2.2.2 a (by omega)).1
          · show mv_I h4 a k = _; rw [(g4.2.2.2 a (by omega)).2.1]
          · show mv_J h4 a k = _; rw [(g4.2.2.2 a (by omega)).2.2.1]
          · have ne : a ≠ r := fun c => by
              subst c
              unfold SL at z
              rw [Nat.ble_eq_true_of_le (Nat.le_refl a), Nat.ble_eq_true_of_le (show a ≤ a + 6 by omega)] at z
              rw [Bool.or_eq_false_iff] at z
              exact absurd z.2 (by decide)
            rw [mx_upR, if_neg (fun c => ne c.1), (g4.2.2.2 a (by omega)).2.2.2]
        · show mv_I h4 a = _; exact (g4.2.2.2 a (by omega)).2.1
        · show mv_I h4 r 0 = _; rw [(g4.2.2.2 r (by omega)).2.1]; exact i3 0
        · show mv_I h4 r 2 = _; rw [(g4.2.2.2 r (by omega)).2.1]; exact i3 2
      rcases (by omega : l = 0 ∨ l = 1) with z | z
      · subst z
        rw [if_pos (by decide)]
        exact ⟨(k, n), Nat.le_refl _, Nat.le_refl _, ct17 (D := D + 3) (L := R'.length) rk rn (by omega) s3.2.1 (by omega) (fun h4 g4 => ⟨_, rfl, mv_gdI (fin h4 g4).1 (fin h4 g4).2⟩)⟩
      · subst z
        rw [if_neg (by decide)]
        exact ⟨(k, n), Nat.le_refl _, Nat.le_refl _, ct17 (D := D + 3) (L := R'.length) rk rn (by omega) s3.2.1 (by omega) (fun h4 g4 => ⟨_, rfl, mv_gdI (fin h4 g4).1 (fin h4 g4).2⟩)⟩
  · rw [if_pos rfl]
    exact H0 2 (i + 1) h2 (by unfold llaw; exact lpass_f y) (fL44 ((f44 (f43 f1)).tr (f44e f2))) m2
