/-! The class reads line by line. -/
theorem lflag_0 {B : Nat → Nat} {N p : Nat} (hp : p < 8) : ∀ {f i i' : Nat} {F F' : Nat → Int32}, lflag B N p f i F = .inr (i', F') → F' 0 = F 0 := by
  intro f
  induction f with
  | zero => intro i i' F F' e; cases e; rfl
  | succ f ih =>
    intro i i' F F' e
    rw [lflag_s] at e
    split at e
    · rw [ih e, upA_n (by omega)]
    · split at e
      · obtain ⟨-, -, e⟩ := lnum_i e
        rw [ih e, upA_n (by omega)]
      · split at e
        · obtain ⟨-, -, e⟩ := lnum_i e
          obtain ⟨-, -, e⟩ := lnum_i e
          obtain ⟨-, -, e⟩ := lnum_i e
          rw [ih e, upA_n (by omega), upA_n (by omega), upA_n (by omega)]
        · cases e; rfl
theorem lhold_0 {B : Nat → Nat} {N i i' : Nat} {F F' : Nat → Int32} (e : lhold B N i F = .inr (i', F')) (h : loc F i) : F' 0 = F 0 := by
  obtain ⟨P, hP, h1⟩ := h.1
  unfold lhold at e
  rw [h1, nI_clamp (by omega)] at e
  by_cases q : P = 8
  · rw [q, if_pos (by rfl)] at e; cases e
  · rw [if_neg (show ¬ nI P = 8 from fun c => q ((nI_eq (a := P) (b := 8) (by omega) (by omega)).mp c))] at e
    obtain ⟨-, e⟩ := lpass_i e
    obtain ⟨-, c1, e⟩ := lnum_i e
    obtain ⟨-, e⟩ := lpass_i e
    obtain ⟨-, c2, e⟩ := lnum_i e
    obtain ⟨j, F2, e2, e3⟩ := lbind_i e
    cases e3
    rw [upA_n (by omega), lflag_0 (show P < 8 by omega) e2]
    unfold lhF
    rw [upA_n (by omega), upA_n (by omega), upA_n (by omega), upA_n (by omega)]
theorem lpair_0 {B : Nat → Nat} {N b i i' : Nat} {F F' : Nat → Int32} (hb : b = 25 ∨ b = 33) (e : lpair B N b i F = .inr (i', F')) : F' 0 = F 0 := by
  unfold lpair at e
  obtain ⟨-, c1, e⟩ := lnum_i e
  split at e
  · cases e
  · obtain ⟨-, c2, e⟩ := lnum_i e
    cases e
    unfold lpF; rw [upA_n (by omega), upA_n (by omega)]
theorem lstorm_0 {B : Nat → Nat} {N i i' : Nat} {F F' : Nat → Int32} (e : lstorm B N i F = .inr (i', F')) : F' 0 = F 0 := by
  unfold lstorm at e
  obtain ⟨-, c1, e⟩ := lnum_i e
  cases e
  exact upA_n (by omega)
theorem lstore_0 {F : Nat → Int32} {l : Nat} {R : List Nat} : lstore l F R 0 = F 0 ∧ lstore l F R 1 = F 1 := by
  unfold lstore
  constructor
  · rw [if_neg (by omega), if_neg (by omega), if_neg (by omega), if_neg (by omega), if_neg (by omega)]
  · rw [if_neg (by omega), if_neg (by omega), if_neg (by omega), if_neg (by omega), if_neg (by omega)]
theorem ck_l : ∀ m, m < 42 → (nI (ck m) = 0 ↔ m = 24) ∧ (nI (ck m) = 131 ↔ m = 2) ∧ (nI (ck m) = 132 ↔ m = 3) ∧ (nI (ck m) = 133 ↔ m = 4) ∧ (nI (ck m) = 134 ↔ m = 5) ∧ (nI (ck m) = 135 ↔ m = 6) ∧ (nI (ck m) = 136 ↔ m = 7) ∧ (nI (ck m) = 137 ↔ m = 8) ∧ (nI (ck m) = 138 ↔ m = 9) ∧ (nI (ck m) = 139 ↔ m = 10) ∧ (nI (ck m) = 140 ↔ m = 11) ∧ (nI (ck m) = 141 ↔ m = 12) := by decide +kernel
theorem mrun_n {K Nn : Nat → Nat} {l : Nat} : ∀ f pos (R W : List Nat) i, (mrun K Nn l f pos R W i).2.2.length + i ≤ R.length + W.length + (mrun K Nn l f pos R W i).2.1 ∧ (mrun K Nn l f pos R W i).2.1 ≤ i + f := by
  intro f
  induction f with
  | zero => intro pos R W i; exact ⟨by show 0 + i ≤ R.length + W.length + i; omega, Nat.le_refl _⟩
  | succ f ih =>
    intro pos R W i
    have er : ∀ s, ((s, i, []) : lres).2.2.length + i ≤ R.length + W.length + ((s, i, []) : lres).2.1 ∧ ((s, i, []) : lres).2.1 ≤ i + (f + 1) := fun s => ⟨by show 0 + i ≤ R.length + W.length + i; omega, by show i ≤ i + (f + 1); omega⟩
    have jn : ∀ p, (mjoin (mrun K Nn l f) K p R W i).2.2.length + i ≤ R.length + W.length + (mjoin (mrun K Nn l f) K p R W i).2.1 ∧ (mjoin (mrun K Nn l f) K p R W i).2.1 ≤ i + (f + 1) := fun p => by
      unfold mjoin
      split
      · exact er 4
      · have := ih p (pr (lrk (K i)) R W).1 (K i :: (pr (lrk (K i)) R W).2) (i + 1)
        have pl := pr_len (r := lrk (K i)) (W := W) (R := R)
        have le : (K i :: (pr (lrk (K i)) R W).2).length = (pr (lrk (K i)) R W).2.length + 1 := rfl
        omega
    have cl : ∀ p, (mclose (mrun K Nn l f) p R W i).2.2.length + i ≤ R.length + W.length + (mclose (mrun K Nn l f) p R W i).2.1 ∧ (mclose (mrun K Nn l f) p R W i).2.1 ≤ i + (f + 1) := fun p => by
      unfold mclose
      have := ih p (pr 0 R W).1 (pr 0 R W).2.tail (i + 1)
      have pl := pr_len (r := 0) (W := W) (R := R)
      have lt : (pr 0 R W).2.tail.length ≤ (pr 0 R W).2.length := by rw [List.length_tail]; omega
      omega
    unfold mrun
    split
    · unfold mbeg
      split
      · have := ih 3 (R ++ [Nn i]) W (i + 1)
        have le : (R ++ [Nn i]).length = R.length + 1 := List.length_append
        omega
      · split
        · have := ih 3 (R ++ [1000 + lwd l (K i)]) W (i + 1)
          have le : (R ++ [1000 + lwd l (K i)]).length = R.length + 1 := List.length_append
          omega
        · split
          · split
            · exact er 4
            · split
              · exact er 4
              · have := ih (if K i = 35 then 2 else 1) R (K i :: W) (i + 1)
                have le : (K i :: W).length = W.length + 1 := rfl
                omega
          · exact er 2
    · unfold mgo
      split
      · split
        · exact jn _
        · exact er 2
      · split
        · split
          · exact jn _
          · exact er 2
        · split
          · split
            · exact jn _
            · exact er 2
          · split
            · split
              · exact cl _
              · exact er 2
            · split
              · split
                · exact cl _
                · exact er 2
              · split
                · split
                  · have pl := pr_len (r := 0) (W := W) (R := R)
                    exact ⟨by show (pr 0 R W).1.length + i ≤ R.length + W.length + i; omega, by show i ≤ i + (f + 1); omega⟩
                  · exact er 2
                · exact er 2
theorem MO_n {B : Nat → Nat} {N l i : Nat} : (MO B N l 1 [] [] i).2.2.length ≤ tT B N + 1 - i := by
  have := mrun_n (K := tK B N) (Nn := tN B N) (l := l) (tT B N + 1 - i) 1 [] [] i
  have e : ([] : List Nat).length = 0 := rfl
  show (mrun (tK B N) (tN B N) l (tT B N + 1 - i) 1 [] [] i).2.2.length ≤ _
  omega
theorem ct39l {E : mv_E} {D : Nat} {h0 : mv_H} {Q : mv_Q} {B : Nat → Nat} {N r : Nat} {sp : LR} (hN : N ≤ 900) (H1 : ∀ i' F' h', sp = .inr (i', F') → mx_gz (SL r) h0 h' → cK B N i' h' → cX E h' r F' → mv_I h' r 0 = F' 1 → mv_I h' r 2 = F' 0 → loc F' i' → Q (some (.ref r)) h') (H0 : ∀ f i' h', sp = .inl (f, i') → mx_gz (SL r) h0 h' → cEr B N f i' h' → Q (some (.ref 0)) h') : ∀ f i c F h k n, tT B N + 1 - i ≤ f → c ≤ i → tT B N + 1 - i ≤ k → tT B N + 1 - i ≤ n → mx_gz (SL r) h0 h → cK B N i h → cX E h r F → mv_I h r 0 = F 1 → mv_I h r 2 = F 0 → loc F i → sp = llines B N f i F → mv_VE E (D + 9) k n 39 38 [some (.ref 52), none, none, some (.int 1), some (.int (nI c))] [] h Q := by
  intro f
  induction f with
  | zero => intro i c F h k n hf _ _ _ _ t; exact absurd t.2.2 (by omega)
  | succ f ih =>
    intro i c F h k n hf ci hk hn gz t q p0 p2 lc e
    have r165 := q.1
    have k41 := tK_41 B N i
    have T9 := (tT_lt B N).1
    have Z9 := tZ_ge B N
    have iT := t.2.2
    obtain ⟨x24, x2, x3, x4, x5, x6, x7, x8, x9, x10, x11, x12⟩ := ck_l (tK B N i) (by omega)
    have e : sp = if tK B N i = 24 then .inr (i, F) else lbind (lline B N i F) (fun i F => lbind (lclose B N i F) (llines B N f)) := e
    have fin : tK B N i = 24 → Q (some (.ref r)) h := fun z => by
      rw [if_pos z] at e
      exact H1 i F h e gz t q p0 p2 lc
    -- a fault ends it
    have stop : ∀ h2 k2 n2, Q (some (.ref 0)) h2 → mv_VE E (D + 9) k2 n2 39 38 [some (.ref 52), none, none, some (.int 0), some (.int (nI c + 1))] [] h2 Q := fun h2 k2 n2 z => by
      apply sg39_38
      rw [if_pos rfl, if_pos rfl]
      exact mx_if (fun _ => z) (fun _ => z)
    have bad : ∀ (G : Nat → Int32) g g2 h2 k2 n2, sp = .inl (g, g2) → mx_gz (SL r) h0 h2 → cEr B N g g2 h2 → mv_R h2 52 2 = r → mv_KE E h2 r = (3, 16) → mv_gd (Nat.beq (mv_KE E h2 (mv_R h2 52 2)).1 3) (mv_gd (Nat.beq (mv_KE E h2 (mv_R h2 52 2)).1 3 && true) (mv_VE E (D + 9) k2 n2 39 38 [some (.ref 52), none, none, some (.int 0), some (.int (nI c + 1))] [] (mv_sI h2 (mv_R h2 52 2) 2 ((mv_I h2 (mv_R h2 52 2) 2) + 1)) Q)) := fun G g g2 h2 k2 n2 e2 z2 m2 a1 a2 => by
      rw [a1, a2]
      refine mv_gdI rfl (mv_gdI rfl (stop _ k2 n2 (H0 g g2 _ e2 (z2.tr ((fL44 (f44w (c := 0) (by omega))).z.g)) ⟨?_, ?_⟩)))
      · rw [mx_InE (by omega)]; exact m2.1
      · rw [mx_InE (by omega)]; exact m2.2
    have toB : tK B N i ≠ 24 → ∀ g g2, lline B N i F = .inl (g, g2) → sp = .inl (g, g2) := fun z g g2 e2 => by rw [e, if_neg z, e2]; rfl
    have go : tK B N i ≠ 24 → ∀ i2 F2 h2 k2 n2, lline B N i F = .inr (i2, F2) → i < i2 → loc F2 i2 → F2 0 = F 0 → tT B N + 1 - (i2 + 1) ≤ k2 → tT B N + 1 - (i2 + 1) ≤ n2 → mx_gz (SL r) h0 h2 → cK B N i2 h2 → cX E h2 r F2 → mv_I h2 r 0 = F2 1 → mv_I h2 r 2 = mv_I h r 2 → mv_VE E (D + 8) 0 0 41 0 [some (.ref 52), some (.int 59)] [] h2 (fun v h25 => ∃ r26, v = some (.int r26) ∧ if r26 = 0 then (mv_gd (Nat.beq (mv_KE E h25 (mv_R h25 52 2)).1 3) (mv_gd (Nat.beq (mv_KE E h25 (mv_R h25 52 2)).1 3 && true) (mv_VE E (D + 9) k2 n2 39 38 [some (.ref 52), none, none, some (.int 0), some (.int (nI c + 1))] [] (mv_sI h25 (mv_R h25 52 2) 2 ((mv_I h25 (mv_R h25 52 2) 2) + 1)) Q))) else (mv_gd (Nat.beq (mv_KE E h25 (mv_R h25 52 2)).1 3) (mv_gd (Nat.beq (mv_KE E h25 (mv_R h25 52 2)).1 3 && true) (mv_VE E (D + 9) k2 n2 39 38 [some (.ref 52), none, none, some (.int 1), some (.int (nI c + 1))] [] (mv_sI h25 (mv_R h25 52 2) 2 ((mv_I h25 (mv_R h25 52 2) 2) + 1)) Q)))) := by
      intro n24 i2 F2 h2 k2 n2 e2 l2 lc2 f20 hk2 hn2 z2 t2 q2 a0 a2
      have e3 : sp = lbind (lclose B N i2 F2) (llines B N f) := by rw [e, if_neg n24, e2]; rfl
      refine ct41 (D := D + 6) 30 rfl (by omega) (by decide) (by omega) hN t2 (fun y h3 f3 t3 => ⟨_, rfl, ?_⟩) (fun y h3 f3 m3 => ⟨_, rfl, ?_⟩)
      · have q3 := q2.f f3
        obtain ⟨w1, w2, -⟩ := crow q3
        have ec : lclose B N i2 F2 = .inr (i2 + 1, mx_upA F2 0 (F2 0 + 1)) := by unfold lclose; exact lpass_t y
        rw [if_neg (by decide), w1, w2, nI_1]
        refine mv_gdI rfl (mv_gdI rfl ?_)
        have i3 : ∀ j, mv_I h3 r j = mv_I h2 r j := fun j => f3.2.2.1 r j (S43f (by omega))
        refine ih (i2 + 1) (c + 1) (mx_upA F2 0 (F2 0 + 1)) _ k2 n2 (by omega) (by omega) hk2 hn2 ((z2.tr ((fL44 (f44 f3)).z.g)).tr ((fL44 (f44w (c := 0) (by omega))).z.g)) (t3.wr (by omega)) ((q3.w0 (by omega)).p (fun k a b => upA_n a)) ?_ ?_ (loc_close ec lc2).1 (by rw [e3, ec]; rfl)
        · rw [mx_Isk (by omega), i3, a0, upA_n (by omega)]
        · rw [mx_Iss, i3, a2, p2, upA_s, f20]
      · rw [if_pos rfl]
        have ec : lclose B N i2 F2 = .inl (2, i2) := by unfold lclose; exact lpass_f y
        exact bad F2 2 i2 h3 k2 n2 (by rw [e3, ec]; rfl) (z2.tr ((fL44 (f44e f3)).z.g)) m3 (by rw [f3.2.2.2.2]; exact q2.2.1) (by rw [f3.K E]; exact q2.2.2.1.2.1)
    have ref : tK B N i ≠ 24 → lline B N i F = .inl (2, i) → ∀ k2 n2, mv_VE E (D + 8) 0 0 42 0 [some (.ref 52), some (.int 2)] [] h (fun v h51 => ∃ r52, v = some (.int r52) ∧ if r52 = 0 then (mv_gd (Nat.beq (mv_KE E h51 (mv_R h51 52 2)).1 3) (mv_gd (Nat.beq (mv_KE E h51 (mv_R h51 52 2)).1 3 && true) (mv_VE E (D + 9) k2 n2 39 38 [some (.ref 52), none, none, some (.int 0), some (.int (nI c + 1))] [] (mv_sI h51 (mv_R h51 52 2) 2 ((mv_I h51 (mv_R h51 52 2) 2) + 1)) Q))) else (mv_VE E (D + 8) 0 0 41 0 [some (.ref 52), some (.int 59)] [] h51 (fun v h25 => ∃ r26, v = some (.int r26) ∧ if r26 = 0 then (mv_gd (Nat.beq (mv_KE E h25 (mv_R h25 52 2)).1 3) (mv_gd (Nat.beq (mv_KE E h25 (mv_R h25 52 2)).1 3 && true) (mv_VE E (D + 9) k2 n2 39 38 [some (.ref 52), none, none, some (.int 0), some (.int (nI c + 1))] [] (mv_sI h25 (mv_R h25 52 2) 2 ((mv_I h25 (mv_R h25 52 2) 2) + 1)) Q))) else (mv_gd (Nat.beq (mv_KE E h25 (mv_R h25 52 2)).1 3) (mv_gd (Nat.beq (mv_KE E h25 (mv_R h25 52 2)).1 3 && true) (mv_VE E (D + 9) k2 n2 39 38 [some (.ref 52), none, none, some (.int 1), some (.int (nI c + 1))] [] (mv_sI h25 (mv_R h25 52 2) 2 ((mv_I h25 (mv_R h25 52 2) 2) + 1)) Q)))))) := by
      intro n24 e2 k2 n2
      refine ct42 (D := D + 7) 2 rfl hN t (fun h2 f2 m2 => ⟨_, rfl, ?_⟩)
      rw [if_pos rfl]
      exact bad F 2 i h2 k2 n2 (toB n24 2 i e2) (gz.tr ((fL44 (f44e f2)).z.g)) m2 (by rw [f2.2.2.2.2]; exact q.2.1) (by rw [f2.K E]; exact q.2.2.1.2.1)
    obtain ⟨P, hP, eP⟩ := id lc.1
    obtain ⟨-, b, b1, b2, b3⟩ := id lc
    apply sg39_38
    rw [t.1.2.1]
    refine mx_lt c (tZ B N) (fun y => ?_) (fun y => ?_) (by omega) (by omega)
    · rw [if_neg (show ¬ (1 : Int32) = 0 by decide)]
      refine ct81 hN t ⟨_, rfl, mx_if (fun z => ?_) (fun z => ?_)⟩
      · rw [if_neg (show ¬ (1 : Int32) = 0 by decide), q.2.1]
        exact fin (x24.mp z)
      · have n24 : tK B N i ≠ 24 := fun w => z (x24.mpr w)
        refine ct81 hN t ⟨_, rfl, mx_if (fun a => ?_) (fun a2 => mx_if (fun a => ?_) (fun a3 => mx_if (fun a => ?_) (fun a4 => mx_if (fun a => ?_) (fun a5 => mx_if (fun a => ?_) (fun a6 => mx_if (fun a => ?_) (fun a7 => mx_if (fun a => ?_) (fun a8 => mx_if (fun a => ?_) (fun a9 => mx_if (fun a => ?_) (fun a10 => mx_if (fun a => ?_) (fun a11 => mx_if (fun a => ?_) (fun a12 => ?_)))))))))))⟩
        · have y2 := x2.mp a
          have un : lline B N i F = lhold B N i F := by unfold lline; rw [if_pos y2]
          refine ct44 (D := D + 3) hN y2 hP eP t q p0 ⟨fun i' F' h' e' l' f' t' q' b0 b2' => ⟨_, rfl, ?_⟩, fun g i' h' e' f' m' => ⟨_, rfl, ?_⟩⟩
          · have lh := loc_hold e' lc
            rw [if_neg (by decide)]
            exact go n24 i' F' h' k n (un.trans e') lh.2 lh.1 (lhold_0 e' lc) (by have := lh.2; omega) (by have := lh.2; omega) (gz.tr ((fL44 f').z.g)) t' q' b0 b2'
          · rw [if_pos rfl]
            exact bad F g i' h' k n (toB n24 g i' (un.trans e')) (gz.tr ((fL44 f').z.g)) m' (by rw [f'.2.2.2.2]; exact q.2.1) (by rw [f'.K E]; exact q.2.2.1.2.1)
        · exact ref n24 (by have := x3.mp a; unfold lline; rw [if_neg (by omega), if_neg (by omega), if_neg (by omega), if_neg (by omega), if_neg (by omega), if_neg (by omega)]) k n
        · exact ref n24 (by have := x4.mp a; unfold lline; rw [if_neg (by omega), if_neg (by omega), if_neg (by omega), if_neg (by omega), if_neg (by omega), if_neg (by omega)]) k n
        · exact ref n24 (by have := x5.mp a; unfold lline; rw [if_neg (by omega), if_neg (by omega), if_neg (by omega), if_neg (by omega), if_neg (by omega), if_neg (by omega)]) k n
        · exact ref n24 (by have := x6.mp a; unfold lline; rw [if_neg (by omega), if_neg (by omega), if_neg (by omega), if_neg (by omega), if_neg (by omega), if_neg (by omega)]) k n
        · exact ref n24 (by have := x7.mp a; unfold lline; rw [if_neg (by omega), if_neg (by omega), if_neg (by omega), if_neg (by omega), if_neg (by omega), if_neg (by omega)]) k n
        · have y8 := x8.mp a
          have un : lline B N i F = lpair B N 25 i F := by unfold lline; rw [if_neg (by omega), if_pos y8]
          obtain ⟨w1, w2, -, -, -, ⟨w3, -⟩, -⟩ := crow q
          rw [w1, w2, w3]
          refine mv_gdI rfl (ct47 (D := D + 4) 25 5 (Or.inl ⟨rfl, rfl⟩) rfl hN (by omega) hP eP t q p0 ⟨fun i' F' h' e' l' f' t' q' b0 b2' => ⟨_, rfl, ?_⟩, fun g i' h' e' f' m' => ⟨_, rfl, ?_⟩⟩)
          · have lh := loc_pair (Or.inl rfl) e' lc
            rw [if_neg (by decide)]
            exact go n24 i' F' h' k n (un.trans e') lh.2 lh.1 (lpair_0 (Or.inl rfl) e') (by have := lh.2; omega) (by have := lh.2; omega) (gz.tr ((fL44 f').z.g)) t' q' b0 b2'
          · rw [if_pos rfl]
            exact bad F g i' h' k n (toB n24 g i' (un.trans e')) (gz.tr ((fL44 f').z.g)) m' (by rw [f'.2.2.2.2]; exact q.2.1) (by rw [f'.K E]; exact q.2.2.1.2.1)
        · have y9 := x9.mp a
          have un : lline B N i F = lpair B N 33 i F := by unfold lline; rw [if_neg (by omega), if_neg (by omega), if_pos y9]
          obtain ⟨w1, w2, -, -, -, -, ⟨w3, -⟩⟩ := crow q
          rw [w1, w2, w3]
          refine mv_gdI rfl (ct47 (D := D + 4) 33 6 (Or.inr ⟨rfl, rfl⟩) rfl hN (by omega) hP eP t q p0 ⟨fun i' F' h' e' l' f' t' q' b0 b2' => ⟨_, rfl, ?_⟩, fun g i' h' e' f' m' => ⟨_, rfl, ?_⟩⟩)
          · have lh := loc_pair (Or.inr rfl) e' lc
            rw [if_neg (by decide)]
            exact go n24 i' F' h' k n (un.trans e') lh.2 lh.1 (lpair_0 (Or.inr rfl) e') (by have := lh.2; omega) (by have := lh.2; omega) (gz.tr ((fL44 f').z.g)) t' q' b0 b2'
          · rw [if_pos rfl]
            exact bad F g i' h' k n (toB n24 g i' (un.trans e')) (gz.tr ((fL44 f').z.g)) m' (by rw [f'.2.2.2.2]; exact q.2.1) (by rw [f'.K E]; exact q.2.2.1.2.1)
        · have y10 := x10.mp a
          have un : lline B N i F = lstorm B N i F := by unfold lline; rw [if_neg (by omega), if_neg (by omega), if_neg (by omega), if_pos y10]
          refine ct48 (D := D + 4) hN y10 t q p0 ⟨fun i' F' h' e' l' f' t' q' b0 b2' => ⟨_, rfl, ?_⟩, fun g i' h' e' f' m' => ⟨_, rfl, ?_⟩⟩
          · have lh := loc_storm e' lc
            rw [if_neg (by decide)]
            exact go n24 i' F' h' k n (un.trans e') lh.2 lh.1 (lstorm_0 e') (by have := lh.2; omega) (by have := lh.2; omega) (gz.tr ((fL44 f').z.g)) t' q' b0 b2'
          · rw [if_pos rfl]
            exact bad F g i' h' k n (toB n24 g i' (un.trans e')) (gz.tr ((fL44 f').z.g)) m' (by rw [f'.2.2.2.2]; exact q.2.1) (by rw [f'.K E]; exact q.2.2.1.2.1)
        · have y11 := x11.mp a
          have un : lline B N i F = llaw B N 0 i F := by unfold lline; rw [if_neg (by omega), if_neg (by omega), if_neg (by omega), if_neg (by omega), if_pos y11]
          have mn := MO_n (B := B) (N := N) (l := 0) (i := i + 1 + 1)
          refine ct81 hN t ⟨_, rfl, (1, (MO B N 0 1 [] [] (i + 1 + 1)).2.2.length), by show 1 ≤ k; omega, by show (MO B N 0 1 [] [] (i + 1 + 1)).2.2.length ≤ n; omega, ?_⟩
          refine ct49 (D := D + 2) (l := 0) hN (by omega) (by rw [y11]; rfl) y11 b1 b2 (fun m hm _ => b3 m hm) t q (Nat.le_refl _) (Nat.le_refl _) (fun i' R h' eM e' l' g' t' q' b0 b2' => ⟨_, rfl, ?_⟩) (fun g i' h' e' f' m' => ⟨_, rfl, ?_⟩)
          · rw [if_neg (by decide)]
            have i'T := t'.2.2
            rw [eM]
            exact go n24 i' _ h' _ _ (un.trans e') (by omega) (loc_law (by omega) (by omega) lc l') lstore_0.1 (by show tT B N + 1 - (i' + 1) ≤ k - 1; omega) (by show tT B N + 1 - (i' + 1) ≤ n - R.length; omega) (gz.tr g') t' q' (by rw [b0, p0, lstore_0.2]) b2'
          · rw [if_pos rfl]
            exact bad F g i' h' _ _ (toB n24 g i' (un.trans e')) (gz.tr (f'.z.g)) m' (by rw [f'.2.2.2.2]; exact q.2.1) (by rw [f'.K E]; exact q.2.2.1.2.1)
        · have y12 := x12.mp a
          have un : lline B N i F = llaw B N 1 i F := by unfold lline; rw [if_neg (by omega), if_neg (by omega), if_neg (by omega), if_neg (by omega), if_neg (by omega), if_pos y12]
          have mn := MO_n (B := B) (N := N) (l := 1) (i := i + 1 + 1)
          refine ct81 hN t ⟨_, rfl, (1, (MO B N 1 1 [] [] (i + 1 + 1)).2.2.length), by show 1 ≤ k; omega, by show (MO B N 1 1 [] [] (i + 1 + 1)).2.2.length ≤ n; omega, ?_⟩
          refine ct49 (D := D + 2) (l := 1) hN (by omega) (by rw [y12]; rfl) y12 b1 b2 (fun m hm _ => b3 m hm) t q (Nat.le_refl _) (Nat.le_refl _) (fun i' R h' eM e' l' g' t' q' b0 b2' => ⟨_, rfl, ?_⟩) (fun g i' h' e' f' m' => ⟨_, rfl, ?_⟩)
          · rw [if_neg (by decide)]
            have i'T := t'.2.2
            rw [eM]
            exact go n24 i' _ h' _ _ (un.trans e') (by omega) (loc_law (by omega) (by omega) lc l') lstore_0.1 (by show tT B N + 1 - (i' + 1) ≤ k - 1; omega) (by show tT B N + 1 - (i' + 1) ≤ n - R.length; omega) (gz.tr g') t' q' (by rw [b0, p0, lstore_0.2]) b2'
          · rw [if_pos rfl]
            exact bad F g i' h' _ _ (toB n24 g i' (un.trans e')) (gz.tr (f'.z.g)) m' (by rw [f'.2.2.2.2]; exact q.2.1) (by rw [f'.K E]; exact q.2.2.1.2.1)
        · have c2 : tK B N i ≠ 2 := fun w => a2 (x2.mpr w)
          have c8 : tK B N i ≠ 8 := fun w => a8 (x8.mpr w)
          have c9 : tK B N i ≠ 9 := fun w => a9 (x9.mpr w)
          have c10 : tK B N i ≠ 10 := fun w => a10 (x10.mpr w)
          have c11 : tK B N i ≠ 11 := fun w => a11 (x11.mpr w)
          have c12 : tK B N i ≠ 12 := fun w => a12 (x12.mpr w)
          exact ref n24 (by unfold lline; rw [if_neg c2, if_neg c8, if_neg c9, if_neg c10, if_neg c11, if_neg c12]) k n
    · rw [if_neg (show ¬ (1 : Int32) = 0 by decide), q.2.1]
      exact fin (cK_z iT (show ¬ i < tZ B N by omega)).2
