/-! The class cuts a text up. -/
def tZ (B : Nat → Nat) (N : Nat) : Nat := if tK B N (tT B N) = 24 then tT B N else tT B N + 1
def cE (B : Nat → Nat) (N l : Nat) (h : mv_H) : Prop := mv_I h 54 l = nI (ck (tK B N l)) ∧ mv_I h 55 l = nI (tA B N l) ∧ (tK B N l = 23 → mv_I h 56 l = nI (tN B N l))
def cTk (B : Nat → Nat) (N : Nat) (h : mv_H) : Prop := mv_I h 53 4 = nI N ∧ mv_I h 53 5 = nI (tZ B N) ∧ ∀ l, l < tZ B N → cE B N l h
theorem tT_is {B : Nat → Nat} {N i : Nat} (h1 : ∀ l, l < i → tstop B N l = false) (h2 : tstop B N i = true) : tT B N = i := by
  rcases Nat.lt_trichotomy (tT B N) i with q | q | q
  · have := (tT_lt B N).2; rw [h1 _ q] at this; cases this
  · exact q
  · have := tT_n B N q
    unfold tstop at h2
    rw [decide_eq_false this.1, decide_eq_false this.2] at h2; cases h2
theorem cE.k {B : Nat → Nat} {N l i : Nat} {h : mv_H} {x1 x2 x3 : Int32} (e : cE B N l h) (hl : l < i) : cE B N l (kp h i x1 x2 x3) := by
  unfold cE kp
  rw [mx_InE (by omega), mx_InE (by omega), mx_InE (by omega), mx_Isk (by omega), mx_InE (by omega), mx_InE (by omega), mx_Isk (by omega), mx_InE (by omega), mx_InE (by omega), mx_Isk (by omega), mx_InE (by omega), mx_InE (by omega)]
  exact e
theorem ct70 {E : mv_E} {D k n : Nat} {h : mv_H} {Q : mv_Q} {B : Nat → Nat} {N : Nat} {x : Int32} (hx : x = nI N) (hN : N ≤ 900) (hB : ∀ j, j < N → B j < 256) (h51 : ∀ j, j < N → mv_I h 51 j = cb (B j)) (g : gS h) (H : ∀ h', mx_fz S70 h h' → cTk B N h' → mv_I h' 53 6 = 0 → Q none h') : mv_VE E (D + 8) k n 70 0 [some (.ref 53), some (.ref 51), some (.int x), none, none, none] [] h Q := by
  subst hx
  apply sg70_0
  rw [K51]
  refine mv_gdI rfl ?_
  have e4 : (if nI (21, 900).2 < nI N then nI (21, 900).2 else nI N) = nI N := by
    rw [if_neg (fun c => absurd ((nI_ltI (show 900 < 2 ^ 31 by omega) (show N < 2 ^ 31 by omega)).mp c) (by omega))]
  rw [e4]
  have zz : mx_fz S70 h (mv_sI (mv_sI (mv_sI (mv_sR h 53 3 51) 53 4 (nI N)) 53 5 0) 53 6 0) := (mx_fz.sR (S := S70) rfl).tr ((mx_fr.sI (S := S70) rfl).z.tr ((mx_fr.sI (S := S70) rfl).z.tr (mx_fr.sI (S := S70) rfl).z))
  have key : ∀ f p i h1, N - p ≤ f → p ≤ N → mx_fz S70 h h1 → cL B N h1 → lx B N p = lx B N (tpos B N i) → tpos B N i ≤ p → (∀ l, l < i → tstop B N l = false) → (∀ l, l < i → cE B N l h1) → mv_I h1 53 5 = nI i → mv_I h1 53 6 = 0 → mv_VE E (D + 8) k n 70 27 [some (.ref 53), none, none, some (.int (nI p)), none, none] [] h1 Q := by
    intro f
    have fin : ∀ p i h1, p = N → mx_fz S70 h h1 → cL B N h1 → lx B N p = lx B N (tpos B N i) → (∀ l, l < i → tstop B N l = false) → (∀ l, l < i → cE B N l h1) → mv_I h1 53 5 = nI i → mv_I h1 53 6 = 0 → mv_VE E (D + 8) k n 70 27 [some (.ref 53), none, none, some (.int (nI p)), none, none] [] h1 Q := by
      intro p i h1 hp z1 c1 le ns en e5 e6
      have k24 : tK B N i = 24 := by
        show (lx B N (tpos B N i)).1 = 24
        rw [← le]
        have := lx_ge (N := N) (c := lb B N) (p := p)
        unfold lx
        rw [if_pos (by omega)]
      have eT : tT B N = i := tT_is ns (by unfold tstop; rw [decide_eq_true k24]; rfl)
      have eZ : tZ B N = i := by unfold tZ; rw [eT, if_pos k24]
      apply sg70_27
      rw [c1.2.2.2.1]
      refine mx_ltF p N (by omega) (H h1 z1 ⟨c1.2.2.2.1, by rw [eZ]; exact e5, by rw [eZ]; exact en⟩ e6) (by omega)
    induction f with
    | zero =>
      intro p i h1 hf hp z1 c1 le tp ns en e5 e6
      exact fin p i h1 (by omega) z1 c1 le ns en e5 e6
    | succ f ih =>
      intro p i h1 hf hp z1 c1 le tp ns en e5 e6
      rcases (by omega : p = N ∨ p < N) with hp2 | hp2
      · exact fin p i h1 hp2 z1 c1 le ns en e5 e6
      · have ti := tpos_ge B N i (fun j hj c => by have := ns j hj; unfold tstop at this; rw [decide_eq_true c] at this; cases this)
        have bl := hB p hp2
        apply sg70_27
        rw [c1.2.2.2.1, e5, v51 c1 hp2]
        refine mx_ltT p N hp2 (mx_ltT i 901 (by omega) (mv_gdI (g51 c1 hp2) ?_) (by omega)) (by omega)
        have eb : pf71 (cb (B p)) = lb B N p := by rw [(cb_ok (B p) bl).1]; unfold lb; rw [decide_eq_true hp2, Bool.true_and]
        rw [eb]
        refine mx_cd (fun q => ?_) (fun q => ?_)
        · rw [nI_1]
          exact ih (p + 1) i h1 (by omega) (by omega) z1 c1 (by rw [← le]; unfold lx; rw [lx_t q hp2]) (by omega) ns en e5 e6
        · obtain ⟨b1, b2, b3, b4, b5, b6, b7⟩ := lx_b (B := B) (N := N) (p := p) (by omega)
          have ea : (lx B N p).2.1 = p := by
            unfold lx
            rw [lx_f q, if_neg (by omega)]
            split
            · rfl
            · split <;> rfl
          have n24 : (lx B N p).1 ≠ 24 := fun c => by have := b5 c; omega
          refine ct72 p i hp2 q (by omega) c1 e5 (fun x3 hx3 => ⟨_, rfl, ?_⟩)
          have en2 : ∀ l, l < i + 1 → cE B N l (kp h1 i (nI (ck (lx B N p).1)) (nI p) x3) := by
            intro l hl
            rcases (by omega : l < i ∨ l = i) with r | r
            · exact (en l r).k r
            · subst r
              unfold cE
              have t1 : tK B N l = (lx B N p).1 := by show (lx B N (tpos B N l)).1 = _; rw [le]
              have t2 : tA B N l = p := by show (lx B N (tpos B N l)).2.1 = _; rw [← le]; exact ea
              have t3 : tN B N l = (lx B N p).2.2.2 := by show (lx B N (tpos B N l)).2.2.2 = _; rw [le]
              rw [t1, t2, t3]
              unfold kp
              refine ⟨?_, ?_, fun c => ?_⟩
              · rw [mx_InE (by omega), mx_InE (by omega), mx_InE (by omega), mx_Iss]
              · rw [mx_InE (by omega), mx_InE (by omega), mx_Iss]
              · rw [mx_InE (by omega), mx_Iss]; exact hx3 c
          have e52 : mv_I (kp h1 i (nI (ck (lx B N p).1)) (nI p) x3) 53 5 = nI (i + 1) := mx_Iss
          have e62 : mv_I (kp h1 i (nI (ck (lx B N p).1)) (nI p) x3) 53 6 = 0 := by unfold kp; rw [mx_Isk (by omega), mx_InE (by omega), mx_InE (by omega), mx_InE (by omega)]; exact e6
          by_cases r : (lx B N p).1 = 25
          · rw [if_pos r]
            have k25 : tK B N i = 25 := by show (lx B N (tpos B N i)).1 = _; rw [← le]; exact r
            have eT : tT B N = i := tT_is ns (by unfold tstop; rw [decide_eq_true k25, Bool.or_true])
            have eZ : tZ B N = i + 1 := by unfold tZ; rw [eT, if_neg (by omega)]
            exact mx_ltF p p (Nat.le_refl _) (H _ (z1.tr kp_fz) ⟨c1.k.2.2.2.1, by rw [eZ]; exact e52, by rw [eZ]; exact en2⟩ e62) (by omega)
          · rw [if_neg r]
            have b6 := b6 n24
            refine mx_ltT p (lx B N p).2.2.1 (by omega) (ih (lx B N p).2.2.1 (i + 1) _ (by omega) b3 (z1.tr kp_fz) c1.k (by rw [le]; rfl) (by rw [le]; exact Nat.le_refl _) (fun l hl => ?_) en2 e52 e62) (by omega)
            rcases (by omega : l < i ∨ l = i) with y | y
            · exact ns l y
            · subst y
              have t1 : tK B N l = (lx B N p).1 := by show (lx B N (tpos B N l)).1 = _; rw [le]
              unfold tstop
              rw [t1, decide_eq_false n24, decide_eq_false r]; rfl
  refine key N 0 0 _ (by omega) (by omega) zz ⟨hN, hB, ?_, ?_, fun j hj => ?_, g.o (fun a ha => zz.I a (fun _ => S70f (by omega)))⟩ rfl (Nat.le_refl _) (fun l hl => absurd hl (by omega)) (fun l hl => absurd hl (by omega)) ?_ mx_Iss
  · show mv_R (mv_sR h 53 3 51) 53 3 = 51
    rw [mx_upR, if_pos ⟨rfl, rfl⟩]
  · rw [mx_Isk (by omega), mx_Isk (by omega), mx_Iss]
  · rw [zz.I 51 (fun _ => S70f (by omega))]; exact h51 j hj
  · rw [mx_Isk (by omega), mx_Iss]; rfl
/-- which token the class stands at -/
def cK (B : Nat → Nat) (N i : Nat) (h : mv_H) : Prop := cTk B N h ∧ mv_I h 53 6 = nI i ∧ i ≤ tT B N
theorem tZ_ge (B : Nat → Nat) (N : Nat) : tT B N ≤ tZ B N ∧ tZ B N ≤ N + 1 := by
  have := (tT_lt B N).1
  unfold tZ
  split <;> omega
theorem cK_z {B : Nat → Nat} {N i : Nat} (hi : i ≤ tT B N) (h : ¬ i < tZ B N) : i = tT B N ∧ tK B N i = 24 := by
  unfold tZ at h
  by_cases q : tK B N (tT B N) = 24
  · rw [if_pos q] at h
    have : i = tT B N := by omega
    exact ⟨this, by rw [this]; exact q⟩
  · rw [if_neg q] at h; omega
theorem ct81 {E : mv_E} {D k n : Nat} {h : mv_H} {Q : mv_Q} {B : Nat → Nat} {N i : Nat} (hN : N ≤ 900) (c : cK B N i h) (H : Q (some (.int (nI (ck (tK B N i))))) h) : mv_VE E D k n 81 0 [some (.ref 53)] [] h Q := by
  obtain ⟨⟨c4, c5, ce⟩, c6, ci⟩ := c
  have z := tZ_ge B N
  apply sg81_0
  rw [c5, c6, nI_clamp (by omega)]
  refine mx_lt i (tZ B N) (fun q => mv_gdI (mx_inT i (by omega) (by omega)) ?_) (fun q => ?_) (by omega) (by omega)
  · rw [(ce i q).1]; exact H
  · rw [(cK_z ci (by omega)).2] at H; exact H
theorem ct82 {E : mv_E} {D k n : Nat} {h : mv_H} {Q : mv_Q} {B : Nat → Nat} {N i : Nat} (hN : N ≤ 900) (c : cK B N i h) (H : Q (some (.int (nI (tA B N i)))) h) : mv_VE E D k n 82 0 [some (.ref 53)] [] h Q := by
  obtain ⟨⟨c4, c5, ce⟩, c6, ci⟩ := c
  have z := tZ_ge B N
  apply sg82_0
  rw [c5, c6, nI_clamp (by omega)]
  refine mx_lt i (tZ B N) (fun q => mv_gdI (mx_inT i (by omega) (by omega)) ?_) (fun q => ?_) (by omega) (by omega)
  · rw [(ce i q).2.1]; exact H
  · rw [c4]
    have e : tA B N i = N := (lx_b (tpos_le B N i)).2.2.2.2.1 (cK_z ci (by omega)).2
    rw [e] at H; exact H
theorem cTk.fr {B : Nat → Nat} {N : Nat} {S : Nat → Nat → Bool} {h h' : mv_H} (c : cTk B N h) (f : mx_fr S h h') (s1 : S 53 4 = false ∧ S 53 5 = false) (s2 : ∀ k, S 54 k = false ∧ S 55 k = false ∧ S 56 k = false) : cTk B N h' := ⟨by rw [f.2.2.1 _ _ s1.1]; exact c.1, by rw [f.2.2.1 _ _ s1.2]; exact c.2.1, fun l hl => by
  unfold cE
  rw [f.2.2.1 _ _ (s2 l).1, f.2.2.1 _ _ (s2 l).2.1, f.2.2.1 _ _ (s2 l).2.2]
  exact c.2.2 l hl⟩
def S83 (a k : Nat) : Bool := Nat.beq a 53 && Nat.beq k 6
theorem S83f {a k : Nat} (h : a ≠ 53 ∨ k ≠ 6) : S83 a k = false := by
  unfold S83
  rcases h with h | h
  · rw [mv_bne h]; rfl
  · rw [mv_bne h, Bool.and_false]
theorem ct83 {E : mv_E} {D k n : Nat} {h : mv_H} {Q : mv_Q} {B : Nat → Nat} {N i : Nat} (hN : N ≤ 900) (c : cK B N i h) (hk : tK B N i ≠ 24 ∧ tK B N i ≠ 25) (H : ∀ h', mx_fr S83 h h' → cK B N (i + 1) h' → Q none h') : mv_VE E D k n 83 0 [some (.ref 53)] [] h Q := by
  have ci := tT_adv c.2.2 hk
  have z := tZ_ge B N
  apply sg83_0
  rw [c.1.2.1, c.2.1, nI_1]
  have fr : mx_fr S83 h (mv_sI h 53 6 (nI (i + 1))) := mx_fr.sI rfl
  exact mx_ltT i (tZ B N) (by omega) (H _ fr ⟨c.1.fr fr ⟨rfl, rfl⟩ (fun _ => ⟨rfl, rfl, rfl⟩), mx_Iss, ci⟩) (by omega)
theorem ct84 {E : mv_E} {D k n : Nat} {h : mv_H} {Q : mv_Q} {B : Nat → Nat} {N i : Nat} (hN : N ≤ 900) (c : cK B N i h) (hk : tK B N i = 23) (H : Q (some (.int (nI (tN B N i)))) h) : mv_VE E D k n 84 0 [some (.ref 53)] [] h Q := by
  obtain ⟨⟨c4, c5, ce⟩, c6, ci⟩ := c
  have z := tZ_ge B N
  have ci2 := tT_adv ci (by omega)
  apply sg84_0
  rw [c5, c6, nI_clamp (by omega)]
  refine mx_ltT i (tZ B N) (by omega) (mv_gdI (mx_inT i (by omega) (by omega)) ?_) (by omega)
  rw [(ce i (by omega)).2.2 hk]; exact H
