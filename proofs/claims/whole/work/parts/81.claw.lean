/-! How the class reads a law. -/
def S5 (a k : Nat) : Bool := (Nat.beq a 58 && (Nat.beq k 2 || Nat.beq k 4)) || Nat.beq a 59 || Nat.beq a 60
def S2 (a k : Nat) : Bool := S5 a k || S83 a k
theorem S5_2 {a k : Nat} (h : S2 a k = false) : S5 a k = false := (Bool.or_eq_false_iff.mp h).1
theorem S83_2 {a k : Nat} (h : S2 a k = false) : S83 a k = false := (Bool.or_eq_false_iff.mp h).2
theorem fr5 {h h' : mv_H} (f : mx_fr S5 h h') : mx_fr S2 h h' := f.to (fun _ _ q => S5_2 q)
theorem fr83 {h h' : mv_H} (f : mx_fr S83 h h') : mx_fr S2 h h' := f.to (fun _ _ q => S83_2 q)
theorem cK.f5 {B : Nat → Nat} {N i : Nat} {h h' : mv_H} (c : cK B N i h) (f : mx_fr S5 h h') : cK B N i h' := ⟨c.1.fr f ⟨rfl, rfl⟩ (fun _ => ⟨rfl, rfl, rfl⟩), by rw [f.2.2.1 53 6 rfl]; exact c.2.1, c.2.2⟩
def wv (w : Nat) : Bool := decide (w = 18) || decide (w = 19) || decide (w = 20) || decide (w = 32) || decide (w = 33) || decide (w = 34) || decide (w = 35) || decide (w = 37) || decide (w = 39) || decide (w = 40) || decide (w = 41)
theorem wv_lt {w : Nat} (h : wv w = true) : w < 42 := by
  unfold wv at h
  simp only [Bool.or_eq_true, decide_eq_true_eq] at h
  omega
def wM (h : mv_H) : List Nat → Prop
  | [] => True
  | w :: W => mv_I h 60 W.length = nI (ck w) ∧ wv w = true ∧ wM h W
theorem wM.c {h h' : mv_H} (e : mv_I h' 60 = mv_I h 60) : ∀ {W : List Nat}, wM h W → wM h' W
  | [], _ => trivial
  | w :: W, m => ⟨by rw [e]; exact m.1, m.2.1, wM.c e m.2.2⟩
theorem wM.o {h : mv_H} {W : List Nat} {a k : Nat} {x : Int32} (ha : a ≠ 60) (m : wM h W) : wM (mv_sI h a k x) W := m.c (funext fun j => mx_InE (fun c => ha c.symm))
theorem wM.w {h : mv_H} {j : Nat} {x : Int32} : ∀ {W : List Nat}, W.length ≤ j → wM h W → wM (mv_sI h 60 j x) W
  | [], _, _ => trivial
  | w :: W, hj, m => ⟨by rw [mx_Isk (by have : W.length + 1 ≤ j := hj; omega)]; exact m.1, m.2.1, wM.w (by have : W.length + 1 ≤ j := hj; omega) m.2.2⟩
set_option maxRecDepth 100000 in
theorem ck_t : ∀ w, w < 42 → pf7 (nI (ck w)) = lbr w ∧ pf11 (nI (ck w)) = nI (lrk w) ∧ (nI (ck w) = 142 ↔ w = 20) ∧ (wv w = true → lbr w = false → cr_tr (lcd w) = 1000 + ck w) ∧ ck w < 1000 := by decide +kernel
theorem pf4_t : ∀ m, m < 42 → ∀ l, l < 2 → (if nI (ck m) = 132 then true else if nI (ck m) = 133 then true else if nI (ck m) = 134 then false else if nI (ck m) = 135 then false else if nI (ck m) = 136 then false else if nI (ck m) = 137 then false else if nI (ck m) = 138 then false else if nI (ck m) = 139 then true else if nI (ck m) = 140 then false else if nI (ck m) = 141 then false else if nI (ck m) = 142 then false else if nI (ck m) = 143 then false else if nI (ck m) = 144 then false else if nI (ck m) = 145 then true else if nI (ck m) = 146 then if nI (140 + l) = 140 then true else false else if nI (ck m) = 147 then if nI (140 + l) = 140 then true else false else if nI (ck m) = 148 then if nI (140 + l) = 140 then true else false else if nI (ck m) = 149 then if nI (140 + l) = 141 then true else false else false) = decide (lwd l m < 8) := by decide +kernel
theorem pf4_is {h : mv_H} {m l : Nat} (hm : m < 42) (hl : l < 2) (e : mv_I h 58 5 = nI (140 + l)) : pf4 h (nI (ck m)) = decide (lwd l m < 8) := by
  unfold pf4
  rw [e]
  exact pf4_t m hm l hl
theorem lwd_tr : ∀ m, m < 42 → ∀ l, l < 2 → lwd l m < 8 → cr_tr (1000 + lwd l m) = 1000 + ck m := by decide +kernel
theorem cki : ∀ m, m < 42 → (nI (ck m) = 1 ↔ m = 23) ∧ (nI (ck m) = 142 ↔ m = 20) ∧ (nI (ck m) = 40 ↔ m = 35) ∧ (nI (ck m) = 91 ↔ m = 37) ∧ (nI (ck m) = 41 ↔ m = 36) ∧ (nI (ck m) = 42 ↔ m = 34) ∧ (nI (ck m) = 43 ↔ m = 32) ∧ (nI (ck m) = 45 ↔ m = 33) ∧ (nI (ck m) = 59 ↔ m = 30) ∧ (nI (ck m) = 60 ↔ m = 40) ∧ (nI (ck m) = 61 ↔ m = 39) ∧ (nI (ck m) = 62 ↔ m = 41) ∧ (nI (ck m) = 93 ↔ m = 38) ∧ (nI (ck m) = 143 ↔ m = 18) ∧ (nI (ck m) = 144 ↔ m = 19) := by decide +kernel
/-- the rows of the reader -/
def cN (l : Nat) (R W : List Nat) (h : mv_H) : Prop := mv_I h 58 5 = nI (140 + l) ∧ mv_I h 58 2 = nI R.length ∧ mv_I h 58 4 = nI W.length ∧ (∀ j, j < R.length → mv_I h 59 j = nI (cr_tr (R.getD j 0))) ∧ wM h W ∧ W.length ≤ 64 ∧ R.length + W.length ≤ 900
theorem cN.f83 {l : Nat} {R W : List Nat} {h h' : mv_H} (c : cN l R W h) (f : mx_fr S83 h h') : cN l R W h' := ⟨by rw [f.2.2.1 58 5 rfl]; exact c.1, by rw [f.2.2.1 58 2 rfl]; exact c.2.1, by rw [f.2.2.1 58 4 rfl]; exact c.2.2.1, fun j hj => by rw [f.2.2.1 59 j rfl]; exact c.2.2.2.1 j hj, c.2.2.2.2.1.c (f.I 60 (fun _ => rfl)), c.2.2.2.2.2⟩
theorem ct5 {E : mv_E} {D k n : Nat} {h : mv_H} {Q : mv_Q} {l : Nat} {R W : List Nat} {x : Int32} (c : Nat) (e : x = nI (cr_tr c)) (s : cN l R W h) (hR : R.length + W.length < 900) (H : ∀ h', mx_fr S5 h h' → cN l (R ++ [c]) W h' → Q none h') : mv_VE E D k n 5 0 [some (.ref 58), some (.int x)] [] h Q := by
  subst e
  apply sg5_0
  rw [s.2.1, nI_clamp (by omega), nI_1]
  refine mx_ltT R.length 900 (by omega) (mv_gdI (mx_inT R.length (by omega) (by omega)) (H _ ((mx_fr.sI rfl).tr (mx_fr.sI rfl)) ⟨?_, ?_, ?_, fun j hj => ?_, (s.2.2.2.2.1.o (by omega)).o (by omega), s.2.2.2.2.2.1, ?_⟩)) (by omega)
  · rw [mx_Isk (by omega), mx_InE (by omega)]; exact s.1
  · rw [mx_Iss, List.length_append]; rfl
  · rw [mx_Isk (by omega), mx_InE (by omega)]; exact s.2.2.1
  · rw [List.length_append] at hj
    have hj : j < R.length + 1 := hj
    rw [mx_InE (by omega), getD_app]
    by_cases q : j = R.length
    · rw [if_pos q, q, mx_Iss]
    · rw [if_neg q, mx_Isk q]; exact s.2.2.2.1 j (by omega)
  · rw [List.length_append]; show R.length + 1 + W.length ≤ 900; omega
theorem pr_len {r : Nat} : ∀ {W R : List Nat}, (pr r R W).1.length + (pr r R W).2.length = R.length + W.length
  | [], R => rfl
  | w :: W, R => by
    unfold pr
    split
    · rfl
    · rw [pr_len, List.length_append]; show R.length + 1 + W.length = R.length + (W.length + 1); omega
theorem ct12 {E : mv_E} {D k n : Nat} {Q : mv_Q} {l r : Nat} (hr : r ≤ 6) : ∀ {W R : List Nat} {h : mv_H}, cN l R W h → (∀ h', mx_fr S5 h h' → cN l (pr r R W).1 (pr r R W).2 h' → Q none h') → mv_VE E (D + 1) k n 12 0 [some (.ref 58), some (.int (nI r))] [] h Q := by
  intro W
  induction W with
  | nil =>
    intro R h s H
    apply sg12_0
    rw [s.2.2.1]
    exact mx_ltF 0 0 (by omega) (H h mx_fr.rf s) (by omega)
  | cons w W ih =>
    intro R h s H
    obtain ⟨m1, m2, m3⟩ := s.2.2.2.2.1
    obtain ⟨t1, t2, t3, t4, t5⟩ := ck_t w (wv_lt m2)
    have l64 : W.length + 1 ≤ 64 := s.2.2.2.2.2.1
    have l9 : R.length + (W.length + 1) ≤ 900 := s.2.2.2.2.2.2
    apply sg12_0
    rw [s.2.2.1, show (w :: W).length = W.length + 1 from rfl, nI_pred, nI_clamp (by omega), m1, t1, t2]
    refine mx_ltT 0 (W.length + 1) (by omega) (mv_gdI (mx_inT W.length (by omega) (by omega)) (mx_cd (fun q => ?_) (fun q => mv_gdI (mx_inT W.length (by omega) (by omega)) (mx_lt (lrk w) r (fun q2 => ?_) (fun q2 => mv_gdI (mx_inT W.length (by omega) (by omega)) ?_) (by have := lrk_6 w; omega) (by omega))))) (by omega)
    · rw [pr_b q] at H; exact H h mx_fr.rf s
    · have e : pr r R (w :: W) = (R, w :: W) := pr_s (by show (if lbr w = true then 0 else lrk w) < r; rw [if_neg (by rw [q]; decide)]; exact q2)
      rw [e] at H; exact H h mx_fr.rf s
    · rw [pr_c q q2] at H
      have fr : mx_fr S5 h (mv_sI h 58 4 (nI W.length)) := mx_fr.sI rfl
      have s1 : cN l R W (mv_sI h 58 4 (nI W.length)) := ⟨by rw [mx_Isk (by omega)]; exact s.1, by rw [mx_Isk (by omega)]; exact s.2.1, mx_Iss, fun j hj => by rw [mx_InE (by omega)]; exact s.2.2.2.1 j hj, m3.o (by omega), by omega, by omega⟩
      exact ct5 (lcd w) (by rw [show (1000 : Int32) = nI 1000 from rfl, nI_add, t4 m2 q]) s1 (by omega) (fun h1 f1 s2 => ⟨rfl, ih s2 (fun h2 f2 s3 => H h2 ((fr.tr f1).tr f2) s3)⟩)
theorem nI_m1 (a : Nat) : nI a + (-1) = nI a - 1 := (Int32.sub_eq_add_neg _ _).symm
def bcl (W : List Nat) : Int32 := if br W = 0 then 0 else nI (ck (br W))
theorem ct13 {E : mv_E} {D k n : Nat} {h : mv_H} {Q : mv_Q} {l : Nat} {R W : List Nat} (s : cN l R W h) (H : Q (some (.int (bcl W))) h) : mv_VE E (D + 1) k n 13 0 [some (.ref 58), none] [] h Q := by
  have key : ∀ V, wM h V → V.length ≤ 64 → (∀ r, r = bcl V → Q (some (.int r)) h) → mv_VE E (D + 1) k n 13 7 [some (.ref 58), some (.int (nI V.length - 1))] [] h Q := by
    intro V
    induction V with
    | nil =>
      intro m lv K
      apply sg13_7
      rw [if_pos (by decide)]
      exact K _ rfl
    | cons w V ih =>
      intro m lv K
      have lv : V.length + 1 ≤ 64 := lv
      obtain ⟨m1, m2, m3⟩ := m
      obtain ⟨t1, -⟩ := ck_t w (wv_lt m2)
      apply sg13_7
      rw [show (w :: V).length = V.length + 1 from rfl, nI_pred, nI_clamp (by omega), m1, t1, nI_m1]
      refine mx_ltF V.length 0 (by omega) (mv_gdI (mx_inT V.length (by omega) (by omega)) (mx_cd (fun q => mv_gdI (mx_inT V.length (by omega) (by omega)) (K _ ?_)) (fun q => ih m3 (by omega) (fun r hr => K r ?_)))) (by omega)
      · have e : br (w :: V) = w := by show (if lbr w = true then w else br V) = w; rw [if_pos q]
        unfold bcl
        rw [e, if_neg (fun c => by rw [c] at q; exact absurd q (by decide))]
      · rw [hr]; unfold bcl; rw [brk_c q]
  apply sg13_0
  rw [s.2.2.1]
  exact key W s.2.2.2.2.1 s.2.2.2.2.2.1 (fun r hr => by rw [hr]; exact H)
theorem ct14 {E : mv_E} {D k n : Nat} {h : mv_H} {Q : mv_Q} {l : Nat} {R W : List Nat} (s : cN l R W h) (H : Q (some (.int (cond (cmpd W) 1 0))) h) : mv_VE E (D + 1) k n 14 0 [some (.ref 58), none] [] h Q := by
  have key : ∀ V, wM h V → V.length ≤ 64 → (∀ r, r = cond (cmpd V) (1 : Int32) 0 → Q (some (.int r)) h) → mv_VE E (D + 1) k n 14 7 [some (.ref 58), some (.int (nI V.length - 1))] [] h Q := by
    intro V
    induction V with
    | nil =>
      intro m lv K
      apply sg14_7
      rw [if_pos (by decide)]
      exact K _ rfl
    | cons w V ih =>
      intro m lv K
      have lv : V.length + 1 ≤ 64 := lv
      obtain ⟨m1, m2, m3⟩ := m
      obtain ⟨t1, t2, -⟩ := ck_t w (wv_lt m2)
      apply sg14_7
      rw [show (w :: V).length = V.length + 1 from rfl, nI_pred, nI_clamp (by omega), m1, t1, t2, nI_m1]
      refine mx_ltF V.length 0 (by omega) (mv_gdI (mx_inT V.length (by omega) (by omega)) (mx_cd (fun q => K _ ?_) (fun q => mv_gdI (mx_inT V.length (by omega) (by omega)) (mx_eq (lrk w) 4 (fun y => K _ ?_) (fun y => ih m3 (by omega) (fun r hr => K r ?_)) (by have := lrk_6 w; omega) (by omega))))) (by omega)
      · have e : cmpd (w :: V) = false := by show (if lbr w = true then false else if lrk w = 4 then true else cmpd V) = false; rw [if_pos q]
        rw [e]; rfl
      · rw [cmpd_4 q y]; rfl
      · rw [hr, cmpd_c q y]
  apply sg14_0
  rw [s.2.2.1]
  exact key W s.2.2.2.2.1 s.2.2.2.2.2.1 (fun r hr => by rw [hr]; exact H)
theorem br_w {h : mv_H} : ∀ {W : List Nat}, wM h W → br W = 0 ∨ br W = 35 ∨ br W = 37
  | [], _ => Or.inl rfl
  | w :: W, m => by
    show (if lbr w = true then w else br W) = 0 ∨ (if lbr w = true then w else br W) = 35 ∨ (if lbr w = true then w else br W) = 37
    by_cases q : lbr w = true
    · rw [if_pos q]
      unfold lbr at q
      simp only [Bool.or_eq_true, decide_eq_true_eq] at q
      omega
    · rw [if_neg q]; exact br_w m.2.2
theorem bcl_is {h : mv_H} {W : List Nat} (m : wM h W) : (bcl W = 0 ↔ br W = 0) ∧ (bcl W = 40 ↔ br W = 35) ∧ (bcl W = 91 ↔ br W = 37) := by
  unfold bcl
  rcases br_w m with e | e | e <;> rw [e] <;> decide +kernel
theorem ct15 {E : mv_E} {D k n : Nat} {h : mv_H} {Q : mv_Q} {l p : Nat} {R W : List Nat} (hp : p = 3 ∨ p = 4) (s : cN l R W h) (H : Q (some (.int (cond (mwh p W) 1 0))) h) : mv_VE E (D + 2) k n 15 0 [some (.ref 58), some (.int (nI p))] [] h Q := by
  apply sg15_0
  refine mx_eq p 4 (fun q => ?_) (fun q => ?_) (by omega) (by omega)
  · rw [q] at H; exact H
  · refine ct13 s ⟨_, rfl, mx_if (fun y => ?_) (fun y => ct14 s ⟨_, rfl, ?_⟩)⟩
    · have e : mwh p W = false := by unfold mwh; rw [decide_eq_false q, decide_eq_true ((bcl_is s.2.2.2.2.1).2.1.mp y)]; rfl
      rw [e] at H; exact H
    · have e : mwh p W = cmpd W := by unfold mwh; rw [decide_eq_false q, decide_eq_false (fun c => y ((bcl_is s.2.2.2.2.1).2.1.mpr c))]; rfl
      rw [e] at H
      exact st76 (fun z => by rw [z] at H; exact H) (fun z => by rw [z] at H; exact H)
theorem ct6 {E : mv_E} {D k n : Nat} {h : mv_H} {Q : mv_Q} {l : Nat} {R W : List Nat} (s : cN l R W h) (H : Q (some (.int (nI (dep W)))) h) : mv_VE E (D + 1) k n 6 0 [some (.ref 58), none, none] [] h Q := by
  apply sg6_0
  have key : ∀ V, wM h V → V.length ≤ W.length → mv_VE E (D + 1) k n 6 4 [some (.ref 58), some (.int (nI (dep V))), some (.int (nI V.length))] [] h Q → mv_VE E (D + 1) k n 6 4 [some (.ref 58), some (.int 0), some (.int 0)] [] h Q := by
    intro V
    induction V with
    | nil => intro _ _ K; exact K
    | cons w V ih =>
      intro m lv K
      have lv : V.length + 1 ≤ W.length := lv
      have l64 := s.2.2.2.2.2.1
      obtain ⟨m1, m2, m3⟩ := m
      obtain ⟨t1, t2, t3, -⟩ := ck_t w (wv_lt m2)
      refine ih m3 (by omega) ?_
      apply sg6_4
      rw [s.2.2.1, nI_clamp (by omega), m1, t1, nI_1, nI_1]
      refine mx_ltT V.length W.length (by omega) (mv_gdI (mx_inT V.length (by omega) (by omega)) (mx_if (fun q => ?_) (fun q => mv_gdI (mx_inT V.length (by omega) (by omega)) (mx_cd (fun y => ?_) (fun y => ?_))))) (by omega)
      · rw [dep_b (Or.inr (t3.mp q))] at K; exact K
      · rw [dep_b (Or.inl y)] at K; exact K
      · rw [dep_c y (fun c => q (t3.mpr c))] at K; exact K
  refine key W s.2.2.2.2.1 (Nat.le_refl _) ?_
  apply sg6_4
  rw [s.2.2.1]
  exact mx_ltF W.length W.length (Nat.le_refl _) H (by have := s.2.2.2.2.2.1; omega)
/-- a sign waits -/
theorem ct8 {E : mv_E} {D k n : Nat} {h : mv_H} {Q : mv_Q} {B : Nat → Nat} {N l i : Nat} {R W : List Nat} {x2 : Int32} (hN : N ≤ 900) (s : cN l R W h) (c : cK B N i h) (hw : wv (tK B N i) = true) (hl : R.length + W.length < 900) (H : W.length < 64 → ∀ h', mx_fr S2 h h' → cN l R (tK B N i :: W) h' → cK B N (i + 1) h' → Q (some (.int x2)) h') (H4 : 64 ≤ W.length → Q (some (.int (-4))) h) : mv_VE E (D + 1) k n 8 0 [some (.ref 58), some (.int (nI (ck (tK B N i)))), some (.int x2)] [] h Q := by
  have l64 := s.2.2.2.2.2.1
  apply sg8_0
  rw [s.2.2.1, nI_clamp (by omega), nI_1]
  refine mx_lt W.length 64 (fun q => mv_gdI (mx_inT W.length (by omega) (by omega)) ?_) (fun q => H4 q) (by omega) (by omega)
  have fr : mx_fr S5 h (mv_sI (mv_sI h 60 W.length (nI (ck (tK B N i)))) 58 4 (nI (W.length + 1))) := (mx_fr.sI rfl).tr (mx_fr.sI rfl)
  have nk : tK B N i ≠ 24 ∧ tK B N i ≠ 25 := ⟨fun e => (by rw [e] at hw; cases hw), fun e => (by rw [e] at hw; cases hw)⟩
  refine ct83 hN (c.f5 fr) nk (fun h' f1 c1 => ⟨rfl, H q h' ((fr5 fr).tr (fr83 f1)) (cN.f83 ⟨?_, ?_, ?_, fun j hj => ?_, ?_, ?_, ?_⟩ f1) c1⟩)
  · rw [mx_Isk (by omega), mx_InE (by omega)]; exact s.1
  · rw [mx_Isk (by omega), mx_InE (by omega)]; exact s.2.1
  · exact mx_Iss
  · rw [mx_InE (by omega), mx_InE (by omega)]; exact s.2.2.2.1 j hj
  · exact ⟨by rw [mx_InE (by omega), mx_Iss], hw, (s.2.2.2.2.1.w (Nat.le_refl _)).o (by omega)⟩
  · show W.length + 1 ≤ 64; omega
  · show R.length + (W.length + 1) ≤ 900; omega
