/-! Texts: strings of the program, tokens. -/
def ksb (i j : Nat) : Nat := ((mv_byt.getD i []).getD j 0).toNatClampNeg
def ksl (i : Nat) : Nat := mv_len.getD i 0
set_option maxRecDepth 100000 in
theorem ks_ok : ∀ i, i < 23 → ∀ j, j < ksl i → (mv_byt.getD i []).getD j 0 = nI (ksb i j) ∧ ksb i j < 128 ∧ ((nI (ksb i j) &&& 255).toUInt32 % 65536).toInt32 = nI (ksb i j) ∧ mv_in (nI (ksb i j)) 128 = true := by decide +kernel
theorem ksl_lt : ∀ i, i < 23 → ksl i < 128 := by decide +kernel
/-- the strings are as they were -/
def gS (h : mv_H) : Prop := (∀ i, i < 23 → mv_I h (1 + i) 1 = 0) ∧ ∀ i, i < 23 → ∀ j, mv_I h (24 + i) j = (mv_byt.getD i []).getD j 0
theorem gS.o {h h' : mv_H} (g : gS h) (e : ∀ a, a < 50 → mv_I h' a = mv_I h a) : gS h' := ⟨fun i hi => by rw [e _ (by omega)]; exact g.1 i hi, fun i hi j => by rw [e _ (by omega)]; exact g.2 i hi j⟩
theorem ks_sh {i : Nat} (hi : i < 23) (E : mv_E) (h : mv_H) : mv_KE E h (1 + i) = (30, 2) ∧ mv_RE E h (1 + i) 0 = 24 + i ∧ mv_KE E h (24 + i) = (31, ksl i) := by
  rcases (by omega : i = 0 ∨ i = 1 ∨ i = 2 ∨ i = 3 ∨ i = 4 ∨ i = 5 ∨ i = 6 ∨ i = 7 ∨ i = 8 ∨ i = 9 ∨ i = 10 ∨ i = 11 ∨ i = 12 ∨ i = 13 ∨ i = 14 ∨ i = 15 ∨ i = 16 ∨ i = 17 ∨ i = 18 ∨ i = 19 ∨ i = 20 ∨ i = 21 ∨ i = 22) with rfl | rfl | rfl | rfl | rfl | rfl | rfl | rfl | rfl | rfl | rfl | rfl | rfl | rfl | rfl | rfl | rfl | rfl | rfl | rfl | rfl | rfl | rfl <;> exact ⟨rfl, rfl, rfl⟩
theorem ct309 {E : mv_E} {D k n : Nat} {h : mv_H} {Q : mv_Q} {x : Nat} (i : Nat) (hi : i < 23) (g : gS h) (e : x = 1 + i) (H : Q (some (.int (nI (ksl i)))) h) : mv_VE E (D + 1) k n 309 0 [some (.ref x)] [] h Q := by
  subst e
  obtain ⟨s1, s2, s3⟩ := ks_sh hi E h
  have l := ksl_lt i hi
  apply sg309_0
  rw [s1, s2, s3]
  refine mv_gdI rfl (mv_gdI rfl (mv_gdI rfl ?_))
  apply sg310_0
  rw [s1, g.1 i hi]
  refine mv_gdI rfl (mv_gdI rfl ⟨_, rfl, ?_⟩)
  have e := mx_shr (s := ksl i) (p := 0) (by omega) (by omega)
  rw [Nat.pow_zero, Nat.div_one] at e
  rw [show nI (ksl i) >>> ((0 : Int32) &&& 31) = nI (ksl i) from e]
  exact H
theorem ct311 {E : mv_E} {D k n : Nat} {h : mv_H} {Q : mv_Q} {x : Nat} {y : Int32} (i j : Nat) (hi : i < 23) (hj : j < ksl i) (g : gS h) (e : x = 1 + i) (e2 : y = nI j) (H : Q (some (.int (nI (ksb i j)))) h) : mv_VE E (D + 3) k n 311 0 [some (.ref x), some (.int y)] [] h Q := by
  subst e; subst e2
  obtain ⟨s1, s2, s3⟩ := ks_sh hi E h
  have l := ksl_lt i hi
  obtain ⟨k1, k2, k3, k4⟩ := ks_ok i hi j hj
  apply sg311_0
  rw [s1]
  refine mv_gdI rfl ?_
  apply sg312_0
  rw [s1, g.1 i hi]
  refine mv_gdI rfl ?_
  rw [if_pos rfl]
  refine ⟨_, rfl, ?_⟩
  rw [if_neg (by decide), s2]
  refine mv_gdI rfl ?_
  apply sg316_0
  rw [s3]
  refine mv_gdI rfl ?_
  apply sg313_0
  apply sg323_0
  refine mx_ltF j 0 (by omega) (mx_ltT j (ksl i) hj ⟨_, rfl, rfl, ?_⟩ (by omega)) (by omega)
  rw [s3, nI_clamp (n := j) (by omega), g.2 i hi j, k1, k3]
  refine mv_gdI (by rw [mx_in j hj (by omega)]; rfl) (mv_gdI k4 ⟨_, rfl, mv_gdI k4 H⟩)
/-- which sign -/
def wfind (c : Nat → Bool) : Nat → Nat → Nat
  | 0, i => i
  | f + 1, i => if c i = true then i else wfind c f (i + 1)
theorem wfind_le (c : Nat → Bool) : ∀ f i, i ≤ wfind c f i ∧ wfind c f i ≤ i + f
  | 0, i => ⟨Nat.le_refl _, Nat.le_refl _⟩
  | f + 1, i => by
    unfold wfind
    split
    · exact ⟨Nat.le_refl _, by omega⟩
    · have := wfind_le c f (i + 1); exact ⟨by omega, by omega⟩
theorem wfind_t {c : Nat → Bool} : ∀ f i, wfind c f i < i + f → c (wfind c f i) = true
  | 0, i, h => by have : wfind c 0 i = i := rfl; omega
  | f + 1, i, h => by
    unfold wfind at h ⊢
    by_cases q : c i = true
    · rw [if_pos q]; exact q
    · rw [if_neg q] at h ⊢; exact wfind_t f (i + 1) (by omega)
theorem wfind_n {c : Nat → Bool} : ∀ f i j, i ≤ j → j < wfind c f i → c j = false
  | 0, i, j, h1, h2 => by have : wfind c 0 i = i := rfl; omega
  | f + 1, i, j, h1, h2 => by
    unfold wfind at h2
    by_cases q : c i = true
    · rw [if_pos q] at h2; omega
    · rw [if_neg q] at h2
      rcases (by omega : j = i ∨ i + 1 ≤ j) with r | r
      · rw [r]; cases z : c i with
        | false => rfl
        | true => exact absurd z q
      · exact wfind_n f (i + 1) j r h2
def sgi (c : Nat) : Nat := wfind (fun k => ksb 21 k == c) 12 0
theorem sgi_le (c : Nat) : sgi c ≤ 12 := by have := (wfind_le (fun k => ksb 21 k == c) 12 0).2; unfold sgi; omega
theorem sgi_t {c : Nat} (h : sgi c < 12) : ksb 21 (sgi c) = c := by
  have := wfind_t (c := fun k => ksb 21 k == c) 12 0 (by unfold sgi at h; omega)
  unfold sgi
  simpa using this
set_option maxRecDepth 100000 in
theorem sg_i8 : ∀ c, c < 128 → (nI c).toInt8.toInt32 = nI c ∧ ((nI c).toUInt32 % 65536).toInt32 = nI c := by decide +kernel
theorem ct314 {E : mv_E} {D k n : Nat} {h : mv_H} {Q : mv_Q} {y : Int32} (c : Nat) (hc : c < 128) (g : gS h) (e2 : y = nI c) (H : Q (some (.int (if sgi c < 12 then nI (sgi c) else -1))) h) : mv_VE E (D + 3) k n 314 0 [some (.ref 22), some (.int y)] [] h Q := by
  subst e2
  obtain ⟨s1, s2, s3⟩ := ks_sh (show 21 < 23 by omega) E h
  have s1 : mv_KE E h 22 = (30, 2) := s1
  have s2 : mv_RE E h 22 0 = 45 := s2
  have s3 : mv_KE E h 45 = (31, 12) := s3
  apply sg314_0
  rw [s1]
  refine mv_gdI rfl ?_
  apply sg315_0
  rw [s1]
  refine mv_gdI rfl ?_
  apply sg312_0
  rw [s1, show mv_I h 22 1 = 0 from g.1 21 (by omega)]
  refine mv_gdI rfl ?_
  rw [if_pos rfl]
  refine ⟨_, rfl, ?_⟩
  rw [if_neg (by decide), s2]
  refine mv_gdI rfl (mv_gdI rfl (ct309 21 (by omega) g rfl ⟨_, rfl, ?_⟩))
  apply sg317_0
  apply sg318_0
  refine mx_ltF c 0 (by omega) (mx_ltF 255 c (by omega) ⟨_, rfl, ?_⟩ (by omega)) (by omega)
  rw [if_neg (by decide), s3]
  refine mv_gdI rfl ?_
  rw [if_neg (show ¬ (0 : Int32) < 0 by decide), if_neg (show ¬ nI 12 < nI (ksl 21) by decide)]
  refine mx_ltT 0 12 (by omega) ?_ (by omega)
  apply sg319_0
  rw [(sg_i8 c hc).1]
  have key : ∀ f i, i + f = 12 → (∀ (Q' : mv_Q), (∀ r, r = (if wfind (fun k => ksb 21 k == c) f i < 12 then nI (wfind (fun k => ksb 21 k == c) f i) else -1) → Q' (some (.int r)) h) → mv_VE E D 0 0 319 7 [some (.ref 45), none, none, some (.int (nI (ksl 21))), some (.int (nI c)), some (.int (nI i))] [] h Q') := by
    intro f
    induction f with
    | zero =>
      intro i hi Q' K
      apply sg319_7
      have w : wfind (fun k => ksb 21 k == c) 0 i = i := rfl
      rw [w, if_neg (by omega)] at K
      exact mx_ltF i 12 (by omega) (K _ rfl) (by omega)
    | succ f ih =>
      intro i hi Q' K
      obtain ⟨k1, k2, -⟩ := ks_ok 21 (by omega) i (show i < 12 by omega)
      apply sg319_7
      rw [s3, nI_clamp (n := i) (by omega), show mv_I h 45 i = _ from g.2 21 (by omega) i, k1, nI_1]
      refine mx_ltT i 12 (by omega) (mv_gdI (by rw [mx_in i (by omega) (by omega)]; rfl) ?_) (by omega)
      unfold wfind at K
      refine mx_eq (ksb 21 i) c (fun q => ?_) (fun q => ?_) (by omega) (by omega)
      · have q' : (fun k => ksb 21 k == c) i = true := by simpa using q
        rw [if_pos q', if_pos (by omega)] at K
        exact K _ rfl
      · have q' : ¬ (fun k => ksb 21 k == c) i = true := by simpa using q
        rw [if_neg q'] at K
        exact ih (i + 1) (by omega) Q' K
  refine key 12 0 (by omega) _ (fun r hr => ⟨_, rfl, _, rfl, _, rfl, ?_⟩)
  rw [hr]; exact H
-- spans
def lx_run (c : Nat → Bool) : Nat → Nat → Nat
  | 0, p => p
  | f + 1, p => if c p = true then lx_run c f (p + 1) else p
def lx_sp (N : Nat) (c : Nat → Bool) (p : Nat) : Nat := lx_run c (N - p) p
theorem lx_t {N : Nat} {c : Nat → Bool} {p : Nat} (h : c p = true) (hp : p < N) : lx_sp N c p = lx_sp N c (p + 1) := by
  unfold lx_sp
  rw [show N - p = N - (p + 1) + 1 by omega]
  show (if c p = true then lx_run c (N - (p + 1)) (p + 1) else p) = _
  rw [if_pos h]
theorem lx_f {N : Nat} {c : Nat → Bool} {p : Nat} (h : c p = false) : lx_sp N c p = p := by
  unfold lx_sp
  cases N - p with
  | zero => rfl
  | succ f => show (if c p = true then _ else p) = p; rw [if_neg (by rw [h]; decide)]
theorem lx_run_b {c : Nat → Bool} : ∀ f p, p ≤ lx_run c f p ∧ lx_run c f p ≤ p + f
  | 0, p => ⟨Nat.le_refl _, Nat.le_refl _⟩
  | f + 1, p => by
    unfold lx_run
    split
    · have := lx_run_b (c := c) f (p + 1); exact ⟨by omega, by omega⟩
    · exact ⟨Nat.le_refl _, by omega⟩
theorem lx_ge {N : Nat} {c : Nat → Bool} {p : Nat} : p ≤ lx_sp N c p := (lx_run_b _ _).1
theorem lx_le {N : Nat} {c : Nat → Bool} {p : Nat} (h : p ≤ N) : lx_sp N c p ≤ N := by
  have := (lx_run_b (c := c) (N - p) p).2
  unfold lx_sp
  omega
theorem lx_end {N : Nat} {c : Nat → Bool} (hc : ∀ q, c q = true → q < N) {p : Nat} (h : p ≤ N) : c (lx_sp N c p) = false := by
  have key : ∀ f p, p + f = N → c (lx_run c f p) = false := by
    intro f
    induction f with
    | zero =>
      intro p hp
      show c p = false
      cases z : c p with
      | false => rfl
      | true => have := hc p z; omega
    | succ f ih =>
      intro p hp
      unfold lx_run
      by_cases q : c p = true
      · rw [if_pos q]; exact ih (p + 1) (by omega)
      · rw [if_neg q]
        cases z : c p with
        | false => rfl
        | true => exact absurd z q
  exact key (N - p) p (by omega)
theorem lx_all {N : Nat} {c : Nat → Bool} {p : Nat} : ∀ q, p ≤ q → q < lx_sp N c p → c q = true := by
  have key : ∀ f p q, p ≤ q → q < lx_run c f p → c q = true := by
    intro f
    induction f with
    | zero => intro p q h1 h2; have : lx_run c 0 p = p := rfl; omega
    | succ f ih =>
      intro p q h1 h2
      unfold lx_run at h2
      by_cases z : c p = true
      · rw [if_pos z] at h2
        rcases (by omega : q = p ∨ p + 1 ≤ q) with r | r
        · rw [r]; exact z
        · exact ih (p + 1) q r h2
      · rw [if_neg z] at h2; omega
  exact key (N - p) p
def lb (B : Nat → Nat) (N p : Nat) : Bool := decide (p < N) && (decide (B p = 10) || decide (B p = 32))
def ll (B : Nat → Nat) (N p : Nat) : Bool := decide (p < N) && (decide (97 ≤ B p) && decide (B p ≤ 122))
def ld (B : Nat → Nat) (N p : Nat) : Bool := decide (p < N) && (decide (48 ≤ B p) && decide (B p ≤ 57))
theorem lb_lt {B : Nat → Nat} {N : Nat} (q : Nat) (h : lb B N q = true) : q < N := by
  unfold lb at h; rw [Bool.and_eq_true] at h; simpa using h.1
theorem ll_lt {B : Nat → Nat} {N : Nat} (q : Nat) (h : ll B N q = true) : q < N := by
  unfold ll at h; rw [Bool.and_eq_true] at h; simpa using h.1
theorem ld_lt {B : Nat → Nat} {N : Nat} (q : Nat) (h : ld B N q = true) : q < N := by
  unfold ld at h; rw [Bool.and_eq_true] at h; simpa using h.1
/-- does a word stand there -/
def eqw (B : Nat → Nat) (a b c : Nat) : Bool := decide (b - a = ksl c) && sp_al (fun j => decide (B (a + j) = ksb c j)) (ksl c) 0
def wx (B : Nat → Nat) (a b : Nat) : Nat := wfind (eqw B a b) 21 0
def wmk (c : Nat) : Nat := ([0, 1, 2, 3, 4, 5, 6, 7, 8, 9, 10, 11, 12, 20, 18, 19, 13, 14, 15, 16, 17, 22] : List Nat).getD c 22
theorem wx_le (B : Nat → Nat) (a b : Nat) : wx B a b ≤ 21 := by have := (wfind_le (eqw B a b) 21 0).2; unfold wx; omega
theorem eqw_ch {B : Nat → Nat} {a b c : Nat} (h : eqw B a b c = true) : b - a = ksl c ∧ ∀ j, j < ksl c → B (a + j) = ksb c j := by
  unfold eqw at h
  rw [Bool.and_eq_true] at h
  exact ⟨by simpa using h.1, fun j hj => by have := sp_alT (ksl c) 0 h.2 j (by omega) (by omega); simpa using this⟩
theorem ks_ne : ∀ c, c < 21 → ∀ d, d < 21 → c ≠ d → ksl c ≠ ksl d ∨ ∃ j, j < ksl c ∧ ksb c j ≠ ksb d j := by decide +kernel
theorem eqw_un {B : Nat → Nat} {a b c d : Nat} (hc : c < 21) (hd : d < 21) (h1 : eqw B a b c = true) (h2 : eqw B a b d = true) : c = d := by
  by_cases q : c = d
  · exact q
  · exfalso
    obtain ⟨l1, b1⟩ := eqw_ch h1
    obtain ⟨l2, b2⟩ := eqw_ch h2
    rcases ks_ne c hc d hd q with r | ⟨j, hj, r⟩
    · omega
    · exact r (by rw [← b1 j hj, b2 j (by omega)])
theorem wx_t {B : Nat → Nat} {a b : Nat} (h : wx B a b < 21) : eqw B a b (wx B a b) = true := wfind_t 21 0 (by unfold wx at h; omega)
theorem wx_is {B : Nat → Nat} {a b c : Nat} (hc : c < 21) (h : eqw B a b c = true) : wx B a b = c := by
  have l := wx_le B a b
  rcases (by omega : wx B a b < 21 ∨ wx B a b = 21) with q | q
  · exact eqw_un q hc (wx_t q) h
  · have := wfind_n (c := eqw B a b) 21 0 c (by omega) (by unfold wx at q; omega)
    rw [this] at h; cases h
def nv (B : Nat → Nat) (a : Nat) : Nat → Nat
  | 0 => 0
  | k + 1 => 10 * nv B a k + (B (a + k) - 48)
/-- the token behind a place: kind, where it begins, where it ends, its number -/
def lx (B : Nat → Nat) (N p : Nat) : Nat × Nat × Nat × Nat :=
  if N ≤ lx_sp N (lb B N) p then (24, lx_sp N (lb B N) p, lx_sp N (lb B N) p, 0)
  else if ll B N (lx_sp N (lb B N) p) = true then (wmk (wx B (lx_sp N (lb B N) p) (lx_sp N (ll B N) (lx_sp N (lb B N) p))), lx_sp N (lb B N) p, lx_sp N (ll B N) (lx_sp N (lb B N) p), 0)
  else if ld B N (lx_sp N (lb B N) p) = true then (if 3 < lx_sp N (ld B N) (lx_sp N (lb B N) p) - lx_sp N (lb B N) p then 25 else 23, lx_sp N (lb B N) p, lx_sp N (ld B N) (lx_sp N (lb B N) p), nv B (lx_sp N (lb B N) p) (if 3 < lx_sp N (ld B N) (lx_sp N (lb B N) p) - lx_sp N (lb B N) p then 3 else lx_sp N (ld B N) (lx_sp N (lb B N) p) - lx_sp N (lb B N) p))
  else (if sgi (B (lx_sp N (lb B N) p)) < 12 then 30 + sgi (B (lx_sp N (lb B N) p)) else 25, lx_sp N (lb B N) p, lx_sp N (lb B N) p + 1, 0)
def tpos (B : Nat → Nat) (N : Nat) : Nat → Nat
  | 0 => 0
  | i + 1 => (lx B N (tpos B N i)).2.2.1
def tK (B : Nat → Nat) (N i : Nat) : Nat := (lx B N (tpos B N i)).1
def tA (B : Nat → Nat) (N i : Nat) : Nat := (lx B N (tpos B N i)).2.1
def tN (B : Nat → Nat) (N i : Nat) : Nat := (lx B N (tpos B N i)).2.2.2
theorem wmk_ne : ∀ c, c ≤ 21 → wmk c ≠ 24 ∧ wmk c ≠ 25 ∧ wmk c ≠ 23 ∧ wmk c < 23 := by decide +kernel
/-- how a token lies -/
theorem lx_b {B : Nat → Nat} {N p : Nat} (hp : p ≤ N) : p ≤ (lx B N p).2.1 ∧ (lx B N p).2.1 ≤ N ∧ (lx B N p).2.2.1 ≤ N ∧ (lx B N p).2.1 ≤ (lx B N p).2.2.1 ∧ ((lx B N p).1 = 24 → (lx B N p).2.1 = N) ∧ ((lx B N p).1 ≠ 24 → (lx B N p).2.1 < (lx B N p).2.2.1) ∧ (lx B N p).1 ≤ 41 := by
  have a1 := lx_ge (N := N) (c := lb B N) (p := p)
  have a2 := lx_le (c := lb B N) hp
  unfold lx
  generalize lx_sp N (lb B N) p = a at a1 a2
  by_cases q : N ≤ a
  · rw [if_pos q]
    exact ⟨a1, a2, a2, Nat.le_refl _, fun _ => by show a = N; omega, fun c => absurd rfl c, by show 24 ≤ 41; omega⟩
  · rw [if_neg q]
    by_cases r : ll B N a = true
    · rw [if_pos r]
      have b1 : lx_sp N (ll B N) a = lx_sp N (ll B N) (a + 1) := lx_t r (by omega)
      have b2 := lx_ge (N := N) (c := ll B N) (p := a + 1)
      have b3 := lx_le (c := ll B N) a2
      obtain ⟨w1, w2, w3, w4⟩ := wmk_ne (wx B a (lx_sp N (ll B N) a)) (wx_le _ _ _)
      exact ⟨a1, a2, b3, by show a ≤ lx_sp N (ll B N) a; omega, fun c => absurd c w1, fun _ => by show a < lx_sp N (ll B N) a; omega, by show wmk _ ≤ 41; omega⟩
    · rw [if_neg r]
      by_cases t : ld B N a = true
      · rw [if_pos t]
        have b1 : lx_sp N (ld B N) a = lx_sp N (ld B N) (a + 1) := lx_t t (by omega)
        have b2 := lx_ge (N := N) (c := ld B N) (p := a + 1)
        have b3 := lx_le (c := ld B N) a2
        refine ⟨a1, a2, b3, by show a ≤ lx_sp N (ld B N) a; omega, fun c => ?_, fun _ => by show a < lx_sp N (ld B N) a; omega, ?_⟩
        · have c : (if 3 < lx_sp N (ld B N) a - a then 25 else 23) = 24 := c
          split at c <;> omega
        · show (if 3 < lx_sp N (ld B N) a - a then 25 else 23) ≤ 41
          split <;> omega
      · rw [if_neg t]
        have sl := sgi_le (B a)
        refine ⟨a1, a2, by show a + 1 ≤ N; omega, by show a ≤ a + 1; omega, fun c => ?_, fun _ => by show a < a + 1; omega, ?_⟩
        · have c : (if sgi (B a) < 12 then 30 + sgi (B a) else 25) = 24 := c
          split at c <;> omega
        · show (if sgi (B a) < 12 then 30 + sgi (B a) else 25) ≤ 41
          split <;> omega
theorem tpos_le (B : Nat → Nat) (N : Nat) : ∀ i, tpos B N i ≤ N
  | 0 => Nat.zero_le _
  | i + 1 => (lx_b (tpos_le B N i)).2.2.1
def tstop (B : Nat → Nat) (N i : Nat) : Bool := decide (tK B N i = 24) || decide (tK B N i = 25)
def tT (B : Nat → Nat) (N : Nat) : Nat := wfind (tstop B N) (N + 1) 0
theorem tpos_ge (B : Nat → Nat) (N : Nat) : ∀ i, (∀ j, j < i → tK B N j ≠ 24) → i ≤ tpos B N i
  | 0, _ => Nat.le_refl _
  | i + 1, h => by
    have ih := tpos_ge B N i (fun j hj => h j (by omega))
    obtain ⟨b1, -, -, -, -, b6, -⟩ := lx_b (tpos_le B N i)
    have := b6 (h i (by omega))
    show i + 1 ≤ (lx B N (tpos B N i)).2.2.1
    omega
theorem tT_lt (B : Nat → Nat) (N : Nat) : tT B N ≤ N ∧ tstop B N (tT B N) = true := by
  have l := (wfind_le (tstop B N) (N + 1) 0).2
  have n := wfind_n (c := tstop B N) (N + 1) 0
  have nk : ∀ j, j < tT B N → tK B N j ≠ 24 := fun j hj c => by
    have := n j (by omega) hj
    unfold tstop at this
    rw [decide_eq_true c] at this; cases this
  have g := tpos_ge B N (tT B N) nk
  have u := tpos_le B N (tT B N)
  have lt : tT B N ≤ N := by omega
  exact ⟨lt, wfind_t (N + 1) 0 (by show tT B N < 0 + (N + 1); omega)⟩
theorem tT_n (B : Nat → Nat) (N : Nat) {j : Nat} (hj : j < tT B N) : tK B N j ≠ 24 ∧ tK B N j ≠ 25 := by
  have := wfind_n (c := tstop B N) (N + 1) 0 j (by omega) hj
  unfold tstop at this
  rw [Bool.or_eq_false_iff] at this
  exact ⟨by simpa using this.1, by simpa using this.2⟩
theorem tT_k (B : Nat → Nat) (N : Nat) : tK B N (tT B N) = 24 ∨ tK B N (tT B N) = 25 := by
  have := (tT_lt B N).2
  unfold tstop at this
  rw [Bool.or_eq_true] at this
  simpa using this
/-- a token's kind, as the class has it -/
def ck (m : Nat) : Nat := ([129, 130, 131, 132, 133, 134, 135, 136, 137, 138, 139, 140, 141, 145, 146, 147, 148, 149, 143, 144, 142, 999, 128, 1, 0, 2, 999, 999, 999, 999, 59, 58, 43, 45, 42, 40, 41, 91, 93, 61, 60, 62] : List Nat).getD m 998
theorem ck_lt : ∀ m, m < 42 → ck m < 1000 := by decide +kernel
theorem ck_inj : ∀ m, m < 42 → ∀ l, l < 42 → ck m = ck l ∧ ck m ≠ 999 → m = l := by decide +kernel
