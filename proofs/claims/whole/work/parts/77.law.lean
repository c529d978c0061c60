/-! How a law is read: the machine. -/
def lrk (m : Nat) : Nat := if m = 34 then 6 else if m = 32 ∨ m = 33 then 5 else if m = 39 ∨ m = 40 ∨ m = 41 then 4 else if m = 20 then 3 else if m = 18 then 2 else if m = 19 then 1 else 0
def lbr (m : Nat) : Bool := decide (m = 35) || decide (m = 37)
def lcd (m : Nat) : Nat := if m = 32 then 3000 else if m = 33 then 3001 else if m = 34 then 3002 else if m = 39 then 3003 else if m = 40 then 3004 else if m = 41 then 3005 else if m = 20 then 3006 else if m = 18 then 3007 else 3008
def lwd (l m : Nat) : Nat := if m = 3 then 2 else if m = 4 then 3 else if m = 10 then 1 else if m = 13 then 0 else if m = 14 then (if l = 0 then 4 else 8) else if m = 15 then (if l = 0 then 5 else 8) else if m = 16 then (if l = 0 then 6 else 8) else if m = 17 then (if l = 1 then 7 else 8) else 8
def pr (r : Nat) : List Nat → List Nat → List Nat × List Nat
  | R, [] => (R, [])
  | R, w :: W => if lbr w = true ∨ lrk w < r then (R, w :: W) else pr r (R ++ [lcd w]) W
def br : List Nat → Nat
  | [] => 0
  | w :: W => if lbr w = true then w else br W
def cmpd : List Nat → Bool
  | [] => false
  | w :: W => if lbr w = true then false else if lrk w = 4 then true else cmpd W
def dep : List Nat → Nat
  | [] => 0
  | w :: W => (if lbr w = true ∨ w = 20 then 1 else 0) + dep W
def tpr : List Nat → Nat
  | [] => 0
  | w :: _ => if lbr w = true then 0 else lrk w
def mwh (pos : Nat) (W : List Nat) : Bool := decide (pos = 4) || (!decide (br W = 35) && cmpd W)
/-- status, where, the codes -/
abbrev lres := Nat × Nat × List Nat
def mjoin (rec : Nat → List Nat → List Nat → Nat → lres) (K : Nat → Nat) (p : Nat) (R W : List Nat) (i : Nat) : lres := if 64 ≤ (pr (lrk (K i)) R W).2.length then (4, i, []) else rec p (pr (lrk (K i)) R W).1 (K i :: (pr (lrk (K i)) R W).2) (i + 1)
def mclose (rec : Nat → List Nat → List Nat → Nat → lres) (p : Nat) (R W : List Nat) (i : Nat) : lres := rec p (pr 0 R W).1 (pr 0 R W).2.tail (i + 1)
def mgo (rec : Nat → List Nat → List Nat → Nat → lres) (K : Nat → Nat) (pos : Nat) (R W : List Nat) (i : Nat) : lres :=
  if K i = 32 ∨ K i = 33 ∨ K i = 34 then (if pos = 3 then mjoin rec K 2 R W i else (2, i, []))
  else if K i = 39 ∨ K i = 40 ∨ K i = 41 then (if pos = 3 ∧ br W ≠ 35 ∧ cmpd W = false then mjoin rec K 2 R W i else (2, i, []))
  else if K i = 18 ∨ K i = 19 then (if mwh pos W = true then mjoin rec K 1 R W i else (2, i, []))
  else if K i = 36 then (if br W = 35 then mclose rec 3 R W i else (2, i, []))
  else if K i = 38 then (if br W = 37 ∧ mwh pos W = true then mclose rec 4 R W i else (2, i, []))
  else if K i = 30 then (if br W = 0 ∧ mwh pos W = true then (0, i, (pr 0 R W).1) else (2, i, []))
  else (2, i, [])
def mbeg (rec : Nat → List Nat → List Nat → Nat → lres) (K Nn : Nat → Nat) (l pos : Nat) (R W : List Nat) (i : Nat) : lres :=
  if K i = 23 then rec 3 (R ++ [Nn i]) W (i + 1)
  else if lwd l (K i) < 8 then rec 3 (R ++ [1000 + lwd l (K i)]) W (i + 1)
  else if K i = 35 ∨ (pos = 1 ∧ (K i = 20 ∨ K i = 37)) then (if 6 ≤ dep W then (4, i, []) else if 64 ≤ W.length then (4, i, []) else rec (if K i = 35 then 2 else 1) R (K i :: W) (i + 1))
  else (2, i, [])
def mrun (K Nn : Nat → Nat) (l : Nat) : Nat → Nat → List Nat → List Nat → Nat → lres
  | 0, _, _, _, i => (2, i, [])
  | f + 1, pos, R, W, i => if pos = 1 ∨ pos = 2 then mbeg (mrun K Nn l f) K Nn l pos R W i else mgo (mrun K Nn l f) K pos R W i
def mo (K Nn : Nat → Nat) (l T pos : Nat) (R W : List Nat) (i : Nat) : lres := mrun K Nn l (T + 1 - i) pos R W i
theorem pr_c {r w : Nat} {R W : List Nat} (h1 : lbr w = false) (h2 : r ≤ lrk w) : pr r R (w :: W) = pr r (R ++ [lcd w]) W := by
  show (if lbr w = true ∨ lrk w < r then (R, w :: W) else pr r (R ++ [lcd w]) W) = _
  rw [if_neg (fun c => by rcases c with c | c; · rw [h1] at c; cases c
                          · omega)]
theorem pr_s {r : Nat} {R W : List Nat} (h : tpr W < r) : pr r R W = (R, W) := by
  cases W with
  | nil => rfl
  | cons w W =>
    show (if lbr w = true ∨ lrk w < r then (R, w :: W) else pr r (R ++ [lcd w]) W) = _
    have h : (if lbr w = true then 0 else lrk w) < r := h
    by_cases q : lbr w = true
    · rw [if_pos (Or.inl q)]
    · rw [if_neg q] at h; rw [if_pos (Or.inr h)]
theorem pr_b {r w : Nat} {R W : List Nat} (h : lbr w = true) : pr r R (w :: W) = (R, w :: W) := by
  show (if lbr w = true ∨ lrk w < r then (R, w :: W) else pr r (R ++ [lcd w]) W) = _
  rw [if_pos (Or.inl h)]
theorem pr_n {r : Nat} {R : List Nat} : pr r R [] = (R, []) := rfl
theorem brk_c {w : Nat} {W : List Nat} (h : lbr w = false) : br (w :: W) = br W := by
  show (if lbr w = true then w else br W) = _
  rw [if_neg (by rw [h]; decide)]
theorem cmpd_c {w : Nat} {W : List Nat} (h : lbr w = false) (h4 : lrk w ≠ 4) : cmpd (w :: W) = cmpd W := by
  show (if lbr w = true then false else if lrk w = 4 then true else cmpd W) = _
  rw [if_neg (by rw [h]; decide), if_neg h4]
theorem cmpd_4 {w : Nat} {W : List Nat} (h : lbr w = false) (h4 : lrk w = 4) : cmpd (w :: W) = true := by
  show (if lbr w = true then false else if lrk w = 4 then true else cmpd W) = _
  rw [if_neg (by rw [h]; decide), if_pos h4]
theorem lrk_6 (m : Nat) : lrk m ≤ 6 := by
  unfold lrk
  split
  · omega
  · split
    · omega
    · split
      · omega
      · split
        · omega
        · split
          · omega
          · split <;> omega
theorem lrk_5 {m : Nat} (h : m ≠ 34) : lrk m ≤ 5 := by
  unfold lrk
  rw [if_neg h]
  split
  · omega
  · split
    · omega
    · split
      · omega
      · split
        · omega
        · split <;> omega
theorem lrk_2 {m : Nat} (h : m = 18 ∨ m = 19) : lrk m ≤ 2 := by rcases h with h | h <;> rw [h] <;> decide
theorem mj_c {rec : Nat → List Nat → List Nat → Nat → lres} {K : Nat → Nat} {p w i : Nat} {R W : List Nat} (h1 : lbr w = false) (h2 : lrk (K i) ≤ lrk w) : mjoin rec K p R (w :: W) i = mjoin rec K p (R ++ [lcd w]) W i := by
  unfold mjoin; rw [pr_c h1 h2]
theorem mc_c {rec : Nat → List Nat → List Nat → Nat → lres} {p w i : Nat} {R W : List Nat} (h1 : lbr w = false) : mclose rec p R (w :: W) i = mclose rec p (R ++ [lcd w]) W i := by
  unfold mclose; rw [pr_c h1 (Nat.zero_le _)]
/-- what waits may be joined at once -/
theorem mgE1 {rec : Nat → List Nat → List Nat → Nat → lres} {K : Nat → Nat} {i w : Nat} {R W : List Nat} (h1 : lbr w = false) (h4 : lrk w ≠ 4) (h2 : (K i = 32 ∨ K i = 33 ∨ K i = 34 ∨ K i = 39 ∨ K i = 40 ∨ K i = 41 ∨ K i = 18 ∨ K i = 19) → lrk (K i) ≤ lrk w) : mgo rec K 3 R (w :: W) i = mgo rec K 3 (R ++ [lcd w]) W i := by
  unfold mgo
  unfold mwh
  rw [brk_c h1, cmpd_c h1 h4, mc_c h1, mc_c h1, pr_c h1 (Nat.zero_le _)]
  by_cases q1 : K i = 32 ∨ K i = 33 ∨ K i = 34
  · rw [if_pos q1, if_pos q1, mj_c h1 (h2 (by omega))]
  · rw [if_neg q1, if_neg q1]
    by_cases q2 : K i = 39 ∨ K i = 40 ∨ K i = 41
    · rw [if_pos q2, if_pos q2, mj_c h1 (h2 (by omega))]
    · rw [if_neg q2, if_neg q2]
      by_cases q3 : K i = 18 ∨ K i = 19
      · rw [if_pos q3, if_pos q3, mj_c h1 (h2 (by omega))]
      · rw [if_neg q3, if_neg q3]
theorem mgE3 {rec : Nat → List Nat → List Nat → Nat → lres} {K : Nat → Nat} {i w : Nat} {R W : List Nat} (h1 : lbr w = false) (h4 : lrk w = 4) (hb : br W ≠ 35) (hk : K i ≠ 32 ∧ K i ≠ 33 ∧ K i ≠ 34) : mgo rec K 3 R (w :: W) i = mgo rec K 4 (R ++ [lcd w]) W i := by
  have e : ∀ W', mwh 4 W' = true := fun W' => rfl
  have e3 : mwh 3 (w :: W) = true := by unfold mwh; rw [brk_c h1, cmpd_4 h1 h4, decide_eq_false hb]; rfl
  unfold mgo
  rw [brk_c h1, cmpd_4 h1 h4, mc_c h1, mc_c h1, pr_c h1 (Nat.zero_le _), e3, e W, if_neg (show ¬ (K i = 32 ∨ K i = 33 ∨ K i = 34) by omega), if_neg (show ¬ (K i = 32 ∨ K i = 33 ∨ K i = 34) by omega)]
  by_cases q2 : K i = 39 ∨ K i = 40 ∨ K i = 41
  · rw [if_pos q2, if_pos q2, if_neg (fun c => Bool.noConfusion c.2.2), if_neg (fun c => absurd c.1 (by omega))]
  · rw [if_neg q2, if_neg q2]
    by_cases q3 : K i = 18 ∨ K i = 19
    · rw [if_pos q3, if_pos q3, mj_c h1 (by have := lrk_2 q3; omega)]
    · rw [if_neg q3, if_neg q3]
theorem mgE4 {rec : Nat → List Nat → List Nat → Nat → lres} {K : Nat → Nat} {i w : Nat} {R W : List Nat} (h1 : lbr w = false) (h2 : (K i = 18 ∨ K i = 19) → lrk (K i) ≤ lrk w) : mgo rec K 4 R (w :: W) i = mgo rec K 4 (R ++ [lcd w]) W i := by
  have e : ∀ W', mwh 4 W' = true := fun W' => rfl
  unfold mgo
  rw [brk_c h1, mc_c h1, mc_c h1, pr_c h1 (Nat.zero_le _), e, e]
  by_cases q1 : K i = 32 ∨ K i = 33 ∨ K i = 34
  · rw [if_pos q1, if_pos q1, if_neg (by omega), if_neg (by omega)]
  · rw [if_neg q1, if_neg q1]
    by_cases q2 : K i = 39 ∨ K i = 40 ∨ K i = 41
    · rw [if_pos q2, if_pos q2, if_neg (fun c => absurd c.1 (by omega)), if_neg (fun c => absurd c.1 (by omega))]
    · rw [if_neg q2, if_neg q2]
      by_cases q3 : K i = 18 ∨ K i = 19
      · rw [if_pos q3, if_pos q3, mj_c h1 (h2 q3)]
      · rw [if_neg q3, if_neg q3]
theorem mo_go {K Nn : Nat → Nat} {l T pos i : Nat} {R W : List Nat} (hi : i ≤ T) (hp : pos = 3 ∨ pos = 4) : mo K Nn l T pos R W i = mgo (mrun K Nn l (T - i)) K pos R W i := by
  unfold mo
  rw [show T + 1 - i = T - i + 1 by omega]
  show (if pos = 1 ∨ pos = 2 then _ else _) = _
  rw [if_neg (by omega)]
theorem mo_be {K Nn : Nat → Nat} {l T pos i : Nat} {R W : List Nat} (hi : i ≤ T) (hp : pos = 1 ∨ pos = 2) : mo K Nn l T pos R W i = mbeg (mrun K Nn l (T - i)) K Nn l pos R W i := by
  unfold mo
  rw [show T + 1 - i = T - i + 1 by omega]
  show (if pos = 1 ∨ pos = 2 then _ else _) = _
  rw [if_pos hp]
theorem mo_nx {K Nn : Nat → Nat} {l T pos i : Nat} {R W : List Nat} : mrun K Nn l (T - i) pos R W (i + 1) = mo K Nn l T pos R W (i + 1) := by
  unfold mo; rw [show T + 1 - (i + 1) = T - i by omega]
/-- the operators of a sum, a comparison, a truth: going on -/
theorem mo_op {K Nn : Nat → Nat} {l T i : Nat} {R W : List Nat} (hi : i ≤ T) (hk : K i = 32 ∨ K i = 33 ∨ K i = 34) (ht : tpr W < lrk (K i)) (hl : W.length < 64) : mo K Nn l T 3 R W i = mo K Nn l T 2 R (K i :: W) (i + 1) := by
  rw [mo_go hi (by omega)]
  unfold mgo mjoin
  rw [if_pos hk, if_pos rfl, pr_s ht, if_neg (by show ¬ 64 ≤ W.length; omega)]
  exact mo_nx
theorem mo_cm {K Nn : Nat → Nat} {l T i : Nat} {R W : List Nat} (hi : i ≤ T) (hk : K i = 39 ∨ K i = 40 ∨ K i = 41) (ht : tpr W < lrk (K i)) (hl : W.length < 64) (hb : br W ≠ 35) (hc : cmpd W = false) : mo K Nn l T 3 R W i = mo K Nn l T 2 R (K i :: W) (i + 1) := by
  rw [mo_go hi (by omega)]
  unfold mgo mjoin
  rw [if_neg (by omega), if_pos hk, if_pos ⟨rfl, hb, hc⟩, pr_s ht, if_neg (by show ¬ 64 ≤ W.length; omega)]
  exact mo_nx
theorem mo_ao {K Nn : Nat → Nat} {l T i : Nat} {R W : List Nat} (hi : i ≤ T) (hk : K i = 18 ∨ K i = 19) (ht : tpr W < lrk (K i)) (hl : W.length < 64) : mo K Nn l T 4 R W i = mo K Nn l T 1 R (K i :: W) (i + 1) := by
  rw [mo_go hi (by omega)]
  unfold mgo mjoin
  rw [if_neg (by omega), if_neg (by omega), if_pos hk, if_pos (show mwh 4 W = true from rfl), pr_s ht, if_neg (by show ¬ 64 ≤ W.length; omega)]
  exact mo_nx
theorem mo_E1 {K Nn : Nat → Nat} {l T i w : Nat} {R W : List Nat} (hi : i ≤ T) (hw : w = 34 ∨ ((w = 32 ∨ w = 33) ∧ K i ≠ 34)) : mo K Nn l T 3 R (w :: W) i = mo K Nn l T 3 (R ++ [lcd w]) W i := by
  rw [mo_go hi (by omega), mo_go hi (by omega)]
  rcases hw with hw | ⟨hw | hw, h3⟩
  · subst hw; exact mgE1 rfl (by decide) (fun _ => lrk_6 _)
  · subst hw; exact mgE1 rfl (by decide) (fun _ => lrk_5 h3)
  · subst hw; exact mgE1 rfl (by decide) (fun _ => lrk_5 h3)
theorem mo_E3 {K Nn : Nat → Nat} {l T i w : Nat} {R W : List Nat} (hi : i ≤ T) (hw : w = 39 ∨ w = 40 ∨ w = 41) (hb : br W ≠ 35) (hk : K i ≠ 32 ∧ K i ≠ 33 ∧ K i ≠ 34) : mo K Nn l T 3 R (w :: W) i = mo K Nn l T 4 (R ++ [lcd w]) W i := by
  rw [mo_go hi (by omega), mo_go hi (by omega)]
  rcases hw with hw | hw | hw <;> subst hw <;> exact mgE3 rfl rfl hb hk
theorem mo_E4 {K Nn : Nat → Nat} {l T i w : Nat} {R W : List Nat} (hi : i ≤ T) (hw : w = 20 ∨ w = 18 ∨ (w = 19 ∧ K i ≠ 18)) : mo K Nn l T 4 R (w :: W) i = mo K Nn l T 4 (R ++ [lcd w]) W i := by
  rw [mo_go hi (by omega), mo_go hi (by omega)]
  rcases hw with hw | hw | ⟨hw, h3⟩
  · subst hw; exact mgE4 rfl (fun q => by have := lrk_2 q; show lrk (K i) ≤ 3; omega)
  · subst hw; exact mgE4 rfl (fun q => lrk_2 q)
  · subst hw; exact mgE4 rfl (fun q => by rcases q with q | q; · exact absurd q h3
                                          · rw [q]; decide)
/-- brackets -/
theorem mo_cl {K Nn : Nat → Nat} {l T i : Nat} {R W : List Nat} (hi : i ≤ T) (hk : K i = 36) : mo K Nn l T 3 R (35 :: W) i = mo K Nn l T 3 R W (i + 1) := by
  rw [mo_go hi (by omega)]
  unfold mgo mclose
  rw [if_neg (by omega), if_neg (by omega), if_neg (by omega), if_pos hk, if_pos (show br (35 :: W) = 35 from rfl), pr_b rfl]
  exact mo_nx
theorem mo_cq {K Nn : Nat → Nat} {l T i : Nat} {R W : List Nat} (hi : i ≤ T) (hk : K i = 38) : mo K Nn l T 4 R (37 :: W) i = mo K Nn l T 4 R W (i + 1) := by
  rw [mo_go hi (by omega)]
  unfold mgo mclose
  rw [if_neg (by omega), if_neg (by omega), if_neg (by omega), if_neg (by omega), if_pos hk, if_pos ⟨rfl, rfl⟩, pr_b rfl]
  exact mo_nx
theorem mo_clN {K Nn : Nat → Nat} {l T i : Nat} {R W : List Nat} (hi : i ≤ T) (hk : K i ≠ 32 ∧ K i ≠ 33 ∧ K i ≠ 34 ∧ K i ≠ 36) : mo K Nn l T 3 R (35 :: W) i = (2, i, []) := by
  rw [mo_go hi (by omega)]
  unfold mgo
  rw [if_neg (by omega)]
  by_cases q : K i = 39 ∨ K i = 40 ∨ K i = 41
  · rw [if_pos q, if_neg (fun c => c.2.1 rfl)]
  · rw [if_neg q]
    by_cases q : K i = 18 ∨ K i = 19
    · rw [if_pos q, if_neg (fun c => Bool.noConfusion c)]
    · rw [if_neg q, if_neg (by omega)]
      by_cases q : K i = 38
      · rw [if_pos q, if_neg (fun c => Bool.noConfusion c.2)]
      · rw [if_neg q]
        by_cases q : K i = 30
        · rw [if_pos q, if_neg (fun c => Bool.noConfusion c.2)]
        · rw [if_neg q]
theorem mo_cqN {K Nn : Nat → Nat} {l T i : Nat} {R W : List Nat} (hi : i ≤ T) (hk : K i ≠ 18 ∧ K i ≠ 19 ∧ K i ≠ 38) : mo K Nn l T 4 R (37 :: W) i = (2, i, []) := by
  rw [mo_go hi (by omega)]
  unfold mgo
  by_cases q : K i = 32 ∨ K i = 33 ∨ K i = 34
  · rw [if_pos q, if_neg (by omega)]
  · rw [if_neg q]
    by_cases q : K i = 39 ∨ K i = 40 ∨ K i = 41
    · rw [if_pos q, if_neg (fun c => absurd c.1 (by omega))]
    · rw [if_neg q, if_neg (by omega)]
      by_cases q : K i = 36
      · rw [if_pos q, if_neg (show ¬ br (37 :: W) = 35 from (by decide : ¬ (37 : Nat) = 35))]
      · rw [if_neg q, if_neg hk.2.2]
        by_cases q : K i = 30
        · rw [if_pos q, if_neg (fun c => absurd c.1 (show ¬ (37 : Nat) = 0 by omega))]
        · rw [if_neg q]
/-- a sum that is not compared can't stand -/
theorem mo_ncN {K Nn : Nat → Nat} {l T i : Nat} {R W : List Nat} (hi : i ≤ T) (hb : br W ≠ 35) (hc : cmpd W = false) (hk : K i ≠ 32 ∧ K i ≠ 33 ∧ K i ≠ 34 ∧ K i ≠ 39 ∧ K i ≠ 40 ∧ K i ≠ 41) : mo K Nn l T 3 R W i = (2, i, []) := by
  have e : mwh 3 W = false := by unfold mwh; rw [hc, Bool.and_false]; rfl
  rw [mo_go hi (by omega)]
  unfold mgo
  rw [e, if_neg (by omega), if_neg (by omega)]
  by_cases q : K i = 18 ∨ K i = 19
  · rw [if_pos q, if_neg (fun c => Bool.noConfusion c)]
  · rw [if_neg q]
    by_cases q : K i = 36
    · rw [if_pos q, if_neg hb]
    · rw [if_neg q]
      by_cases q : K i = 38
      · rw [if_pos q, if_neg (fun c => Bool.noConfusion c.2)]
      · rw [if_neg q]
        by_cases q : K i = 30
        · rw [if_pos q, if_neg (fun c => Bool.noConfusion c.2)]
        · rw [if_neg q]
/-- behind a whole law -/
theorem mo_end {K Nn : Nat → Nat} {l T i : Nat} {R : List Nat} (hi : i ≤ T) (hk : K i ≠ 18 ∧ K i ≠ 19) : mo K Nn l T 4 R [] i = if K i = 30 then (0, i, R) else (2, i, []) := by
  rw [mo_go hi (by omega)]
  unfold mgo
  by_cases q : K i = 32 ∨ K i = 33 ∨ K i = 34
  · rw [if_pos q, if_neg (by omega), if_neg (by omega)]
  · rw [if_neg q]
    by_cases q : K i = 39 ∨ K i = 40 ∨ K i = 41
    · rw [if_pos q, if_neg (fun c => absurd c.1 (by omega)), if_neg (by omega)]
    · rw [if_neg q, if_neg (by omega)]
      by_cases q : K i = 36
      · rw [if_pos q, if_neg (show ¬ br [] = 35 from (by decide : ¬ (0 : Nat) = 35)), if_neg (by omega)]
      · rw [if_neg q]
        by_cases q : K i = 38
        · rw [if_pos q, if_neg (fun c => absurd c.1 (show ¬ (0 : Nat) = 37 by omega)), if_neg (by omega)]
        · rw [if_neg q]
          by_cases q : K i = 30
          · rw [if_pos q, if_pos q, if_pos ⟨rfl, rfl⟩, pr_n]
          · rw [if_neg q, if_neg q]
/-- beginnings -/
theorem mo_nu {K Nn : Nat → Nat} {l T i : Nat} {R W : List Nat} (hi : i ≤ T) (hk : K i = 23) : mo K Nn l T 2 R W i = mo K Nn l T 3 (R ++ [Nn i]) W (i + 1) := by
  rw [mo_be hi (by omega)]
  unfold mbeg
  rw [if_pos hk]
  exact mo_nx
theorem mo_wd {K Nn : Nat → Nat} {l T i : Nat} {R W : List Nat} (hi : i ≤ T) (hk : K i ≠ 23) (hw : lwd l (K i) < 8) : mo K Nn l T 2 R W i = mo K Nn l T 3 (R ++ [1000 + lwd l (K i)]) W (i + 1) := by
  rw [mo_be hi (by omega)]
  unfold mbeg
  rw [if_neg hk, if_pos hw]
  exact mo_nx
theorem lwd_35 {l m : Nat} (h : m = 35 ∨ m = 20 ∨ m = 37) : ¬ lwd l m < 8 := by
  rcases h with h | h | h <;> subst h <;> exact (by decide : ¬ 8 < 8)
theorem mo_op2 {K Nn : Nat → Nat} {l T i : Nat} {R W : List Nat} (hi : i ≤ T) (hk : K i = 35) (hd : dep W < 6) (hl : W.length < 64) : mo K Nn l T 2 R W i = mo K Nn l T 2 R (35 :: W) (i + 1) := by
  rw [mo_be hi (by omega)]
  unfold mbeg
  rw [if_neg (by omega), if_neg (lwd_35 (Or.inl hk)), if_pos (Or.inl hk), if_neg (by omega), if_neg (by omega), if_pos hk, hk]
  exact mo_nx
theorem mo_op1 {K Nn : Nat → Nat} {l T i : Nat} {R W : List Nat} (hi : i ≤ T) (hk : K i = 20 ∨ K i = 37) (hd : dep W < 6) (hl : W.length < 64) : mo K Nn l T 1 R W i = mo K Nn l T 1 R (K i :: W) (i + 1) := by
  rw [mo_be hi (by omega)]
  unfold mbeg
  rw [if_neg (by omega), if_neg (lwd_35 (by omega)), if_pos (Or.inr ⟨rfl, hk⟩), if_neg (by omega), if_neg (by omega), if_neg (by omega)]
  exact mo_nx
theorem mo_dp {K Nn : Nat → Nat} {l T i pos : Nat} {R W : List Nat} (hi : i ≤ T) (hp : pos = 1 ∨ pos = 2) (hk : K i = 35 ∨ (pos = 1 ∧ (K i = 20 ∨ K i = 37))) (hd : 6 ≤ dep W) : mo K Nn l T pos R W i = (4, i, []) := by
  rw [mo_be hi hp]
  unfold mbeg
  rw [if_neg (by omega), if_neg (lwd_35 (by omega)), if_pos hk, if_pos hd]
theorem mo_12 {K Nn : Nat → Nat} {l T i : Nat} {R W : List Nat} (hi : i ≤ T) (hk : K i ≠ 20 ∧ K i ≠ 37) : mo K Nn l T 1 R W i = mo K Nn l T 2 R W i := by
  rw [mo_be hi (by omega), mo_be hi (by omega)]
  unfold mbeg
  by_cases q : K i = 35
  · rw [if_pos (show K i = 35 ∨ (1 = 1 ∧ (K i = 20 ∨ K i = 37)) from Or.inl q), if_pos (show K i = 35 ∨ (2 = 1 ∧ (K i = 20 ∨ K i = 37)) from Or.inl q)]
  · rw [if_neg (show ¬ (K i = 35 ∨ (1 = 1 ∧ (K i = 20 ∨ K i = 37))) by omega), if_neg (show ¬ (K i = 35 ∨ (2 = 1 ∧ (K i = 20 ∨ K i = 37))) by omega)]
theorem mo_no {K Nn : Nat → Nat} {l T i : Nat} {R W : List Nat} (hi : i ≤ T) (hk : K i ≠ 23 ∧ K i ≠ 35) (hw : ¬ lwd l (K i) < 8) : mo K Nn l T 2 R W i = (2, i, []) := by
  rw [mo_be hi (by omega)]
  unfold mbeg
  rw [if_neg hk.1, if_neg hw, if_neg (by omega)]
-- types
def ckl (l : Nat) : List Nat → List Bool → Option (List Bool)
  | [], ty => some ty
  | c :: R, ty => (sp_ck l c ty).bind (ckl l R)
theorem ckl_a {l c : Nat} : ∀ {R : List Nat} {ty t1 t2 : List Bool}, ckl l R ty = some t1 → sp_ck l c t1 = some t2 → ckl l (R ++ [c]) ty = some t2
  | [], ty, t1, t2, h1, h2 => by
    have : ty = t1 := Option.some.inj h1
    subst this
    show (sp_ck l c ty).bind (ckl l []) = _
    rw [h2]; rfl
  | d :: R, ty, t1, t2, h1, h2 => by
    have h1 : (sp_ck l d ty).bind (ckl l R) = some t1 := h1
    obtain ⟨t, a, b⟩ := Option.bind_eq_some_iff.mp h1
    show (sp_ck l d ty).bind (ckl l (R ++ [c])) = _
    rw [a]
    exact ckl_a b h2
