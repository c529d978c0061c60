/-! Tools of the contracts: steps, loops, small numbers, sets of bits as Nat. -/
theorem mx_ag {E : mv_E} {D k n m pc : Nat} {ls : List (Option Value)} {st : List Value} {h : mv_H} {Q : mv_Q} (H : mv_ag (mv_S (mv_sl E)) h → mv_VE E D k n m pc ls st h Q) : mv_VE E D k n m pc ls st h Q := fun g => H g g
theorem mx_loop {P : Nat → Prop} (N : Nat) (h1 : P N) (h2 : ∀ i, i < N → P (i + 1) → P i) : P 0 := by
  have : ∀ j, j ≤ N → P (N - j) := by
    intro j
    induction j with
    | zero => intro _; exact h1
    | succ j ih =>
      intro hj
      refine h2 _ (by omega) ?_
      have := ih (by omega)
      rwa [show N - (j + 1) + 1 = N - j by omega]
  have := this N (Nat.le_refl _)
  rwa [Nat.sub_self] at this
/-- a loop from i0 on -/
theorem mx_loopI {P : Nat → Prop} (i0 N : Nat) (h0 : i0 ≤ N) (h1 : P N) (h2 : ∀ i, i0 ≤ i → i < N → P (i + 1) → P i) : P i0 := by
  have := mx_loop (P := fun j => P (i0 + j)) (N - i0) (by show P (i0 + (N - i0)); rwa [show i0 + (N - i0) = N by omega]) (fun i hi q => h2 _ (by omega) (by omega) q)
  exact this
def mx_fold {α : Type} (f : Nat → α → α) (a : α) : Nat → α
  | 0 => a
  | i + 1 => f i (mx_fold f a i)
theorem mx_lt {x y : Int32} {A B : Prop} (a b : Nat) (f : a < b → A) (g : b ≤ a → B) (ha : a < 2 ^ 31) (hb : b < 2 ^ 31) (hx : x = nI a := by rfl) (hy : y = nI b := by rfl) : if x < y then A else B := by
  subst hx; subst hy
  rcases Nat.lt_or_ge a b with q | q
  · rw [if_pos ((nI_ltI ha hb).mpr q)]; exact f q
  · rw [if_neg (fun c => by have := (nI_ltI ha hb).mp c; omega)]; exact g q
theorem mx_ltT {x y : Int32} {A B : Prop} (a b : Nat) (q : a < b) (H : A) (hb : b < 2 ^ 31) (hx : x = nI a := by rfl) (hy : y = nI b := by rfl) : if x < y then A else B := mx_lt a b (fun _ => H) (fun c => absurd q (by omega)) (by omega) hb hx hy
theorem mx_ltF {x y : Int32} {A B : Prop} (a b : Nat) (q : b ≤ a) (H : B) (ha : a < 2 ^ 31) (hx : x = nI a := by rfl) (hy : y = nI b := by rfl) : if x < y then A else B := mx_lt a b (fun c => absurd q (by omega)) (fun _ => H) ha (by omega) hx hy
theorem mx_eq {x y : Int32} {A B : Prop} (a b : Nat) (f : a = b → A) (g : a ≠ b → B) (ha : a < 2 ^ 31) (hb : b < 2 ^ 31) (hx : x = nI a := by rfl) (hy : y = nI b := by rfl) : if x = y then A else B := by
  subst hx; subst hy
  by_cases q : a = b
  · rw [if_pos ((nI_eq ha hb).mpr q)]; exact f q
  · rw [if_neg (fun c => q ((nI_eq ha hb).mp c))]; exact g q
theorem mx_if {c : Prop} [Decidable c] {A B : Prop} (f : c → A) (g : ¬ c → B) : if c then A else B := by
  by_cases q : c
  · rw [if_pos q]; exact f q
  · rw [if_neg q]; exact g q
theorem mx_ifb {c : Prop} [Decidable c] {A B : Prop} (b : Bool) (hb : c ↔ b = false) (f : b = false → A) (g : b = true → B) : if c then A else B := by
  cases b with
  | false => rw [if_pos (hb.mpr rfl)]; exact f rfl
  | true => rw [if_neg (fun q => by cases hb.mp q)]; exact g rfl
theorem mx_cd {b : Bool} {A B : Prop} (f : b = true → A) (g : b = false → B) : cond b A B := by
  cases b with
  | true => exact f rfl
  | false => exact g rfl
theorem mx_cdb {b : Bool} {A B : Prop} (c : Bool) (e : b = c) (f : c = true → A) (g : c = false → B) : cond b A B := by
  subst e; exact mx_cd f g
theorem mx_in {x : Int32} {n : Nat} (i : Nat) (h : i < n) (hn : n ≤ 2147483648) (hx : x = nI i := by rfl) : mv_in x n = true := by
  subst hx
  unfold mv_in
  rw [pk_tn (by omega)]
  simp only [Bool.and_eq_true]
  exact ⟨Nat.ble_eq_true_of_le h, Nat.ble_eq_true_of_le hn⟩
theorem mx_inT {x : Int32} {n : Nat} (i : Nat) (h : i < n) (hn : n ≤ 2147483648) (hx : x = nI i := by rfl) : (true && mv_in x n) = true := mx_in i h hn hx
def bt (x : Int32) (i : Nat) : Bool := x.toBitVec.getLsbD i
theorem b_ext {x y : Int32} (h : ∀ i, i < 32 → bt x i = bt y i) : x = y := Int32.toBitVec_inj.mp (BitVec.eq_of_getLsbD_eq (fun i hi => h i hi))
theorem b_or (x y : Int32) (i : Nat) : bt (x ||| y) i = (bt x i || bt y i) := by unfold bt; rw [Int32.toBitVec_or, BitVec.getLsbD_or]
theorem b_and (x y : Int32) (i : Nat) : bt (x &&& y) i = (bt x i && bt y i) := by unfold bt; rw [Int32.toBitVec_and, BitVec.getLsbD_and]
theorem b_xor (x y : Int32) (i : Nat) : bt (x ^^^ y) i = (bt x i ^^ bt y i) := by unfold bt; rw [Int32.toBitVec_xor, BitVec.getLsbD_xor]
theorem b_big {x : Int32} {i : Nat} (h : 32 ≤ i) : bt x i = false := BitVec.getLsbD_of_ge _ _ h
theorem b_m1 : ∀ i, i < 32 → bt (-1) i = true := by decide +kernel
theorem s_l : ∀ n, n < 32 → ((nI n &&& 31).toBitVec.smod 32).toNat = n := by decide +kernel
theorem s_u : ∀ n, n < 32 → (((nI n).toUInt32 &&& Int32.toUInt32 31).toBitVec % 32).toNat = n := by decide +kernel
theorem mx_bt (a i : Nat) (hi : i < 32) : bt (nI a) i = a.testBit i := by
  show (Int32.ofNat a).toBitVec.getLsbD i = _
  rw [Int32.toBitVec_ofNat', BitVec.getLsbD_ofNat]
  simp [hi]
theorem mx_and (a b : Nat) : nI a &&& nI b = nI (a &&& b) := b_ext fun i hi => by rw [b_and, mx_bt _ _ hi, mx_bt _ _ hi, mx_bt _ _ hi, Nat.testBit_and]
theorem mx_or (a b : Nat) : nI a ||| nI b = nI (a ||| b) := b_ext fun i hi => by rw [b_or, mx_bt _ _ hi, mx_bt _ _ hi, mx_bt _ _ hi, Nat.testBit_or]
theorem mx_xor (a b : Nat) : nI a ^^^ nI b = nI (a ^^^ b) := b_ext fun i hi => by rw [b_xor, mx_bt _ _ hi, mx_bt _ _ hi, mx_bt _ _ hi, Nat.testBit_xor]
/-- a without b -/
def mx_wo (a b : Nat) : Nat := a ^^^ (a &&& b)
theorem mx_wo_bit (a b i : Nat) : (mx_wo a b).testBit i = (a.testBit i && !b.testBit i) := by
  unfold mx_wo
  rw [Nat.testBit_xor, Nat.testBit_and]
  cases a.testBit i <;> cases b.testBit i <;> rfl
theorem mx_andn (a b : Nat) : nI a &&& (nI b ^^^ (-1)) = nI (mx_wo a b) := b_ext fun i hi => by
  rw [b_and, b_xor, b_m1 i hi, mx_bt _ _ hi, mx_bt _ _ hi, mx_bt _ _ hi, mx_wo_bit]
  cases a.testBit i <;> cases b.testBit i <;> rfl
theorem mx_1shl {p : Nat} (hp : p < 32) : (1 : Int32) <<< (nI p &&& 31) = nI (2 ^ p) := by
  have := pk_shlN (n := 1) (nI p &&& 31) p (s_l p hp) (by have := Nat.pow_lt_pow_right (a := 2) (by omega) hp; omega)
  rw [Nat.one_mul] at this
  exact this
theorem mx_shr {s p : Nat} (hs : s < 2 ^ 31) (hp : p < 32) : nI s >>> (nI p &&& 31) = nI (s / 2 ^ p) := pk_shrN hs _ p (s_l p hp)
theorem mx_and1 (s : Nat) (h : s < 2 ^ 32) : nI s &&& 1 = nI (s % 2) := by
  have := pk_andN h (m := 1) 1 (by decide)
  rw [this]
theorem mx_tb (s p : Nat) : s / 2 ^ p % 2 = (s.testBit p).toNat := by
  rw [Nat.testBit_eq_decide_div_mod_eq]
  have : s / 2 ^ p % 2 < 2 := Nat.mod_lt _ (by omega)
  rcases (by omega : s / 2 ^ p % 2 = 0 ∨ s / 2 ^ p % 2 = 1) with q | q <;> rw [q] <;> rfl
/-- bit p of a set, as the class looks for it -/
theorem mx_bit {s p : Nat} (hs : s < 2 ^ 31) (hp : p < 32) : (nI s >>> (nI p &&& 31)) &&& 1 = nI (s.testBit p).toNat := by
  rw [mx_shr hs hp, mx_and1 _ (by have := Nat.div_le_self s (2 ^ p); omega), mx_tb]
theorem mx_bit0 {s p : Nat} (hs : s < 2 ^ 31) (hp : p < 32) : ((nI s >>> (nI p &&& 31)) &&& 1 = 0) ↔ s.testBit p = false := by
  rw [mx_bit hs hp]
  cases s.testBit p with
  | false => exact ⟨fun _ => rfl, fun _ => rfl⟩
  | true => exact ⟨fun q => absurd q (by decide), fun q => by cases q⟩
theorem mx_lshr {a d : Nat} {D : Int64} (hD : (D.toBitVec.smod 64).toNat = d) (h : a < 2 ^ 62) : lN a >>> D = lN (a / 2 ^ d) := by
  have hd : a / 2 ^ d ≤ a := Nat.div_le_self _ _
  apply Int64.toInt_inj.mp
  have e : (lN a >>> D).toInt = (lN a).toInt >>> d := by
    rw [← hD]
    exact BitVec.toInt_sshiftRight ..
  rw [e, Int.shiftRight_eq_div_pow, pk_lT (by omega), pk_lT (by omega)]
  rfl
theorem mx_land1 {n : Nat} (hn : n < 2 ^ 64) : lN n &&& 1 = lN (n % 2) := by
  apply Int64.toBitVec_inj.mp
  rw [Int64.toBitVec_and]
  show BitVec.ofNat 64 n &&& BitVec.ofNat 64 1 = BitVec.ofNat 64 (n % 2)
  apply BitVec.eq_of_toNat_eq
  rw [BitVec.toNat_and, BitVec.toNat_ofNat, BitVec.toNat_ofNat, BitVec.toNat_ofNat, Nat.mod_eq_of_lt hn, Nat.mod_eq_of_lt (show 1 < 2 ^ 64 by decide), Nat.mod_eq_of_lt (show n % 2 < 2 ^ 64 by omega), Nat.and_one_is_mod]
/-- bit p of a set, as the model looks for it -/
theorem mx_isIn {s p : Nat} (hs : s < 2 ^ 31) (hp : p < 32) : pf213 (nI s).toInt64 (nI p) = s.testBit p := by
  have hk : ∀ p, p < 32 → (((nI p).toInt64 &&& 63).toBitVec.smod 64).toNat = p := by decide +kernel
  have h1 : (nI s).toInt64 >>> ((nI p).toInt64 &&& 63) = lN (s / 2 ^ p) := by
    rw [nI_l hs]
    exact mx_lshr (hk p hp) (by omega)
  have h2 : s / 2 ^ p < 2 ^ 64 := by have := Nat.div_le_self s (2 ^ p); omega
  unfold pf213
  rw [h1, mx_land1 h2, mx_tb]
  cases s.testBit p with
  | false => rfl
  | true => rfl
theorem mx_lcT {x y : Int64} {a b : Nat} (h : a < b) (hb : b < 2 ^ 31) (hx : x = lN a := by rfl) (hy : y = lN b := by rfl) : x < y := by
  subst hx; subst hy; exact (lN_lt (by omega) hb).mpr h
theorem mx_wiT {x : Int32} {L H : Int64} (j l hh : Nat) (h1 : l ≤ j) (h2 : j ≤ hh) (hb : hh < 2 ^ 31) (hx : x = nI j := by rfl) (hL : L = lN l := by rfl) (hH : H = lN hh := by rfl) : pf182 x.toInt64 L H = true := by
  subst hx; subst hL; subst hH
  rw [nI_l (by omega)]
  unfold pf182
  rw [if_neg (by rw [lg_cmp_lt, lN_lt (by omega) (by omega)]; omega), if_neg (by rw [lg_cmp_gt, lN_lt (by omega) (by omega)]; omega)]
theorem mx_i64 (x y : Int32) : x.toInt64 < y.toInt64 ↔ x < y := by
  rw [Int64.lt_iff_toInt_lt, Int32.lt_iff_toInt_lt, Int32.toInt_toInt64, Int32.toInt_toInt64]
theorem mx_wi {x : Int32} {L H : Int64} (l hh : Int32) (hL : L = l.toInt64) (hH : H = hh.toInt64) : pf182 x.toInt64 L H = (!decide (x < l) && !decide (hh < x)) := by
  subst hL; subst hH
  unfold pf182
  simp only [lg_cmp_lt, lg_cmp_gt, mx_i64]
  by_cases q : x < l
  · simp [q]
  · by_cases r : hh < x <;> simp [q, r]
/-- x is one of the numbers below N -/
def mx_rg (x : Int32) (N : Nat) : Prop := ∃ j, j < N ∧ x = nI j
theorem mx_rg_cases (x : Int32) (N : Nat) (hN : N < 2 ^ 31) : (∃ j, j < N ∧ x = nI j) ∨ ((x < 0 ∨ nI N ≤ x) ∧ ¬ mx_rg x N) := by
  rcases pk_ix x hN with q | q | q
  · refine Or.inr ⟨Or.inl q, fun ⟨j, hj, e⟩ => ?_⟩
    rw [e] at q
    exact nI_pos (by omega) q
  · refine Or.inr ⟨Or.inr q, fun ⟨j, hj, e⟩ => ?_⟩
    rw [e] at q
    exact nI_ge hj hN q
  · exact Or.inl q
theorem mx_nlt {x y : Int32} (h : y ≤ x) : ¬ x < y := by
  rw [Int32.lt_iff_toInt_lt]; rw [Int32.le_iff_toInt_le] at h; omega
theorem mx_nle {x y : Int32} (h : ¬ x < y) : y ≤ x := by
  rw [Int32.lt_iff_toInt_lt] at h; rw [Int32.le_iff_toInt_le]; omega
theorem mx_lt' {x y : Int32} (h : ¬ y ≤ x) : x < y := by
  rw [Int32.le_iff_toInt_le] at h; rw [Int32.lt_iff_toInt_lt]; omega
