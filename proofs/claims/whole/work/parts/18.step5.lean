/-! One instruction: constants, what was there before, library members that are one step, copies. -/
set_option maxRecDepth 100000 in
theorem mv_okMn : ∀ e ∈ mv_tM, (e.2.2.1 = 307 ∨ e.2.2.1 = 308) → ¬ e.2.2.2.1 = 1 := by decide +kernel
section
variable {E : mv_E} {D k n m pc : Nat} {ls : List (Option Value)} {st : List Value} {h : mv_H} {Q : mv_Q}
theorem mv_tI_inv {q : Nat} {v : Int32} (hm : m < 324) (hl : mv_tI.any (fun e => Nat.beq e.1 (mv_ow m) && (Nat.beq e.2.1 q && decide (Int32.ofInt e.2.2.1 = v))) = true) : Cond.constant (mv_y m).cls q v ∈ mv_gw := by
  obtain ⟨e, he, hl⟩ := List.any_eq_true.mp hl
  simp only [Bool.and_eq_true, decide_eq_true_eq] at hl
  have g := mv_okI e he
  rw [mv_bq hl.1, mv_okown m hm, mv_bq hl.2.1, hl.2.2] at g
  exact mv_pg_in g
theorem mw_ldci {q : Nat} {v : Int32} (hm : m < 324) (hl : mv_tI.any (fun e => Nat.beq e.1 (mv_ow m) && (Nat.beq e.2.1 q && decide (Int32.ofInt e.2.2.1 = v))) = true) (hd : decode (mv_cc m) pc = .ok (.ldc q, 2)) (hk : mv_W E D k n m (pc + 2) ls (.int v :: st) h Q) : mv_W E D k n m pc ls st h Q := mv_go (fun p l e R s mi args below meth c H locs cells slots Z Ls X Y w => lv_ldc X.1 X.2.1 X.own (X.wd _ (mv_tI_inv hm hl)) hd w) hk
theorem mw_ldcw {q : Nat} {v : Int32} (hm : m < 324) (hl : mv_tI.any (fun e => Nat.beq e.1 (mv_ow m) && (Nat.beq e.2.1 q && decide (Int32.ofInt e.2.2.1 = v))) = true) (hd : decode (mv_cc m) pc = .ok (.ldc_w q, 3)) (hk : mv_W E D k n m (pc + 3) ls (.int v :: st) h Q) : mv_W E D k n m pc ls st h Q := mv_go (fun p l e R s mi args below meth c H locs cells slots Z Ls X Y w => lv_ldcw X.1 X.2.1 X.own (X.wd _ (mv_tI_inv hm hl)) hd w) hk
theorem mw_ldc2 {q : Nat} {v : Int64} (hm : m < 324) (hl : mv_tJ.any (fun e => Nat.beq e.1 (mv_ow m) && (Nat.beq e.2.1 q && decide (Int64.ofInt e.2.2.1 = v))) = true) (hd : decode (mv_cc m) pc = .ok (.ldc2_w q, 3)) (hk : mv_W E D k n m (pc + 3) ls (.long v :: st) h Q) : mv_W E D k n m pc ls st h Q := by
  obtain ⟨e, he, hl⟩ := List.any_eq_true.mp hl
  simp only [Bool.and_eq_true, decide_eq_true_eq] at hl
  have g := mv_okJ e he
  rw [mv_bq hl.1, mv_okown m hm, mv_bq hl.2.1, hl.2.2] at g
  exact mv_go (fun p l e R s mi args below meth c H locs cells slots Z Ls X Y w => lv_ldc2 X.1 X.2.1 X.own (X.wd _ (mv_pg_in g)) hd w) hk
theorem mw_ldcs {q a : Nat} (hm : m < 324) (hl : mv_tR.any (fun e => Nat.beq e.1 (mv_ow m) && (Nat.beq e.2.1 q && Nat.beq (1 + e.2.2) a)) = true) (hd : decode (mv_cc m) pc = .ok (.ldc q, 2)) (hk : mv_W E D k n m (pc + 2) ls (.ref a :: st) h Q) : mv_W E D k n m pc ls st h Q := by
  obtain ⟨e, he, hl⟩ := List.any_eq_true.mp hl
  simp only [Bool.and_eq_true] at hl
  obtain ⟨l1, l2, l3⟩ := hl
  have l1 := mv_bq l1; have l2 := mv_bq l2; have l3 := mv_bq l3
  obtain ⟨g1, z, hz, z1, z2, z3⟩ := mv_okR e he
  refine mv_go (fun p l e' R s mi args below meth c H locs cells slots Z Ls X Y w => ?_) hk
  have w : W p l e' R s mi args below meth c H locs cells slots Z (F0 mi (pc + 2) Ls (mv_v E (.ref a) :: st.map (mv_v E))) := w
  rw [mv_rfl (by omega) (by omega)] at w
  have g := X.bs.2.2.2.2.2.1 z hz
  rw [z1, z2, z3, l1, mv_okown m hm, l2, l3] at g
  exact va_ldcS X.1 X.2.1 X.own g hd w
theorem mw_gsO {q : Nat} (hm : m < 324) (hl : mv_k3 m q 0 mv_tS = true) (hd : decode (mv_cc m) pc = .ok (.getstatic q, 3)) (hk : mv_W E D k n m (pc + 3) ls (.ref 47 :: st) h Q) : mv_W E D k n m pc ls st h Q := by
  obtain ⟨e, he, l1, l2, l3⟩ := mv_k3_inv hl
  have g := (mv_okS e he).2
  rw [l3, if_pos rfl, l1, mv_okown m hm, l2] at g
  refine mv_go (fun p l e' R s mi args below meth c H locs cells slots Z Ls X Y w => ?_) hk
  have w : W p l e' R s mi args below meth c H locs cells slots Z (F0 mi (pc + 3) Ls (mv_v E (.ref 47) :: st.map (mv_v E))) := w
  rw [mv_rfl (by omega) (by omega)] at w
  exact va_gets X.1 X.2.1 X.bs.2.2.1.1 Y.1 X.own (X.wd _ (mv_pg_in g)) (fun x hx => hx) hd w
theorem mw_gsC {q : Nat} (hm : m < 324) (hl : mv_k3 m q 1 mv_tS = true) (hd : decode (mv_cc m) pc = .ok (.getstatic q, 3)) (hk : mv_W E D k n m (pc + 3) ls (.int 1 :: st) h Q) : mv_W E D k n m pc ls st h Q := by
  obtain ⟨e, he, l1, l2, l3⟩ := mv_k3_inv hl
  have g := (mv_okS e he).2
  rw [l3, if_neg (by decide), if_pos rfl, l1, mv_okown m hm, l2] at g
  exact mv_go (fun p l e' R s mi args below meth c H locs cells slots Z Ls X Y w => va_gets X.1 X.2.1 X.bs.2.2.2.1 Y.1 X.own (X.wd _ (mv_pg_in g)) (fun x hx => hx) hd w) hk
theorem mw_gsF {q : Nat} (hm : m < 324) (hl : mv_k3 m q 2 mv_tS = true) (hd : decode (mv_cc m) pc = .ok (.getstatic q, 3)) (hk : mv_W E D k n m (pc + 3) ls (.ref 49 :: st) h Q) : mv_W E D k n m pc ls st h Q := by
  obtain ⟨e, he, l1, l2, l3⟩ := mv_k3_inv hl
  have g := (mv_okS e he).2
  rw [l3, if_neg (by decide), if_neg (by decide), l1, mv_okown m hm, l2] at g
  exact mv_go (fun p l e' R s mi args below meth c H locs cells slots Z Ls X Y w => va_gets X.1 X.2.1 X.bs.2.2.2.2.2.2.1 Y.1 X.own (X.wd _ (mv_pg_in g)) (fun x hx => hx) hd w) hk
theorem mw_getS {a q x : Nat} (hm : m < 324) (hl : mv_k3 m q x mv_tG = true) (hk : (mv_K h a).1 = 30) (hd : decode (mv_cc m) pc = .ok (.getfield q, 3)) (hw : mv_W E D k n m (pc + 3) ls ((if x % 4 = 1 then .ref (mv_R h a (x / 4 % 64)) else .int (mv_I h a (x / 4 % 64))) :: st) h Q) : mv_W E D k n m pc ls (.ref a :: st) h Q := by
  obtain ⟨e, he, l1, l2, l3⟩ := mv_k3_inv hl
  obtain ⟨g, g2⟩ := mv_okG e he
  rw [l1, mv_okown m hm, l2] at g
  refine mv_go (fun p l e' R s mi args below meth c H locs cells slots Z Ls X Y w => ?_) hw
  obtain ⟨i, hi, rfl⟩ := mv_str Y.2.1 hk
  obtain ⟨-, s1, s2, -⟩ := X.bs.2.2.2.2.1.1 i hi
  obtain ⟨-, b1, b2, -⟩ := Y.2.1.2.2.2.2.2.1 i hi
  have w : W p l e' R s mi args below meth c H locs cells slots Z (F0 mi (pc + 3) Ls (mv_v E (if x % 4 = 1 then .ref (mv_R h (1 + i) (x / 4 % 64)) else .int (mv_I h (1 + i) (x / 4 % 64))) :: st.map (mv_v E))) := w
  show W p l e' R s mi args below meth c H locs cells slots Z (F0 mi pc Ls (mv_v E (.ref (1 + i)) :: st.map (mv_v E)))
  rw [mv_rfl (by omega) (by omega)]
  rw [l3] at g2 g
  rcases g2 with rfl | rfl
  · rw [if_pos rfl] at g
    rw [if_pos (by decide), show 7681 / 4 % 64 = 0 by decide, b1, mv_rfl (by omega) (by omega)] at w
    exact vk_getf X.1 X.2.1 s2 Y.1 X.own (X.wd _ (mv_pg_in g)) (fun x hx => hx) hd w
  · rw [if_neg (by decide)] at g
    rw [if_neg (by decide), show 7684 / 4 % 64 = 1 by decide, b2] at w
    exact vk_getf X.1 X.2.1 s1 Y.1 X.own (X.wd _ (mv_pg_in g)) (fun x hx => hx) hd w
theorem mw_ialoadO {a : Nat} {i : Int32} (hk : (mv_K h a).1 = 32) (hi : mv_in i (mv_K h a).2 = true) (hd : decode (mv_cc m) pc = .ok (.iaload, 1)) (hw : mv_W E D k n m (pc + 1) ls (.int (mv_I h a i.toNatClampNeg) :: st) h Q) : mv_W E D k n m pc ls (.int i :: .ref a :: st) h Q := by
  refine mv_go (fun p l e R s mi args below meth c H locs cells slots Z Ls X Y w => ?_) hw
  obtain ⟨rfl, g⟩ := mv_ords Y.2.1 hk
  rw [g] at hi
  show W p l e R s mi args below meth c H locs cells slots Z (F0 mi pc Ls (.int i :: mv_v E (.ref 47) :: st.map (mv_v E)))
  rw [mv_rfl (by omega) (by omega)]
  exact va_ti X.1 X.2.1 X.bs.2.2.1.2 Y.1 (mv_in_vp hi).1 (by rw [Y.2.1.2.2.2.2.2.2.1]; rfl) hd w
theorem mw_ialoadX {a : Nat} {i : Int32} (hk : (mv_K h a).1 = 33) (hi : mv_in i (mv_K h a).2 = true) (hd : decode (mv_cc m) pc = .ok (.iaload, 1)) (hw : mv_W E D k n m (pc + 1) ls (.int (mv_I h a i.toNatClampNeg) :: st) h Q) : mv_W E D k n m pc ls (.int i :: .ref a :: st) h Q := by
  refine mv_go (fun p l e R s mi args below meth c H locs cells slots Z Ls X Y w => ?_) hw
  obtain ⟨rfl, g⟩ := mv_scr Y.2.1 hk
  rw [g] at hi
  have b := X.bs.2.1
  have w : W p l e R s mi args below meth c H locs cells slots Z (F0 mi (pc + 1) Ls (.int (mv_I h 48 i.toNatClampNeg) :: st.map (mv_v E))) := w
  rw [Y.2.1.2.2.2.2.2.2.2] at w
  show W p l e R s mi args below meth c H locs cells slots Z (F0 mi pc Ls (.int i :: mv_v E (.ref 48) :: st.map (mv_v E)))
  rw [mv_rfl (by omega) (by omega)]
  exact va_sld X.1 X.2.1 b.1 (by omega) (by unfold mv_A; omega) Y.1 (mv_in_vp hi).1 hd w
theorem mw_baloadS {a : Nat} {i : Int32} (hk : (mv_K h a).1 = 31) (hi : mv_in i (mv_K h a).2 = true) (hd : decode (mv_cc m) pc = .ok (.baload, 1)) (hw : mv_W E D k n m (pc + 1) ls (.int (mv_I h a i.toNatClampNeg) :: st) h Q) : mv_W E D k n m pc ls (.int i :: .ref a :: st) h Q := by
  refine mv_go (fun p l e R s mi args below meth c H locs cells slots Z Ls X Y w => ?_) hw
  obtain ⟨j, hj, rfl, g⟩ := mv_byts Y.2.1 hk
  rw [g] at hi
  obtain ⟨-, -, -, s3⟩ := X.bs.2.2.2.2.1.1 j hj
  obtain ⟨-, -, -, -, b2⟩ := Y.2.1.2.2.2.2.2.1 j hj
  show W p l e R s mi args below meth c H locs cells slots Z (F0 mi pc Ls (.int i :: mv_v E (.ref (24 + j)) :: st.map (mv_v E)))
  rw [mv_rfl (by omega) (by omega)]
  exact va_tb X.1 X.2.1 s3 Y.1 (mv_in_vp hi).1 (by rw [b2]; rfl) hd w
theorem mw_alenO {a : Nat} (hk : (mv_K h a).1 = 31 ∨ (mv_K h a).1 = 32 ∨ (mv_K h a).1 = 33) (hd : decode (mv_cc m) pc = .ok (.arraylength, 1)) (hw : mv_W E D k n m (pc + 1) ls (.int (nI (mv_K h a).2) :: st) h Q) : mv_W E D k n m pc ls (.ref a :: st) h Q := by
  refine mv_go (fun p l e R s mi args below meth c H locs cells slots Z Ls X Y w => ?_) hw
  show W p l e R s mi args below meth c H locs cells slots Z (F0 mi pc Ls (mv_v E (.ref a) :: st.map (mv_v E)))
  have w : W p l e R s mi args below meth c H locs cells slots Z (F0 mi (pc + 1) Ls (.int (nI (mv_K h a).2) :: st.map (mv_v E))) := w
  rcases hk with hk | hk | hk
  · obtain ⟨j, hj, rfl, g⟩ := mv_byts Y.2.1 hk
    rw [g] at w
    obtain ⟨-, -, -, s3⟩ := X.bs.2.2.2.2.1.1 j hj
    rw [mv_rfl (by omega) (by omega)]
    exact va_tlen X.1 X.2.1 s3 Y.1 rfl hd w
  · obtain ⟨rfl, g⟩ := mv_ords Y.2.1 hk
    rw [g] at w
    rw [mv_rfl (by omega) (by omega)]
    exact va_tlen X.1 X.2.1 X.bs.2.2.1.2 Y.1 rfl hd w
  · obtain ⟨rfl, g⟩ := mv_scr Y.2.1 hk
    rw [g] at w
    have b := X.bs.2.1
    rw [mv_rfl (by omega) (by omega)]
    exact va_slen X.1 X.2.1 b.1 (by omega) (by unfold mv_A; omega) Y.1 hd w
theorem mw_objinit {q a : Nat} (hm : m < 324) (hl : mv_tO.any (fun e => Nat.beq e.1 (mv_ow m) && Nat.beq e.2.1 q) = true) (hD : 1 ≤ D) (ha : 50 ≤ a) (hs : mv_wd st ≤ 8) (hd : decode (mv_cc m) pc = .ok (.invokespecial q, 3)) (hw : mv_W E D k n m (pc + 3) ls st h Q) : mv_W E D k n m pc ls (.ref a :: st) h Q := by
  obtain ⟨e, he, hl⟩ := List.any_eq_true.mp hl
  simp only [Bool.and_eq_true] at hl
  have g := mv_okO e he
  rw [mv_bq hl.1, mv_okown m hm, mv_bq hl.2] at g
  have gx := mv_okX
  intro p l e R s mi args below meth c H locs cells slots Z mc ms Ls X Y d1 d2 c1 c2 c3 c4 F
  have w := hw p l e R s mi args below meth c H locs cells slots Z mc ms Ls X Y d1 d2 c1 c2 c3 c4 F
  show W p l e R s mi args below meth c H locs cells slots Z (F0 mi pc Ls (mv_v E (.ref a) :: st.map (mv_v E)))
  rw [mv_rfh ha]
  refine W.objInit X.1 X.2.1 X.own (X.wd _ (mv_pg_in g)) (X.wd _ (mv_pg_in gx.2.2.2.2.2.1)) (X.wd _ (mv_pg_in gx.2.2.2.2.2.2)) rfl (by rw [X.ml]; exact Y.2.2.1.1) rfl hd (by omega) ?_ w
  show 2 * 0 + _ + 12 ≤ _
  rw [mv_wd_sum st (by omega)]
  omega
theorem mw_mmax {q : Nat} {x y : Int32} (hm : m < 324) (hl : mv_iv m q 308 = true) (hD : 1 ≤ D) (hs : mv_wd st ≤ 8) (hd : decode (mv_cc m) pc = .ok (.invokestatic q, 3)) (hw : mv_W E D k n m (pc + 3) ls (.int (if x < y then y else x) :: st) h Q) : mv_W E D k n m pc ls (.int y :: .int x :: st) h Q := by
  obtain ⟨e, he, hl⟩ := List.any_eq_true.mp hl
  simp only [Bool.and_eq_true] at hl
  obtain ⟨l1, l2, l3⟩ := hl
  have l1 := mv_bq l1; have l2 := mv_bq l2; have l3 := mv_bq l3
  have nn := mv_okMn e he (Or.inr l3)
  obtain ⟨-, g⟩ := mv_okM e he
  rw [if_neg nn, if_neg nn, l1, mv_okown m hm, l2, l3] at g
  obtain ⟨o1, o2, -, -, -, o3⟩ := mv_okm_inv (mv_okms 308 (by omega) (by omega))
  rcases o3 with ⟨-, o3⟩ | ⟨o3, -⟩
  · intro p l e R s mi args below meth c H locs cells slots Z mc ms Ls X Y d1 d2 c1 c2 c3 c4 F
    have w := hw p l e R s mi args below meth c H locs cells slots Z mc ms Ls X Y d1 d2 c1 c2 c3 c4 F
    exact va_mmax X.1 X.2.1 (by rw [X.ml]; exact Y.2.2.1.1.symm) X.own (X.wd _ (mv_pg_in g)) (X.wd _ o3) (X.wd _ o2) (X.wd _ o1) (by omega) (by rw [mv_wd_sum st (by omega)]; omega) (by omega) (by omega) hd w
  · exact absurd (show (mv_pl 308).2.2.2.2 = 1 by rfl) o3
theorem mw_mmin {q : Nat} {x y : Int32} (hm : m < 324) (hl : mv_iv m q 307 = true) (hD : 1 ≤ D) (hs : mv_wd st ≤ 8) (hd : decode (mv_cc m) pc = .ok (.invokestatic q, 3)) (hw : mv_W E D k n m (pc + 3) ls (.int (if y < x then y else x) :: st) h Q) : mv_W E D k n m pc ls (.int y :: .int x :: st) h Q := by
  obtain ⟨e, he, hl⟩ := List.any_eq_true.mp hl
  simp only [Bool.and_eq_true] at hl
  obtain ⟨l1, l2, l3⟩ := hl
  have l1 := mv_bq l1; have l2 := mv_bq l2; have l3 := mv_bq l3
  have nn := mv_okMn e he (Or.inl l3)
  obtain ⟨-, g⟩ := mv_okM e he
  rw [if_neg nn, if_neg nn, l1, mv_okown m hm, l2, l3] at g
  obtain ⟨o1, o2, -, -, -, o3⟩ := mv_okm_inv (mv_okms 307 (by omega) (by omega))
  rcases o3 with ⟨-, o3⟩ | ⟨o3, -⟩
  · intro p l e R s mi args below meth c H locs cells slots Z mc ms Ls X Y d1 d2 c1 c2 c3 c4 F
    have w := hw p l e R s mi args below meth c H locs cells slots Z mc ms Ls X Y d1 d2 c1 c2 c3 c4 F
    exact va_mmin X.1 X.2.1 (by rw [X.ml]; exact Y.2.2.1.1.symm) X.own (X.wd _ (mv_pg_in g)) (X.wd _ o3) (X.wd _ o2) (X.wd _ o1) (by omega) (by rw [mv_wd_sum st (by omega)]; omega) (by omega) (by omega) hd w
  · exact absurd (show (mv_pl 307).2.2.2.2 = 1 by rfl) o3
theorem mw_copy {q a b : Nat} {cn sp dp : Int32} (hm : m < 324) (hl : mv_tY.any (fun e => Nat.beq e.1 (mv_ow m) && Nat.beq e.2.1 q) = true) (hD : 1 ≤ D) (hka : (mv_K h a).1 = 20) (hkb : (mv_K h b).1 = 20) (hi1 : mv_in cn 10000 = true) (hi2 : mv_in sp 10000 = true) (hi3 : mv_in dp 10000 = true) (hs1 : sp.toNatClampNeg + cn.toNatClampNeg ≤ (mv_K h a).2) (hs2 : dp.toNatClampNeg + cn.toNatClampNeg ≤ (mv_K h b).2) (hs : mv_wd st ≤ 8) (hd : decode (mv_cc m) pc = .ok (.invokestatic q, 3)) (hw : mv_W E D k n m (pc + 3) ls st (mv_cp h a b sp.toNatClampNeg dp.toNatClampNeg cn.toNatClampNeg) Q) : mv_W E D k n m pc ls (.int cn :: .int dp :: .ref b :: .int sp :: .ref a :: st) h Q := by
  obtain ⟨e, he, hl⟩ := List.any_eq_true.mp hl
  simp only [Bool.and_eq_true] at hl
  have g := mv_okY e he
  rw [mv_bq hl.1, mv_okown m hm, mv_bq hl.2] at g
  have gx := mv_okX
  intro p l e R s mi args below meth c H locs cells slots Z mc ms Ls X Y d1 d2 c1 c2 c3 c4 F
  obtain ⟨a1, a2, -, a3⟩ := mv_ary Y.2.1 hka (by decide) (by decide)
  obtain ⟨b1, b2, -, b3⟩ := mv_ary Y.2.1 hkb (by decide) (by decide)
  have hA : mv_A E (mv_sz E + (b - 50)) := by unfold mv_A; omega
  have h1 : ¬ sp < 0 := fun q => (mv_in_vp hi2).1 (Or.inl q)
  have h2 : ¬ dp < 0 := fun q => (mv_in_vp hi3).1 (Or.inl q)
  have h3 : ¬ cn < 0 := fun q => (mv_in_vp hi1).1 (Or.inl q)
  show W p l e R s mi args below meth c H locs cells slots Z (F0 mi pc Ls (.int cn :: .int dp :: mv_v E (.ref b) :: .int sp :: mv_v E (.ref a) :: st.map (mv_v E)))
  rw [mv_rfh a1, mv_rfh b1]
  have nn : ∀ z : Int32, ¬ z < 0 → z.toInt = (z.toNatClampNeg : Int) := by
    intro z hz
    have hz0 : (0 : Int) ≤ z.toInt := by
      have := Int32.not_lt.mp hz
      simpa using Int32.le_iff_toInt_le.mp this
    show z.toInt = ((z.toInt.toNat : Nat) : Int)
    omega
  intro T hT XS
  have hc0 : H[mv_sz E + (a - 50)]? = some (vp_cell (mv_cA E 20) ((mv_K h a).2, .inl (mv_I h a))) := a3
  have hc1 : H[mv_sz E + (b - 50)]? = some (vp_cell (mv_cA E 20) ((mv_K h b).2, .inl (mv_I h b))) := b3
  have ht := X.bs.1.2 0 _ (mv_tys_at (E := E) (kd := 20) (by decide) (by decide))
  obtain ⟨-, k0, hk0, cm0, hkk0⟩ := ht.1 (mv_K h a).2 (fun j => .int (mv_I h a j))
  obtain ⟨vm', X', step⟩ := XS.arraycopy X.1 X.own (X.wd _ (mv_pg_in g)) (X.wd _ (mv_pg_in gx.2.2.1)) (X.wd _ (mv_pg_in gx.2.2.2.1)) (X.wd _ (mv_pg_in gx.2.2.2.2.1)) (src := mv_sz E + (a - 50)) (dst := mv_sz E + (b - 50)) (cs := vp_cell (mv_cA E 20) ((mv_K h a).2, .inl (mv_I h a))) (cd := vp_cell (mv_cA E 20) ((mv_K h b).2, .inl (mv_I h b))) (srcPos := sp) (destPos := dp) (n := cn) (by rw [hT]; exact hc0) (by rw [hT]; exact hc1)
    (fun _ h => by cases h) (fun _ h => by cases h) (fun h => by cases h) (fun h => by cases h) hk0 hk0 hkk0 hkk0 (by simp [mv_ty, refKind]) h1 h2 h3
    (by rw [nn sp h1, nn cn h3]; show ¬ _ > ((arrV (mv_cA E 20) (mv_K h a).2 (fun j => .int (mv_I h a j))).slots.size : Int); rw [arrV_size]; omega)
    (by rw [nn dp h2, nn cn h3]; show ¬ _ > ((arrV (mv_cA E 20) (mv_K h b).2 (fun j => .int (mv_I h b j))).slots.size : Int); rw [arrV_size]; omega)
    (fun vm₁ _ i hi => by
      have e : (vp_cell (mv_cA E 20) ((mv_K h a).2, .inl (mv_I h a))).slots.getD (sp.toNatClampNeg + i) .null = .int (mv_I h a (sp.toNatClampNeg + i)) := by
        show (arrV (mv_cA E 20) (mv_K h a).2 (fun j => .int (mv_I h a j))).slots.getD _ _ = _
        rw [Array.getD_eq_getD_getElem?, arrV_read _ _ (by omega)]
        rfl
      refine ⟨?_, ?_⟩
      · rw [e]; rfl
      · rw [e]; exact trivial)
    (g := F0 mi pc Ls (.int cn :: .int dp :: .ref (mv_sz E + (b - 50)) :: .int sp :: .ref (mv_sz E + (a - 50)) :: st.map (mv_v E))) rfl (by rw [X.ml]; exact Y.2.2.1.1) (rest := st.map (mv_v E)) rfl (by rw [X.2.1]; exact hd) (by omega) (by show 2 * 0 + _ + (7 + 11) ≤ _; rw [mv_wd_sum st (by omega)]; omega)
  have e1 : copied (vp_cell (mv_cA E 20) ((mv_K h a).2, .inl (mv_I h a))) (vp_cell (mv_cA E 20) ((mv_K h b).2, .inl (mv_I h b))) sp dp cn = vp_cell (mv_cA E 20) ((mv_K h b).2, .inl (va_cpy (mv_I h a) (mv_I h b) sp.toNatClampNeg dp.toNatClampNeg cn.toNatClampNeg)) := va_copied (fun z => .int z) (mv_cA E 20) (mv_cA E 20) (mv_I h a) (mv_I h b) hs1
  rw [e1] at X' step
  have hlt : mv_sz E + (b - 50) < H.size := (Array.getElem?_eq_some_iff.mp hc1).1
  generalize hce : vp_cell (mv_cA E 20) ((mv_K h b).2, .inl (va_cpy (mv_I h a) (mv_I h b) sp.toNatClampNeg dp.toNatClampNeg cn.toNatClampNeg)) = ce at X' step
  have hheap : ((T.setVm vm').setCell (mv_sz E + (b - 50)) ce).heap = H.setIfInBounds (mv_sz E + (b - 50)) ce := by rw [← hT]; rfl
  have oq : ∀ q : Nat, q ≠ mv_sz E + (b - 50) → (H.setIfInBounds (mv_sz E + (b - 50)) ce)[q]? = H[q]? := fun q hq => by simp [Array.getElem?_setIfInBounds, Ne.symm hq]
  have z : (H.setIfInBounds (mv_sz E + (b - 50)) ce).size = H.size := by simp
  have w : ∀ L : List Loc, (∀ q ∈ L, q.base = mv_sz E + (b - 50)) → W p l e R s mi args below meth c (H.setIfInBounds (mv_sz E + (b - 50)) ce) (locs ++ L) cells slots Z (F0 mi (pc + 3) Ls (st.map (mv_v E))) := fun L hL => by
    refine hw p l e R s mi args below meth c (H.setIfInBounds (mv_sz E + (b - 50)) ce) (locs ++ L) cells slots Z mc ms Ls X ⟨⟨by rw [z]; exact Y.1.1, fun q g1 g2 => by
      rw [oq q (fun e => g2 (by rw [e]; exact hA))]
      exact Y.1.2.1 q g1 g2, fun q hq => by
      rcases List.mem_append.mp hq with h | h
      · exact Y.1.2.2 q h
      · rw [hL q h]; exact hA⟩, Y.2.1.put b1 b2 rfl rfl mv_cp_ne (mv_ary_at rfl hkb (by decide) ?_) z oq, Y.2.2.1, Y.2.2.2⟩ d1 d2 c1 c2 c3 c4 F
    rw [← hce]
    show (H.setIfInBounds _ _)[_]? = some (vp_cell _ (_, .inl (mv_I (mv_cp h a b sp.toNatClampNeg dp.toNatClampNeg cn.toNatClampNeg) b)))
    have eI : mv_I (mv_cp h a b sp.toNatClampNeg dp.toNatClampNeg cn.toNatClampNeg) b = va_cpy (mv_I h a) (mv_I h b) sp.toNatClampNeg dp.toNatClampNeg cn.toNatClampNeg := mv_row_self
    rw [eI]
    simp [Array.getElem?_setIfInBounds, hlt]
    rfl
  obtain ⟨t, t1, t2⟩ := w _ (fun q hq => by obtain ⟨y, -, hy⟩ := List.mem_map.mp hq; rw [← hy]) _ hheap X'
  exact ⟨t, step t t1, t2⟩
end
