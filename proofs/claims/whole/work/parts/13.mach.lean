/-! The small machine: what must hold ahead of an instruction. B: a frame's judgement, P: pure callees' answers, al: how many cells and slots a callee may take, cd: the code, t: what is fixed of the heap. -/
abbrev mv_B : Type := Nat → Nat → Nat → Nat → Nat → List (Option Value) → List Value → mv_H → mv_Q → Prop
abbrev mv_PT : Type := Nat → List Value → mv_H → Option (Nat × (Bool ⊕ Int32))
abbrev mv_GT : Type := Nat → Nat → Nat → List (Option Value) → List Value → mv_H → Prop
def mv_kont (r : Nat) (g : List Value → mv_H → Prop) : mv_Q := match r with
  | 0 => fun v h1 => v = none ∧ g [] h1
  | 1 => fun v h1 => ∃ r, v = some (.int r) ∧ g [.int r] h1
  | 2 => fun v h1 => ∃ r, v = some (.long r) ∧ g [.long r] h1
  | _ => fun v h1 => ∃ r, v = some (.ref r) ∧ g [.ref r] h1
def mv_rcv (t : mv_T) (h : mv_H) (av : List Value) (kd : Nat) : Bool := match av with
  | .ref a :: _ => Nat.beq (mv_KT t h a).1 kd
  | _ => false
def mv_callB (t : mv_T) (B : mv_B) (P : mv_PT) (ml : Nat → Nat) (al : Nat → Option (Nat × Nat)) (D k n c r nx : Nat) (ls : List (Option Value)) (av rs : List Value) (h : mv_H) (go : mv_GT) : Prop :=
  match P c av h with
  | some (d, .inl b) => mv_gd (Nat.ble (d + 1) D) (cond b (go k n nx ls (.int 1 :: rs) h) (go k n nx ls (.int 0 :: rs) h))
  | some (d, .inr v) => mv_gd (Nat.ble (d + 1) D) (go k n nx ls (.int v :: rs) h)
  | none => match al c with
    | some q => mv_gd (Nat.ble 1 D && Nat.ble q.1 k && Nat.ble q.2 n) (B (D - 1) q.1 q.2 c 0 (mv_ent (ml c) av) [] h (mv_kont r (fun v h1 => go (k - q.1) (n - q.2) nx ls (v ++ rs) h1)))
    | none => mv_gd (Nat.ble 1 D) (∃ q : Nat × Nat, q.1 ≤ k ∧ q.2 ≤ n ∧ B (D - 1) q.1 q.2 c 0 (mv_ent (ml c) av) [] h (mv_kont r (fun v h1 => go (k - q.1) (n - q.2) nx ls (v ++ rs) h1)))
def mv_call (t : mv_T) (B : mv_B) (P : mv_PT) (ml : Nat → Nat) (al : Nat → Option (Nat × Nat)) (D k n x nx : Nat) (rv : Bool) (ls : List (Option Value)) (st : List Value) (h : mv_H) (go : mv_GT) : Prop :=
  mv_gd (Nat.ble (x / 4 % 8) st.length && Nat.ble (mv_wd (st.drop (x / 4 % 8))) 8 && Nat.ble (mv_wd (st.take (x / 4 % 8)).reverse) (ml (x / 32 % 512)) && (!rv || mv_rcv t h (st.take (x / 4 % 8)).reverse (x / 16384)))
  (mv_callB t B P ml al D k n (x / 32 % 512) (x % 4) nx ls (st.take (x / 4 % 8)).reverse (st.drop (x / 4 % 8)) h go)
/-- the numbers' operations, as the machine has them; a stretch is walked with any such -/
abbrev mv_OT : Type := (Nat → Int32 → Int32 → Int32) × (Nat → Int64 → Int64 → Int64) × (Int32 → Int64) × (Int64 → Int32) × (Int64 → Int64 → Int32)
def mv_oi (o : Nat) (x y : Int32) : Int32 := match o with
  | 0 => x + y
  | 1 => x - y
  | 2 => x * y
  | 3 => x &&& y
  | 4 => x ||| y
  | 5 => x ^^^ y
  | 6 => x <<< (y &&& 31)
  | 7 => x >>> (y &&& 31)
  | 8 => (x.toUInt32 >>> (y.toUInt32 &&& Int32.toUInt32 31)).toInt32
  | 9 => x / y
  | _ => x - x / y * y
def mv_ol (o : Nat) (x y : Int64) : Int64 := match o with
  | 0 => x + y
  | 1 => x - y
  | 2 => x * y
  | 3 => x &&& y
  | 4 => x ||| y
  | 5 => x / y
  | 6 => x - x / y * y
  | 7 => x <<< (y &&& 63)
  | _ => x >>> (y &&& 63)
def mv_O : mv_OT := (mv_oi, mv_ol, Int32.toInt64, Int64.toInt32, lg_cmp)
def mv_ins (O : mv_OT) (t : mv_T) (B : mv_B) (P : mv_PT) (ml : Nat → Nat) (al : Nat → Option (Nat × Nat)) (D k n : Nat) (i : Instr) (nx : Nat) (ls : List (Option Value)) (st : List Value) (h : mv_H) (Q : mv_Q) (go : mv_GT) : Prop :=
  match i with
  | .iload j => match mv_ge ls j with
    | some (.int x) => go k n nx ls (.int x :: st) h
    | _ => False
  | .lload j => match mv_ge ls j with
    | some (.long x) => go k n nx ls (.long x :: st) h
    | _ => False
  | .aload j => match mv_ge ls j with
    | some (.ref x) => go k n nx ls (.ref x :: st) h
    | _ => False
  | .istore j => match st with
    | .int x :: r => go k n nx (mv_s1 ls j (.int x)) r h
    | _ => False
  | .lstore j => match st with
    | .long x :: r => go k n nx (mv_s2 ls j (.long x)) r h
    | _ => False
  | .astore j => match st with
    | .ref x :: r => go k n nx (mv_s1 ls j (.ref x)) r h
    | _ => False
  | .iconst v => go k n nx ls (.int (mv_i v) :: st) h
  | .jsr_w v => go k n nx ls (.long (mv_l v) :: st) h
  | .ldc a => go k n nx ls (.ref a :: st) h
  | .aconst_null => go k n nx ls (.ref 0 :: st) h
  | .iinc j v => match mv_ge ls j with
    | some (.int x) => go k n nx (mv_s1 ls j (.int (O.1 0 x (mv_i v)))) st h
    | _ => False
  | .iadd => match st with
    | .int y :: .int x :: r => go k n nx ls (.int (O.1 0 x y) :: r) h
    | _ => False
  | .isub => match st with
    | .int y :: .int x :: r => go k n nx ls (.int (O.1 1 x y) :: r) h
    | _ => False
  | .imul => match st with
    | .int y :: .int x :: r => go k n nx ls (.int (O.1 2 x y) :: r) h
    | _ => False
  | .iand => match st with
    | .int y :: .int x :: r => go k n nx ls (.int (O.1 3 x y) :: r) h
    | _ => False
  | .ior => match st with
    | .int y :: .int x :: r => go k n nx ls (.int (O.1 4 x y) :: r) h
    | _ => False
  | .ixor => match st with
    | .int y :: .int x :: r => go k n nx ls (.int (O.1 5 x y) :: r) h
    | _ => False
  | .ishl => match st with
    | .int y :: .int x :: r => go k n nx ls (.int (O.1 6 x y) :: r) h
    | _ => False
  | .ishr => match st with
    | .int y :: .int x :: r => go k n nx ls (.int (O.1 7 x y) :: r) h
    | _ => False
  | .iushr => match st with
    | .int y :: .int x :: r => go k n nx ls (.int (O.1 8 x y) :: r) h
    | _ => False
  | .idiv => match st with
    | .int y :: .int x :: r => mv_gd (!decide (y = 0)) (go k n nx ls (.int (O.1 9 x y) :: r) h)
    | _ => False
  | .irem => match st with
    | .int y :: .int x :: r => mv_gd (!decide (y = 0)) (go k n nx ls (.int (O.1 10 x y) :: r) h)
    | _ => False
  | .ineg => match st with
    | .int x :: r => go k n nx ls (.int (-x) :: r) h
    | _ => False
  | .ladd => match st with
    | .long y :: .long x :: r => go k n nx ls (.long (O.2.1 0 x y) :: r) h
    | _ => False
  | .lsub => match st with
    | .long y :: .long x :: r => go k n nx ls (.long (O.2.1 1 x y) :: r) h
    | _ => False
  | .lmul => match st with
    | .long y :: .long x :: r => go k n nx ls (.long (O.2.1 2 x y) :: r) h
    | _ => False
  | .land => match st with
    | .long y :: .long x :: r => go k n nx ls (.long (O.2.1 3 x y) :: r) h
    | _ => False
  | .lor => match st with
    | .long y :: .long x :: r => go k n nx ls (.long (O.2.1 4 x y) :: r) h
    | _ => False
  | .ldiv => match st with
    | .long y :: .long x :: r => mv_gd (!decide (y = 0)) (go k n nx ls (.long (O.2.1 5 x y) :: r) h)
    | _ => False
  | .lrem => match st with
    | .long y :: .long x :: r => mv_gd (!decide (y = 0)) (go k n nx ls (.long (O.2.1 6 x y) :: r) h)
    | _ => False
  | .lshl => match st with
    | .int y :: .long x :: r => go k n nx ls (.long (O.2.1 7 x (O.2.2.1 y)) :: r) h
    | _ => False
  | .lshr => match st with
    | .int y :: .long x :: r => go k n nx ls (.long (O.2.1 8 x (O.2.2.1 y)) :: r) h
    | _ => False
  | .i2l => match st with
    | .int x :: r => go k n nx ls (.long (O.2.2.1 x) :: r) h
    | _ => False
  | .l2i => match st with
    | .long x :: r => go k n nx ls (.int (O.2.2.2.1 x) :: r) h
    | _ => False
  | .i2b => match st with
    | .int x :: r => go k n nx ls (.int x.toInt8.toInt32 :: r) h
    | _ => False
  | .i2s => match st with
    | .int x :: r => go k n nx ls (.int x.toInt16.toInt32 :: r) h
    | _ => False
  | .i2c => match st with
    | .int x :: r => go k n nx ls (.int (x.toUInt32 % 65536).toInt32 :: r) h
    | _ => False
  | .lcmp => match st with
    | .long y :: .long x :: r => go k n nx ls (.int (O.2.2.2.2 x y) :: r) h
    | _ => False
  | .fadd => match st with
    | .int y :: .int x :: r => mv_gd (Nat.ble 1 D && Nat.ble (mv_wd r) 8) (go k n nx ls (.int (if x < y then y else x) :: r) h)
    | _ => False
  | .fsub => match st with
    | .int y :: .int x :: r => mv_gd (Nat.ble 1 D && Nat.ble (mv_wd r) 8) (go k n nx ls (.int (if y < x then y else x) :: r) h)
    | _ => False
  | .dup => match st with
    | v :: r => mv_gd (mv_cat v) (go k n nx ls (v :: v :: r) h)
    | _ => False
  | .dup2 => match st with
    | v :: w :: r => mv_gd (mv_cat v && mv_cat w) (go k n nx ls (v :: w :: v :: w :: r) h)
    | _ => False
  | .pop => match st with
    | v :: r => mv_gd (mv_cat v) (go k n nx ls r h)
    | _ => False
  | .if_icmp c d => match st with
    | .int y :: .int x :: r => mv_br c x y (go k n d.toNat ls r h) (go k n nx ls r h)
    | _ => False
  | .ifCond c d => match st with
    | .int x :: r => mv_br c x 0 (go k n d.toNat ls r h) (go k n nx ls r h)
    | _ => False
  | .if_acmp c d => match st with
    | .ref y :: .ref x :: r => mv_gd (Nat.ble 50 x && Nat.ble 50 y) (match c with
      | .eq => if x = y then go k n d.toNat ls r h else go k n nx ls r h
      | .ne => if x = y then go k n nx ls r h else go k n d.toNat ls r h)
    | _ => False
  | .ifnonnull d => match st with
    | .ref x :: r => mv_gd (Nat.beq x 0 || Nat.ble 50 x) (if x = 0 then go k n nx ls r h else go k n d.toNat ls r h)
    | _ => False
  | .goto d => go k n d.toNat ls st h
  | .lookupswitch d ps => match st with
    | .int x :: r => mv_sw x ps.toList (fun t => go k n t ls r h) d.toNat
    | _ => False
  | .getfield x => match st with
    | .ref a :: r => mv_gd (Nat.beq (mv_KT t h a).1 (x / 256)) (cond (Nat.beq (x % 4) 1) (go k n nx ls (.ref (mv_RT t h a (x / 4 % 64)) :: r) h) (go k n nx ls (.int (mv_I h a (x / 4 % 64)) :: r) h))
    | _ => False
  | .putfield x => match st with
    | .int v :: .ref a :: r => mv_gd (Nat.beq (mv_KT t h a).1 (x / 256) && (Nat.beq (x % 4) 0 || (Nat.beq (x % 4) 2 && (decide (v = 0) || decide (v = 1))))) (go k n nx ls r (mv_sI h a (x / 4 % 64) v))
    | .ref b :: .ref a :: r => mv_gd (Nat.beq (mv_KT t h a).1 (x / 256) && Nat.beq (x % 4) 1 && !mv_fx t a (x / 4 % 64)) (go k n nx ls r (mv_sR h a (x / 4 % 64) b))
    | _ => False
  | .new ci => mv_gd (Nat.ble 1 k && Nat.ble (mv_nf ci) n && Nat.ble t.1 h.1) (go (k - 1) (n - mv_nf ci) nx ls (.ref h.1 :: st) (mv_new h ci (mv_nf ci)))
  | .newarray a => match st with
    | .int x :: r => mv_gd (Nat.ble 1 k && mv_in x 10000 && Nat.ble x.toNatClampNeg n && Nat.ble t.1 h.1) (go (k - 1) (n - x.toNatClampNeg) nx ls (.ref h.1 :: r) (mv_new h (mv_ak a) x.toNatClampNeg))
    | _ => False
  | .anewarray a => match st with
    | .int x :: r => mv_gd (Nat.ble 1 k && mv_in x 10000 && Nat.ble x.toNatClampNeg n && Nat.ble t.1 h.1) (go (k - 1) (n - x.toNatClampNeg) nx ls (.ref h.1 :: r) (mv_new h a x.toNatClampNeg))
    | _ => False
  | .arraylength => match st with
    | .ref a :: r => mv_gd (Nat.ble 20 (mv_KT t h a).1 && (Nat.ble (mv_KT t h a).1 26 || (Nat.ble 31 (mv_KT t h a).1 && Nat.ble (mv_KT t h a).1 33))) (go k n nx ls (.int (nI (mv_KT t h a).2) :: r) h)
    | _ => False
  | .iaload => match st with
    | .int i :: .ref a :: r => mv_gd ((Nat.beq (mv_KT t h a).1 20 || (Nat.beq (mv_KT t h a).1 32 || Nat.beq (mv_KT t h a).1 33)) && mv_in i (mv_KT t h a).2) (go k n nx ls (.int (mv_I h a i.toNatClampNeg) :: r) h)
    | _ => False
  | .baload => match st with
    | .int i :: .ref a :: r => mv_gd ((Nat.beq (mv_KT t h a).1 21 || (Nat.beq (mv_KT t h a).1 23 || Nat.beq (mv_KT t h a).1 31)) && mv_in i (mv_KT t h a).2) (go k n nx ls (.int (mv_I h a i.toNatClampNeg) :: r) h)
    | _ => False
  | .laload => match st with
    | .int i :: .ref a :: r => mv_gd (Nat.beq (mv_KT t h a).1 22 && mv_in i (mv_KT t h a).2) (go k n nx ls (.long (mv_J h a i.toNatClampNeg) :: r) h)
    | _ => False
  | .aaload => match st with
    | .int i :: .ref a :: r => mv_gd (Nat.ble 24 (mv_KT t h a).1 && Nat.ble (mv_KT t h a).1 26 && mv_in i (mv_KT t h a).2) (go k n nx ls (.ref (mv_RT t h a i.toNatClampNeg) :: r) h)
    | _ => False
  | .iastore => match st with
    | .int x :: .int i :: .ref a :: r => mv_gd (Nat.beq (mv_KT t h a).1 20 && mv_in i (mv_KT t h a).2) (go k n nx ls r (mv_sI h a i.toNatClampNeg x))
    | _ => False
  | .bastore => match st with
    | .int x :: .int i :: .ref a :: r => mv_gd ((Nat.beq (mv_KT t h a).1 21 || Nat.beq (mv_KT t h a).1 23) && mv_in i (mv_KT t h a).2) (go k n nx ls r (mv_sI h a i.toNatClampNeg (cond (Nat.beq (mv_KT t h a).1 21) x.toInt8.toInt32 (x &&& 1))))
    | _ => False
  | .lastore => match st with
    | .long x :: .int i :: .ref a :: r => mv_gd (Nat.beq (mv_KT t h a).1 22 && mv_in i (mv_KT t h a).2) (go k n nx ls r (mv_sJ h a i.toNatClampNeg x))
    | _ => False
  | .aastore => match st with
    | .ref b :: .int i :: .ref a :: r => mv_gd (Nat.ble 24 (mv_KT t h a).1 && Nat.ble (mv_KT t h a).1 26 && mv_in i (mv_KT t h a).2 && Nat.beq (mv_KT t h b).1 (mv_el (mv_KT t h a).1) && !mv_fx t a i.toNatClampNeg) (go k n nx ls r (mv_sR h a i.toNatClampNeg b))
    | _ => False
  | .monitorexit => match st with
    | .ref a :: r => mv_gd (Nat.ble 1 D && Nat.ble 50 a && Nat.ble (mv_wd r) 8) (go k n nx ls r h)
    | _ => False
  | .invokedynamic _ => match st with
    | .int c :: .int dp :: .ref b :: .int sp :: .ref a :: r => mv_gd (Nat.ble 1 D && Nat.beq (mv_KT t h a).1 20 && Nat.beq (mv_KT t h b).1 20 && (mv_in c 10000 && mv_in sp 10000 && mv_in dp 10000) && Nat.ble (sp.toNatClampNeg + c.toNatClampNeg) (mv_KT t h a).2 && Nat.ble (dp.toNatClampNeg + c.toNatClampNeg) (mv_KT t h b).2 && Nat.ble (mv_wd r) 8) (go k n nx ls r (mv_cp h a b sp.toNatClampNeg dp.toNatClampNeg c.toNatClampNeg))
    | _ => False
  | .invokestatic x => mv_call t B P ml al D k n x nx false ls st h go
  | .invokevirtual x => mv_call t B P ml al D k n x nx true ls st h go
  | .invokespecial x => mv_call t B P ml al D k n x nx true ls st h go
  | .ireturn => match st with
    | [.int x] => Q (some (.int x)) h
    | _ => False
  | .freturn => match st with
    | [.int x] => mv_gd (decide (x = 0) || decide (x = 1)) (Q (some (.int x)) h)
    | _ => False
  | .dreturn => match st with
    | [.int x] => mv_gd (mv_in x 128) (Q (some (.int x)) h)
    | _ => False
  | .lreturn => match st with
    | [.long x] => Q (some (.long x)) h
    | _ => False
  | .areturn => match st with
    | [.ref x] => Q (some (.ref x)) h
    | _ => False
  | .return_ => match st with
    | [] => Q none h
    | _ => False
  | _ => False
/-- a heap has what is fixed -/
def mv_ag (t : mv_T) (h : mv_H) : Prop := t.1 ≤ h.1 ∧ (∀ a, a < t.1 → mv_K h a = t.2.1 a) ∧ (∀ a k r, a < t.1 → t.2.2 a k = some r → mv_R h a k = r)
theorem mv_ag.K {t : mv_T} {h : mv_H} (g : mv_ag t h) (a : Nat) : mv_KT t h a = mv_K h a := by
  unfold mv_KT
  cases e : Nat.ble t.1 a with
  | true => rfl
  | false =>
    have : a < t.1 := by
      rcases Nat.lt_or_ge a t.1 with q | q
      · exact q
      · rw [Nat.ble_eq_true_of_le q] at e; cases e
    exact (g.2.1 a this).symm
theorem mv_ag.R {t : mv_T} {h : mv_H} (g : mv_ag t h) (a k : Nat) : mv_RT t h a k = mv_R h a k := by
  unfold mv_RT
  cases e : Nat.ble t.1 a with
  | true => rfl
  | false =>
    have ha : a < t.1 := by
      rcases Nat.lt_or_ge a t.1 with q | q
      · exact q
      · rw [Nat.ble_eq_true_of_le q] at e; cases e
    show (match t.2.2 a k with | some r => r | none => h.2.2.2.2 a k) = mv_R h a k
    cases q : t.2.2 a k with
    | none => rfl
    | some r => exact (g.2.2 a k r ha q).symm
theorem mv_ag.sI {t : mv_T} {h : mv_H} {a k : Nat} {x : Int32} (g : mv_ag t h) : mv_ag t (mv_sI h a k x) := g
theorem mv_ag.sJ {t : mv_T} {h : mv_H} {a k : Nat} {x : Int64} (g : mv_ag t h) : mv_ag t (mv_sJ h a k x) := g
theorem mv_ag.cp {t : mv_T} {h : mv_H} {a b x y z : Nat} (g : mv_ag t h) : mv_ag t (mv_cp h a b x y z) := g
theorem mv_ag.sR {t : mv_T} {h : mv_H} {a k x : Nat} (g : mv_ag t h) (hf : mv_fx t a k = false) : mv_ag t (mv_sR h a k x) := by
  refine ⟨g.1, g.2.1, fun b j r hb hr => ?_⟩
  show mv_up (mv_R h) a k x b j = r
  unfold mv_up
  by_cases e1 : b = a
  · by_cases e2 : j = k
    · subst e1; subst e2
      exfalso
      unfold mv_fx at hf
      have : Nat.ble t.1 b = false := by
        cases q : Nat.ble t.1 b with
        | false => rfl
        | true => have := Nat.le_of_ble_eq_true q; omega
      rw [this, hr] at hf
      cases hf
    · rw [e1, mv_beq, mv_bne e2]
      exact g.2.2 a j r (e1 ▸ hb) (e1 ▸ hr)
  · rw [mv_bne e1]
    exact g.2.2 b j r hb hr
theorem mv_ag.new {t : mv_T} {h : mv_H} {kd len : Nat} (g : mv_ag t h) : mv_ag t (mv_new h kd len) := by
  refine ⟨Nat.le_succ_of_le g.1, fun a ha => ?_, fun a k r ha hr => ?_⟩
  · show cond (Nat.beq a h.1) _ _ = _
    rw [mv_bne (by have := g.1; omega)]
    exact g.2.1 a ha
  · show mv_row (mv_R h) h.1 (fun _ => 0) a k = r
    rw [mv_row_ne (by have := g.1; omega)]
    exact g.2.2 a k r ha hr
/-- the judgement, with what is fixed -/
def mv_V (E : mv_E) (t : mv_T) (D k n m pc : Nat) (ls : List (Option Value)) (st : List Value) (h : mv_H) (Q : mv_Q) : Prop := mv_ag t h → mv_W E D k n m pc ls st h (fun v h' => mv_ag t h' ∧ Q v h')
theorem mv_V.mono {E : mv_E} {t : mv_T} {D k n m pc : Nat} {ls : List (Option Value)} {st : List Value} {h : mv_H} {Q Q' : mv_Q} (hk : mv_V E t D k n m pc ls st h Q) (hq : ∀ v h', Q v h' → Q' v h') : mv_V E t D k n m pc ls st h Q' := fun g => (hk g).mono (fun v h' q => ⟨q.1, hq v h' q.2⟩)
theorem mv_W.up {E : mv_E} {D D' k n m pc : Nat} {ls : List (Option Value)} {st : List Value} {h : mv_H} {Q : mv_Q} (hk : mv_W E D k n m pc ls st h Q) (hd : D ≤ D') : mv_W E D' k n m pc ls st h Q := by
  intro p l e R s mi args below meth c H locs cells slots Z mc ms Ls X Y d1 d2 c1 c2 c3 c4 F
  exact hk p l e R s mi args below meth c H locs cells slots Z mc ms Ls X Y (by omega) (by omega) c1 c2 c3 c4 F
theorem mv_V.up {E : mv_E} {t : mv_T} {D D' k n m pc : Nat} {ls : List (Option Value)} {st : List Value} {h : mv_H} {Q : mv_Q} (hk : mv_V E t D k n m pc ls st h Q) (hd : D ≤ D') : mv_V E t D' k n m pc ls st h Q := fun g => (hk g).up hd
theorem mv_W.room {E : mv_E} {D k n k' n' m pc : Nat} {ls : List (Option Value)} {st : List Value} {h : mv_H} {Q : mv_Q} (hk : mv_W E D k n m pc ls st h Q) (h1 : k ≤ k') (h2 : n ≤ n') : mv_W E D k' n' m pc ls st h Q := by
  intro p l e R s mi args below meth c H locs cells slots Z mc ms Ls X Y d1 d2 c1 c2 c3 c4 F
  exact hk p l e R s mi args below meth c H locs cells slots Z mc ms Ls X Y d1 d2 (by omega) (by omega) c3 c4 F
theorem mv_V.room {E : mv_E} {t : mv_T} {D k n k' n' m pc : Nat} {ls : List (Option Value)} {st : List Value} {h : mv_H} {Q : mv_Q} (hk : mv_V E t D k n m pc ls st h Q) (h1 : k ≤ k') (h2 : n ≤ n') : mv_V E t D k' n' m pc ls st h Q := fun g => (hk g).room h1 h2
