/-! A small machine over the program's resolved code. A heap: how many cells; of each its kind and length; ints; longs; references (0: null). -/
abbrev mv_H : Type := Nat × (Nat → Nat × Nat) × (Nat → Nat → Int32) × (Nat → Nat → Int64) × (Nat → Nat → Nat)
def mv_n (h : mv_H) : Nat := h.1
def mv_K (h : mv_H) : Nat → Nat × Nat := h.2.1
def mv_I (h : mv_H) : Nat → Nat → Int32 := h.2.2.1
def mv_J (h : mv_H) : Nat → Nat → Int64 := h.2.2.2.1
def mv_R (h : mv_H) : Nat → Nat → Nat := h.2.2.2.2
def mv_up {α : Type} (f : Nat → Nat → α) (a k : Nat) (x : α) : Nat → Nat → α := fun b j => cond (Nat.beq b a) (cond (Nat.beq j k) x (f b j)) (f b j)
def mv_row {α : Type} (f : Nat → Nat → α) (a : Nat) (r : Nat → α) : Nat → Nat → α := fun b j => cond (Nat.beq b a) (r j) (f b j)
def mv_sI (h : mv_H) (a k : Nat) (x : Int32) : mv_H := (h.1, h.2.1, mv_up h.2.2.1 a k x, h.2.2.2.1, h.2.2.2.2)
def mv_sJ (h : mv_H) (a k : Nat) (x : Int64) : mv_H := (h.1, h.2.1, h.2.2.1, mv_up h.2.2.2.1 a k x, h.2.2.2.2)
def mv_sR (h : mv_H) (a k : Nat) (x : Nat) : mv_H := (h.1, h.2.1, h.2.2.1, h.2.2.2.1, mv_up h.2.2.2.2 a k x)
def mv_new (h : mv_H) (kd len : Nat) : mv_H := (h.1 + 1, fun b => cond (Nat.beq b h.1) (kd, len) (h.2.1 b), mv_row h.2.2.1 h.1 (fun _ => 0), mv_row h.2.2.2.1 h.1 (fun _ => 0), mv_row h.2.2.2.2 h.1 (fun _ => 0))
def mv_cp (h : mv_H) (a b sp dp n : Nat) : mv_H := (h.1, h.2.1, mv_row h.2.2.1 b (va_cpy (h.2.2.1 a) (h.2.2.1 b) sp dp n), h.2.2.2.1, h.2.2.2.2)
/-- what is fixed of a heap: below t.1 kinds and lengths, and some references (those of which t.2.2 tells) -/
abbrev mv_T : Type := Nat × (Nat → Nat × Nat) × (Nat → Nat → Option Nat)
def mv_T0 : mv_T := (0, fun _ => (0, 0), fun _ _ => none)
def mv_KT (t : mv_T) (h : mv_H) (a : Nat) : Nat × Nat := cond (Nat.ble t.1 a) (h.2.1 a) (t.2.1 a)
def mv_RT (t : mv_T) (h : mv_H) (a k : Nat) : Nat := cond (Nat.ble t.1 a) (h.2.2.2.2 a k) (match t.2.2 a k with | some r => r | none => h.2.2.2.2 a k)
def mv_fx (t : mv_T) (a k : Nat) : Bool := cond (Nat.ble t.1 a) false (match t.2.2 a k with | some _ => true | none => false)
def mv_G (t : mv_T) (h : mv_H) : mv_H := (h.1, mv_KT t h, h.2.2.1, h.2.2.2.1, mv_RT t h)
/-- numbers of the code -/
def mv_i (n : Int) : Int32 := match n with
  | .ofNat k => nI k
  | .negSucc k => -(nI (k + 1))
def mv_l (n : Int) : Int64 := match n with
  | .ofNat k => lN k
  | .negSucc k => -(lN (k + 1))
/-- an index within a row of n -/
def mv_in (i : Int32) (n : Nat) : Bool := Nat.ble (i.toBitVec.toNat + 1) n && Nat.ble n 2147483648
def mv_ge (ls : List (Option Value)) (j : Nat) : Option Value := match ls, j with
  | [], _ => none
  | v :: _, 0 => v
  | _ :: r, j + 1 => mv_ge r j
def mv_se (ls : List (Option Value)) (j : Nat) (v : Option Value) : List (Option Value) := match ls, j with
  | [], _ => []
  | _ :: r, 0 => v :: r
  | w :: r, j + 1 => w :: mv_se r j v
def mv_cat (v : Value) : Bool := match v with
  | .int _ => true
  | .ref _ => true
  | _ => false
def mv_kl (ls : List (Option Value)) (j : Nat) : List (Option Value) := match j with
  | 0 => ls
  | i + 1 => match mv_ge ls i with
    | some v => cond (mv_cat v) ls (mv_se ls i none)
    | none => ls
def mv_s1 (ls : List (Option Value)) (j : Nat) (v : Value) : List (Option Value) := mv_se (mv_kl ls j) j (some v)
def mv_s2 (ls : List (Option Value)) (j : Nat) (v : Value) : List (Option Value) := mv_se (mv_se (mv_kl ls j) j (some v)) (j + 1) none
def mv_wd (st : List Value) : Nat := match st with
  | [] => 0
  | .int _ :: r => mv_wd r + 1
  | .ref _ :: r => mv_wd r + 1
  | .long _ :: r => mv_wd r + 2
  | _ :: _ => 100
/-- the locals with which a method begins -/
def mv_pad (n : Nat) : List (Option Value) := match n with
  | 0 => []
  | k + 1 => none :: mv_pad k
def mv_ent (n : Nat) (av : List Value) : List (Option Value) := match av, n with
  | [], n => mv_pad n
  | .long x :: r, n + 2 => some (.long x) :: none :: mv_ent n r
  | .int x :: r, n + 1 => some (.int x) :: mv_ent n r
  | .ref x :: r, n + 1 => some (.ref x) :: mv_ent n r
  | _, _ => []
def mv_br (c : ClassFile.Cond) (x y : Int32) (A B : Prop) : Prop := match c with
  | .eq => if x = y then A else B
  | .ne => if x = y then B else A
  | .lt => if x < y then A else B
  | .ge => if x < y then B else A
  | .gt => if y < x then A else B
  | .le => if y < x then B else A
def mv_sw (x : Int32) (ps : List (Int × Int)) (g : Nat → Prop) (d : Nat) : Prop := match ps with
  | [] => g d
  | (v, t) :: r => if x = mv_i v then g t.toNat else mv_sw x r g d
def mv_gd (b : Bool) (P : Prop) : Prop := cond b P False
theorem mv_gdI {b : Bool} {P : Prop} (h : b = true) (p : P) : mv_gd b P := by subst h; exact p
theorem mv_gdE {b : Bool} {P : Prop} (h : mv_gd b P) : b = true ∧ P := by cases b with
  | true => exact ⟨rfl, h⟩
  | false => exact h.elim
def mv_ak (a : ArrayType) : Nat := match a with
  | .int => 20
  | .byte => 21
  | .long => 22
  | .boolean => 23
  | _ => 99
def mv_nf (ci : Nat) : Nat := match ci with
  | 0 => 6
  | 1 => 2
  | 2 => 2
  | 3 => 16
  | 4 => 6
  | 5 => 13
  | 6 => 4
  | 7 => 7
  | 8 => 3
  | 9 => 3
  | 10 => 17
  | 11 => 33
  | _ => 1000000000
def mv_el (kd : Nat) : Nat := match kd with
  | 24 => 8
  | 25 => 3
  | 26 => 6
  | _ => 98
abbrev mv_Q : Type := Option Value → mv_H → Prop
/-- one instruction: what must hold ahead of it. B: a frame's judgement (frames left are D - 1 for a callee), P: pure callees' answers -/
def mv_call (t : mv_T) (B : Nat → Nat → Nat → Nat → List (Option Value) → List Value → mv_H → mv_Q → Prop) (P : Nat → List Value → mv_H → Option (Bool ⊕ Int32)) (ml : Nat → Nat) (al : Nat → Option (Nat × Nat)) (k n x nx : Nat) (rv : Bool) (ls : List (Option Value)) (st : List Value) (h : mv_H) (go : Nat → Nat → Nat → List (Option Value) → List Value → mv_H → Prop) : Prop :=
  mv_gd (Nat.ble (x / 4 % 8) st.length && Nat.ble (mv_wd (st.drop (x / 4 % 8))) 8 && (!rv || (match (st.take (x / 4 % 8)).reverse with | .ref a :: _ => Nat.beq (mv_KT t h a).1 (x / 16384) | _ => false)))
  (match P (x / 32 % 512) ((st.take (x / 4 % 8)).reverse) h with
  | some (.inl b) => cond b (go k n nx ls (.int (nI 1) :: st.drop (x / 4 % 8)) h) (go k n nx ls (.int (nI 0) :: st.drop (x / 4 % 8)) h)
  | some (.inr v) => go k n nx ls (.int v :: st.drop (x / 4 % 8)) h
  | none => match al (x / 32 % 512) with
    | some q => mv_gd (Nat.ble q.1 k && Nat.ble q.2 n) (B q.1 q.2 (x / 32 % 512) 0 (mv_ent (ml (x / 32 % 512)) ((st.take (x / 4 % 8)).reverse)) [] h (match x % 4 with
      | 0 => fun v h1 => v = none ∧ go (k - q.1) (n - q.2) nx ls (st.drop (x / 4 % 8)) h1
      | 1 => fun v h1 => ∃ r, v = some (.int r) ∧ go (k - q.1) (n - q.2) nx ls (.int r :: st.drop (x / 4 % 8)) h1
      | 2 => fun v h1 => ∃ r, v = some (.long r) ∧ go (k - q.1) (n - q.2) nx ls (.long r :: st.drop (x / 4 % 8)) h1
      | _ => fun v h1 => ∃ r, v = some (.ref r) ∧ go (k - q.1) (n - q.2) nx ls (.ref r :: st.drop (x / 4 % 8)) h1))
    | none => ∃ q : Nat × Nat, q.1 ≤ k ∧ q.2 ≤ n ∧ B q.1 q.2 (x / 32 % 512) 0 (mv_ent (ml (x / 32 % 512)) ((st.take (x / 4 % 8)).reverse)) [] h (match x % 4 with
      | 0 => fun v h1 => v = none ∧ go (k - q.1) (n - q.2) nx ls (st.drop (x / 4 % 8)) h1
      | 1 => fun v h1 => ∃ r, v = some (.int r) ∧ go (k - q.1) (n - q.2) nx ls (.int r :: st.drop (x / 4 % 8)) h1
      | 2 => fun v h1 => ∃ r, v = some (.long r) ∧ go (k - q.1) (n - q.2) nx ls (.long r :: st.drop (x / 4 % 8)) h1
      | _ => fun v h1 => ∃ r, v = some (.ref r) ∧ go (k - q.1) (n - q.2) nx ls (.ref r :: st.drop (x / 4 % 8)) h1))
def mv_ins (t : mv_T) (B : Nat → Nat → Nat → Nat → List (Option Value) → List Value → mv_H → mv_Q → Prop) (P : Nat → List Value → mv_H → Option (Bool ⊕ Int32)) (ml : Nat → Nat) (al : Nat → Option (Nat × Nat)) (k n : Nat) (i : Instr) (nx : Nat) (ls : List (Option Value)) (st : List Value) (h : mv_H) (Q : mv_Q) (go : Nat → Nat → Nat → List (Option Value) → List Value → mv_H → Prop) : Prop :=
  match i with
  | .iload j => match mv_ge ls j with
    | some (.int x) => go k n nx ls (.int x :: st) h
    | _ => False
  | .lload j => match mv_ge ls j with
    | some (.long x) => go k n nx ls (.long x :: st) h
    | _ => False
  | .aload j => match mv_ge ls j with
    | some (.ref x) => go k n nx ls (.ref x :: st) h
    | _ => False
  | .istore j => match st with
    | .int x :: r => go k n nx (mv_s1 ls j (.int x)) r h
    | _ => False
  | .lstore j => match st with
    | .long x :: r => go k n nx (mv_s2 ls j (.long x)) r h
    | _ => False
  | .astore j => match st with
    | .ref x :: r => go k n nx (mv_s1 ls j (.ref x)) r h
    | _ => False
  | .iconst v => go k n nx ls (.int (mv_i v) :: st) h
  | .jsr_w v => go k n nx ls (.long (mv_l v) :: st) h
  | .ldc a => go k n nx ls (.ref a :: st) h
  | .aconst_null => go k n nx ls (.ref 0 :: st) h
  | .iinc j v => match mv_ge ls j with
    | some (.int x) => go k n nx (mv_s1 ls j (.int (x + mv_i v))) st h
    | _ => False
  | .iadd => match st with
    | .int y :: .int x :: r => go k n nx ls (.int (x + y) :: r) h
    | _ => False
  | .isub => match st with
    | .int y :: .int x :: r => go k n nx ls (.int (x - y) :: r) h
    | _ => False
  | .imul => match st with
    | .int y :: .int x :: r => go k n nx ls (.int (x * y) :: r) h
    | _ => False
  | .iand => match st with
    | .int y :: .int x :: r => go k n nx ls (.int (x &&& y) :: r) h
    | _ => False
  | .ior => match st with
    | .int y :: .int x :: r => go k n nx ls (.int (x ||| y) :: r) h
    | _ => False
  | .ixor => match st with
    | .int y :: .int x :: r => go k n nx ls (.int (x ^^^ y) :: r) h
    | _ => False
  | .ishl => match st with
    | .int y :: .int x :: r => go k n nx ls (.int (x <<< (y &&& 31)) :: r) h
    | _ => False
  | .ishr => match st with
    | .int y :: .int x :: r => go k n nx ls (.int (x >>> (y &&& 31)) :: r) h
    | _ => False
  | .iushr => match st with
    | .int y :: .int x :: r => go k n nx ls (.int (x.toUInt32 >>> (y.toUInt32 &&& Int32.toUInt32 31)).toInt32 :: r) h
    | _ => False
  | .idiv => match st with
    | .int y :: .int x :: r => mv_gd (!decide (y = 0)) (go k n nx ls (.int (x / y) :: r) h)
    | _ => False
  | .irem => match st with
    | .int y :: .int x :: r => mv_gd (!decide (y = 0)) (go k n nx ls (.int (x - x / y * y) :: r) h)
    | _ => False
  | .ineg => match st with
    | .int x :: r => go k n nx ls (.int (-x) :: r) h
    | _ => False
  | .ladd => match st with
    | .long y :: .long x :: r => go k n nx ls (.long (x + y) :: r) h
    | _ => False
  | .lsub => match st with
    | .long y :: .long x :: r => go k n nx ls (.long (x - y) :: r) h
    | _ => False
  | .lmul => match st with
    | .long y :: .long x :: r => go k n nx ls (.long (x * y) :: r) h
    | _ => False
  | .land => match st with
    | .long y :: .long x :: r => go k n nx ls (.long (x &&& y) :: r) h
    | _ => False
  | .lor => match st with
    | .long y :: .long x :: r => go k n nx ls (.long (x ||| y) :: r) h
    | _ => False
  | .ldiv => match st with
    | .long y :: .long x :: r => mv_gd (!decide (y = 0)) (go k n nx ls (.long (x / y) :: r) h)
    | _ => False
  | .lrem => match st with
    | .long y :: .long x :: r => mv_gd (!decide (y = 0)) (go k n nx ls (.long (x - x / y * y) :: r) h)
    | _ => False
  | .lshl => match st with
    | .int y :: .long x :: r => go k n nx ls (.long (x <<< (y.toInt64 &&& 63)) :: r) h
    | _ => False
  | .lshr => match st with
    | .int y :: .long x :: r => go k n nx ls (.long (x >>> (y.toInt64 &&& 63)) :: r) h
    | _ => False
  | .i2l => match st with
    | .int x :: r => go k n nx ls (.long x.toInt64 :: r) h
    | _ => False
  | .l2i => match st with
    | .long x :: r => go k n nx ls (.int x.toInt32 :: r) h
    | _ => False
  | .i2b => match st with
    | .int x :: r => go k n nx ls (.int x.toInt8.toInt32 :: r) h
    | _ => False
  | .i2s => match st with
    | .int x :: r => go k n nx ls (.int x.toInt16.toInt32 :: r) h
    | _ => False
  | .i2c => match st with
    | .int x :: r => go k n nx ls (.int (x.toUInt32 % 65536).toInt32 :: r) h
    | _ => False
  | .lcmp => match st with
    | .long y :: .long x :: r => go k n nx ls (.int (lg_cmp x y) :: r) h
    | _ => False
  | .dup => match st with
    | v :: r => mv_gd (mv_cat v) (go k n nx ls (v :: v :: r) h)
    | _ => False
  | .dup2 => match st with
    | v :: w :: r => mv_gd (mv_cat v && mv_cat w) (go k n nx ls (v :: w :: v :: w :: r) h)
    | _ => False
  | .pop => match st with
    | v :: r => mv_gd (mv_cat v) (go k n nx ls r h)
    | _ => False
  | .if_icmp c d => match st with
    | .int y :: .int x :: r => mv_br c x y (go k n d.toNat ls r h) (go k n nx ls r h)
    | _ => False
  | .ifCond c d => match st with
    | .int x :: r => mv_br c x 0 (go k n d.toNat ls r h) (go k n nx ls r h)
    | _ => False
  | .if_acmp c d => match st with
    | .ref y :: .ref x :: r => mv_gd (Nat.ble 50 x && Nat.ble 50 y) (match c with
      | .eq => if x = y then go k n d.toNat ls r h else go k n nx ls r h
      | .ne => if x = y then go k n nx ls r h else go k n d.toNat ls r h)
    | _ => False
  | .ifnonnull d => match st with
    | .ref x :: r => mv_gd (Nat.beq x 0 || Nat.ble 50 x) (if x = 0 then go k n nx ls r h else go k n d.toNat ls r h)
    | _ => False
  | .goto d => go k n d.toNat ls st h
  | .lookupswitch d ps => match st with
    | .int x :: r => mv_sw x ps.toList (fun t => go k n t ls r h) d.toNat
    | _ => False
  | .getfield x => match st with
    | .ref a :: r => mv_gd (Nat.beq (mv_KT t h a).1 (x / 256)) (cond (Nat.beq (x % 4) 1) (go k n nx ls (.ref (mv_RT t h a (x / 4 % 64)) :: r) h) (go k n nx ls (.int (mv_I h a (x / 4 % 64)) :: r) h))
    | _ => False
  | .putfield x => match st with
    | .int v :: .ref a :: r => mv_gd (Nat.beq (mv_KT t h a).1 (x / 256) && (Nat.beq (x % 4) 0 || (Nat.beq (x % 4) 2 && (decide (v = 0) || decide (v = 1))))) (go k n nx ls r (mv_sI h a (x / 4 % 64) v))
    | .ref b :: .ref a :: r => mv_gd (Nat.beq (mv_KT t h a).1 (x / 256) && Nat.beq (x % 4) 1 && !mv_fx t a (x / 4 % 64)) (go k n nx ls r (mv_sR h a (x / 4 % 64) b))
    | _ => False
  | .new ci => mv_gd (Nat.ble 1 k && Nat.ble (mv_nf ci) n && Nat.ble t.1 h.1) (go (k - 1) (n - mv_nf ci) nx ls (.ref h.1 :: st) (mv_new h ci (mv_nf ci)))
  | .newarray a => match st with
    | .int x :: r => mv_gd (Nat.ble 1 k && mv_in x 10000 && Nat.ble x.toNatClampNeg n && Nat.ble t.1 h.1) (go (k - 1) (n - x.toNatClampNeg) nx ls (.ref h.1 :: r) (mv_new h (mv_ak a) x.toNatClampNeg))
    | _ => False
  | .anewarray a => match st with
    | .int x :: r => mv_gd (Nat.ble 1 k && mv_in x 10000 && Nat.ble x.toNatClampNeg n && Nat.ble t.1 h.1) (go (k - 1) (n - x.toNatClampNeg) nx ls (.ref h.1 :: r) (mv_new h a x.toNatClampNeg))
    | _ => False
  | .arraylength => match st with
    | .ref a :: r => mv_gd (Nat.ble 20 (mv_KT t h a).1 && (Nat.ble (mv_KT t h a).1 26 || (Nat.ble 31 (mv_KT t h a).1 && Nat.ble (mv_KT t h a).1 33))) (go k n nx ls (.int (nI (mv_KT t h a).2) :: r) h)
    | _ => False
  | .iaload => match st with
    | .int i :: .ref a :: r => mv_gd ((Nat.beq (mv_KT t h a).1 20 || (Nat.beq (mv_KT t h a).1 32 || Nat.beq (mv_KT t h a).1 33)) && mv_in i (mv_KT t h a).2) (go k n nx ls (.int (mv_I h a i.toNatClampNeg) :: r) h)
    | _ => False
  | .baload => match st with
    | .int i :: .ref a :: r => mv_gd ((Nat.beq (mv_KT t h a).1 21 || (Nat.beq (mv_KT t h a).1 23 || Nat.beq (mv_KT t h a).1 31)) && mv_in i (mv_KT t h a).2) (go k n nx ls (.int (mv_I h a i.toNatClampNeg) :: r) h)
    | _ => False
  | .laload => match st with
    | .int i :: .ref a :: r => mv_gd (Nat.beq (mv_KT t h a).1 22 && mv_in i (mv_KT t h a).2) (go k n nx ls (.long (mv_J h a i.toNatClampNeg) :: r) h)
    | _ => False
  | .aaload => match st with
    | .int i :: .ref a :: r => mv_gd (Nat.ble 24 (mv_KT t h a).1 && Nat.ble (mv_KT t h a).1 26 && mv_in i (mv_KT t h a).2) (go k n nx ls (.ref (mv_RT t h a i.toNatClampNeg) :: r) h)
    | _ => False
  | .iastore => match st with
    | .int x :: .int i :: .ref a :: r => mv_gd (Nat.beq (mv_KT t h a).1 20 && mv_in i (mv_KT t h a).2) (go k n nx ls r (mv_sI h a i.toNatClampNeg x))
    | _ => False
  | .bastore => match st with
    | .int x :: .int i :: .ref a :: r => mv_gd ((Nat.beq (mv_KT t h a).1 21 || Nat.beq (mv_KT t h a).1 23) && mv_in i (mv_KT t h a).2) (go k n nx ls r (mv_sI h a i.toNatClampNeg (cond (Nat.beq (mv_KT t h a).1 21) x.toInt8.toInt32 (x &&& 1))))
    | _ => False
  | .lastore => match st with
    | .long x :: .int i :: .ref a :: r => mv_gd (Nat.beq (mv_KT t h a).1 22 && mv_in i (mv_KT t h a).2) (go k n nx ls r (mv_sJ h a i.toNatClampNeg x))
    | _ => False
  | .aastore => match st with
    | .ref b :: .int i :: .ref a :: r => mv_gd (Nat.ble 24 (mv_KT t h a).1 && Nat.ble (mv_KT t h a).1 26 && mv_in i (mv_KT t h a).2 && Nat.beq (mv_KT t h b).1 (mv_el (mv_KT t h a).1) && !mv_fx t a i.toNatClampNeg) (go k n nx ls r (mv_sR h a i.toNatClampNeg b))
    | _ => False
  | .monitorexit => match st with
    | .ref a :: r => mv_gd (Nat.ble 50 a && Nat.ble (mv_wd r) 8) (go k n nx ls r h)
    | _ => False
  | .invokedynamic _ => match st with
    | .int c :: .int dp :: .ref b :: .int sp :: .ref a :: r => mv_gd (Nat.beq (mv_KT t h a).1 20 && Nat.beq (mv_KT t h b).1 20 && (mv_in c 10000 && mv_in sp 10000 && mv_in dp 10000) && Nat.ble (sp.toNatClampNeg + c.toNatClampNeg) (mv_KT t h a).2 && Nat.ble (dp.toNatClampNeg + c.toNatClampNeg) (mv_KT t h b).2 && Nat.ble (mv_wd r) 8) (go k n nx ls r (mv_cp h a b sp.toNatClampNeg dp.toNatClampNeg c.toNatClampNeg))
    | _ => False
  | .invokestatic x => mv_call t B P ml al k n x nx false ls st h go
  | .invokevirtual x => mv_call t B P ml al k n x nx true ls st h go
  | .invokespecial x => mv_call t B P ml al k n x nx true ls st h go
  | .ireturn => match st with
    | [.int x] => Q (some (.int x)) h
    | _ => False
  | .freturn => match st with
    | [.int x] => mv_gd (decide (x = 0) || decide (x = 1)) (Q (some (.int x)) h)
    | _ => False
  | .dreturn => match st with
    | [.int x] => mv_gd (mv_in x 128) (Q (some (.int x)) h)
    | _ => False
  | .lreturn => match st with
    | [.long x] => Q (some (.long x)) h
    | _ => False
  | .areturn => match st with
    | [.ref x] => Q (some (.ref x)) h
    | _ => False
  | .return_ => match st with
    | [] => Q none h
    | _ => False
  | _ => False
/-- a stretch of code, up to the next head of a loop -/
def mv_wp (t : mv_T) (B : Nat → Nat → Nat → Nat → Nat → List (Option Value) → List Value → mv_H → mv_Q → Prop) (P : Nat → List Value → mv_H → Option (Bool ⊕ Int32)) (ml : Nat → Nat) (al : Nat → Option (Nat × Nat)) (cd : Nat → Instr × Nat × Bool) (D m : Nat) (Q : mv_Q) : Nat → Nat → Nat → Nat → (Instr × Nat × Bool) → List (Option Value) → List Value → mv_H → Prop
  | 0, k, n, pc, _, ls, st, h => B D k n m pc ls st h Q
  | f + 1, k, n, pc, e, ls, st, h => mv_ins t (B (D - 1)) P ml al k n e.1 (pc + e.2.1) ls st h Q (fun k1 n1 pc1 ls1 st1 h1 => cond (cd pc1).2.2 (B D k1 n1 m pc1 ls1 st1 h1 Q) (mv_wp t B P ml al cd D m Q f k1 n1 pc1 (cd pc1) ls1 st1 h1))
