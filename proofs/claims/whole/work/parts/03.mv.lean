/-! A small machine over the program's resolved code. A heap: how many cells; of each its kind and length; ints; longs; references (0: null). -/
abbrev mv_H : Type := Nat × (Nat → Nat × Nat) × (Nat → Nat → Int32) × (Nat → Nat → Int64) × (Nat → Nat → Nat)
def mv_n (h : mv_H) : Nat := h.1
def mv_K (h : mv_H) : Nat → Nat × Nat := h.2.1
def mv_I (h : mv_H) : Nat → Nat → Int32 := h.2.2.1
def mv_J (h : mv_H) : Nat → Nat → Int64 := h.2.2.2.1
def mv_R (h : mv_H) : Nat → Nat → Nat := h.2.2.2.2
def mv_up {α : Type} (f : Nat → Nat → α) (a k : Nat) (x : α) : Nat → Nat → α := fun b j => cond (Nat.beq b a) (cond (Nat.beq j k) x (f b j)) (f b j)
def mv_row {α : Type} (f : Nat → Nat → α) (a : Nat) (r : Nat → α) : Nat → Nat → α := fun b j => cond (Nat.beq b a) (r j) (f b j)
def mv_sI (h : mv_H) (a k : Nat) (x : Int32) : mv_H := (h.1, h.2.1, mv_up h.2.2.1 a k x, h.2.2.2.1, h.2.2.2.2)
def mv_sJ (h : mv_H) (a k : Nat) (x : Int64) : mv_H := (h.1, h.2.1, h.2.2.1, mv_up h.2.2.2.1 a k x, h.2.2.2.2)
def mv_sR (h : mv_H) (a k : Nat) (x : Nat) : mv_H := (h.1, h.2.1, h.2.2.1, h.2.2.2.1, mv_up h.2.2.2.2 a k x)
def mv_new (h : mv_H) (kd len : Nat) : mv_H := (h.1 + 1, fun b => cond (Nat.beq b h.1) (kd, len) (h.2.1 b), mv_row h.2.2.1 h.1 (fun _ => 0), mv_row h.2.2.2.1 h.1 (fun _ => 0), mv_row h.2.2.2.2 h.1 (fun _ => 0))
def mv_cp (h : mv_H) (a b sp dp n : Nat) : mv_H := (h.1, h.2.1, mv_row h.2.2.1 b (va_cpy (h.2.2.1 a) (h.2.2.1 b) sp dp n), h.2.2.2.1, h.2.2.2.2)
/-- what is fixed of a heap: below t.1 kinds and lengths, and some references (those of which t.2.2 tells) -/
abbrev mv_T : Type := Nat × (Nat → Nat × Nat) × (Nat → Nat → Option Nat)
def mv_T0 : mv_T := (0, fun _ => (0, 0), fun _ _ => none)
def mv_KT (t : mv_T) (h : mv_H) (a : Nat) : Nat × Nat := cond (Nat.ble t.1 a) (h.2.1 a) (t.2.1 a)
def mv_RT (t : mv_T) (h : mv_H) (a k : Nat) : Nat := cond (Nat.ble t.1 a) (h.2.2.2.2 a k) (match t.2.2 a k with | some r => r | none => h.2.2.2.2 a k)
def mv_fx (t : mv_T) (a k : Nat) : Bool := cond (Nat.ble t.1 a) false (match t.2.2 a k with | some _ => true | none => false)
def mv_G (t : mv_T) (h : mv_H) : mv_H := (h.1, mv_KT t h, h.2.2.1, h.2.2.2.1, mv_RT t h)
/-- numbers of the code -/
def mv_i (n : Int) : Int32 := match n with
  | .ofNat k => nI k
  | .negSucc k => -(nI (k + 1))
def mv_l (n : Int) : Int64 := match n with
  | .ofNat k => lN k
  | .negSucc k => -(lN (k + 1))
/-- an index within a row of n -/
def mv_in (i : Int32) (n : Nat) : Bool := Nat.ble (i.toBitVec.toNat + 1) n && Nat.ble n 2147483648
def mv_ge (ls : List (Option Value)) (j : Nat) : Option Value := match ls, j with
  | [], _ => none
  | v :: _, 0 => v
  | _ :: r, j + 1 => mv_ge r j
def mv_se (ls : List (Option Value)) (j : Nat) (v : Option Value) : List (Option Value) := match ls, j with
  | [], _ => []
  | _ :: r, 0 => v :: r
  | w :: r, j + 1 => w :: mv_se r j v
def mv_cat (v : Value) : Bool := match v with
  | .int _ => true
  | .ref _ => true
  | _ => false
def mv_kl (ls : List (Option Value)) (j : Nat) : List (Option Value) := match j with
  | 0 => ls
  | i + 1 => match mv_ge ls i with
    | some v => cond (mv_cat v) ls (mv_se ls i none)
    | none => ls
def mv_s1 (ls : List (Option Value)) (j : Nat) (v : Value) : List (Option Value) := mv_se (mv_kl ls j) j (some v)
def mv_s2 (ls : List (Option Value)) (j : Nat) (v : Value) : List (Option Value) := mv_se (mv_se (mv_kl ls j) j (some v)) (j + 1) none
def mv_wd (st : List Value) : Nat := match st with
  | [] => 0
  | .int _ :: r => mv_wd r + 1
  | .ref _ :: r => mv_wd r + 1
  | .long _ :: r => mv_wd r + 2
  | _ :: _ => 100
/-- the locals with which a method begins -/
def mv_pad (n : Nat) : List (Option Value) := match n with
  | 0 => []
  | k + 1 => none :: mv_pad k
def mv_ent (n : Nat) (av : List Value) : List (Option Value) := match av, n with
  | [], n => mv_pad n
  | .long x :: r, n + 2 => some (.long x) :: none :: mv_ent n r
  | .int x :: r, n + 1 => some (.int x) :: mv_ent n r
  | .ref x :: r, n + 1 => some (.ref x) :: mv_ent n r
  | _, _ => []
def mv_br (c : ClassFile.Cond) (x y : Int32) (A B : Prop) : Prop := match c with
  | .eq => if x = y then A else B
  | .ne => if x = y then B else A
  | .lt => if x < y then A else B
  | .ge => if x < y then B else A
  | .gt => if y < x then A else B
  | .le => if y < x then B else A
def mv_sw (x : Int32) (ps : List (Int × Int)) (g : Nat → Prop) (d : Nat) : Prop := match ps with
  | [] => g d
  | (v, t) :: r => if x = mv_i v then g t.toNat else mv_sw x r g d
def mv_gd (b : Bool) (P : Prop) : Prop := cond b P False
theorem mv_gdI {b : Bool} {P : Prop} (h : b = true) (p : P) : mv_gd b P := by subst h; exact p
theorem mv_gdE {b : Bool} {P : Prop} (h : mv_gd b P) : b = true ∧ P := by cases b with
  | true => exact ⟨rfl, h⟩
  | false => exact h.elim
def mv_ak (a : ArrayType) : Nat := match a with
  | .int => 20
  | .byte => 21
  | .long => 22
  | .boolean => 23
  | _ => 99
def mv_nf (ci : Nat) : Nat := match ci with
  | 0 => 6
  | 1 => 2
  | 2 => 2
  | 3 => 16
  | 4 => 6
  | 5 => 13
  | 6 => 4
  | 7 => 7
  | 8 => 3
  | 9 => 3
  | 10 => 17
  | 11 => 33
  | _ => 1000000000
def mv_el (kd : Nat) : Nat := match kd with
  | 24 => 8
  | 25 => 3
  | 26 => 6
  | _ => 98
abbrev mv_Q : Type := Option Value → mv_H → Prop
