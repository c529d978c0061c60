/-! What a heap of the small machine is in the great one. -/
/-- the world's constants: class ids and slots; array classes by kind; addresses of what was there before; the formatter; where new cells begin; the script -/
abbrev mv_E : Type := va_G × (Nat → ClassId) × (Nat → Nat) × Option Nat × Nat × Nat × (Nat → Int32)
def mv_cA (E : mv_E) : Nat → ClassId := E.2.1
def mv_bk (E : mv_E) : Nat → Nat := E.2.2.1
def mv_fm (E : mv_E) : Option Nat := E.2.2.2.1
def mv_sz (E : mv_E) : Nat := E.2.2.2.2.1
def mv_sl (E : mv_E) : Nat := E.2.2.2.2.2.1
def mv_sx (E : mv_E) : Nat → Int32 := E.2.2.2.2.2.2
def mv_ad (E : mv_E) (a : Nat) : Option Nat := if 50 ≤ a then some (mv_sz E + (a - 50)) else if a = 0 then none else if a = 49 then mv_fm E else some (mv_bk E a)
def mv_v (E : mv_E) (v : Value) : Value := match v with
  | .ref a => va_rf (mv_ad E a)
  | v => v
def mv_A (E : mv_E) : Nat → Prop := fun q => mv_sz E ≤ q
theorem mv_ad_hi {E : mv_E} {a : Nat} (h : 50 ≤ a) : mv_ad E a = some (mv_sz E + (a - 50)) := if_pos h
theorem mv_bne {a b : Nat} (h : b ≠ a) : Nat.beq b a = false := by
  cases e : Nat.beq b a with
  | false => rfl
  | true => exact absurd (Nat.eq_of_beq_eq_true e) h
theorem mv_beq (a : Nat) : Nat.beq a a = true := Nat.beq_refl a
def mv_C (ci : Nat) : String := mv_Cl.getD ci ""
def mv_F (ci : Nat) : u_T := fun k => (mv_Fl.getD ci []).getD k ("", "", "", false)
def mv_ft (ci k : Nat) : Nat := (mv_ftl.getD ci []).getD k 0
def mv_cl : List vw_C := (List.range 12).map (fun ci => (mv_C ci, mv_F ci, mv_nf ci))
theorem mv_cl_at {ci : Nat} (h : ci < 12) : mv_cl[ci]? = some (mv_C ci, mv_F ci, mv_nf ci) := by simp [mv_cl, h]
def mv_ty (kd : Nat) : FieldType := match kd with
  | 20 => .int
  | 21 => .byte
  | 22 => .long
  | 23 => .boolean
  | 24 => .object "RaftHold$Tray"
  | 25 => .object "RaftHold$Raft"
  | _ => .object "RaftHold$State"
def mv_tys (E : mv_E) : List (ClassId × FieldType) := (List.range 7).map (fun i => (mv_cA E (20 + i), mv_ty (20 + i)))
theorem mv_tys_at {E : mv_E} {kd : Nat} (h : 20 ≤ kd) (h2 : kd ≤ 26) : (mv_tys E)[kd - 20]? = some (mv_cA E kd, mv_ty kd) := by
  have e : 20 + (kd - 20) = kd := by omega
  simp [mv_tys, show kd - 20 < 7 by omega, e]
def mv_fv (E : mv_E) (h : mv_H) (kd a k : Nat) : Value := if mv_ft kd k = 1 then va_rf (mv_ad E (mv_R h a k)) else .int (mv_I h a k)
def mv_arr (E : mv_E) (h : mv_H) (kd a : Nat) : (Nat → Int32) ⊕ (Nat → Int64) ⊕ (Nat → UInt32) ⊕ (Nat → UInt64) ⊕ (Nat → Option Nat) :=
  if kd = 22 then .inr (.inl (mv_J h a)) else if 24 ≤ kd then .inr (.inr (.inr (.inr (fun i => mv_ad E (mv_R h a i))))) else .inl (mv_I h a)
def mv_cell (E : mv_E) (h : mv_H) (a : Nat) : va_E :=
  if (mv_K h a).1 < 20 then .inr ((mv_K h a).1, (List.range (mv_K h a).2).map (mv_fv E h (mv_K h a).1 a)) else .inl (mv_cA E (mv_K h a).1, (mv_K h a).2, mv_arr E h (mv_K h a).1 a)
def mv_at (E : mv_E) (h : mv_H) (a : Nat) (H : Heap) : Prop := va_at E.1 mv_cl (mv_sz E + (a - 50), mv_cell E h a) H
def mv_kv (q : Nat × Nat) : Prop := (q.1 < 12 ∧ q.2 = mv_nf q.1) ∨ (20 ≤ q.1 ∧ q.1 ≤ 26 ∧ q.2 < 10001)
/-- what was there before: strings, their bytes, ORDERS, the script, the formatter -/
def mv_Bi (E : mv_E) (h : mv_H) : Prop := (mv_K h 0 = (99, 0) ∧ mv_K h 47 = (32, 9) ∧ mv_K h 48 = (33, mv_sl E) ∧ mv_K h 49 = (34, 0)) ∧ (∀ i, i < 23 → mv_K h (1 + i) = (30, 2) ∧ mv_R h (1 + i) 0 = 24 + i ∧ mv_I h (1 + i) 1 = 0 ∧ mv_K h (24 + i) = (31, mv_len.getD i 0) ∧ ∀ j, mv_I h (24 + i) j = (mv_byt.getD i []).getD j 0) ∧ (∀ j, mv_I h 47 j = ([1, 1, 2, 6, 24, 120, 720, 5040, 40320] : List Int32).getD j 0) ∧ ∀ j, mv_I h 48 j = mv_sx E j
def mv_Rep (E : mv_E) (h : mv_H) (H : Heap) : Prop := 50 ≤ h.1 ∧ H.size = mv_sz E + (h.1 - 50) ∧ (∀ a, 50 ≤ a → a < h.1 → mv_at E h a H ∧ mv_kv (mv_K h a)) ∧ (∀ a, h.1 ≤ a → mv_K h a = (99, 0)) ∧ mv_Bi E h
/-- a cell whose kind is known is there -/
theorem mv_Rep.lt {E : mv_E} {h : mv_H} {H : Heap} (r : mv_Rep E h H) {a : Nat} (hk : (mv_K h a).1 < 30) : 50 ≤ a ∧ a < h.1 := by
  obtain ⟨h1, h2, h3, h4, ⟨b0, b1, b2, b3⟩, b4, b5, b6⟩ := r
  refine ⟨?_, ?_⟩
  · rcases Nat.lt_or_ge a 50 with q | q
    · exfalso
      rcases Nat.lt_or_ge a 1 with q1 | q1
      · rw [show a = 0 by omega, b0] at hk; simp at hk
      rcases Nat.lt_or_ge a 24 with q2 | q2
      · have := (b4 (a - 1) (by omega)).1
        rw [show 1 + (a - 1) = a by omega] at this
        rw [this] at hk; simp at hk
      rcases Nat.lt_or_ge a 47 with q3 | q3
      · have := (b4 (a - 24) (by omega)).2.2.2.1
        rw [show 24 + (a - 24) = a by omega] at this
        rw [this] at hk; simp at hk
      rcases (show a = 47 ∨ a = 48 ∨ a = 49 by omega) with rfl | rfl | rfl
      · rw [b1] at hk; simp at hk
      · rw [b2] at hk; simp at hk
      · rw [b3] at hk; simp at hk
    · exact q
  · rcases Nat.lt_or_ge a h.1 with q | q
    · exact q
    · rw [h4 a q] at hk; simp at hk
theorem mv_cell_same {E : mv_E} {h h1 : mv_H} {a : Nat} (hK : mv_K h1 a = mv_K h a) (hI : mv_I h1 a = mv_I h a) (hJ : mv_J h1 a = mv_J h a) (hR : mv_R h1 a = mv_R h a) : mv_cell E h1 a = mv_cell E h a := by
  unfold mv_cell mv_arr
  rw [hK, hI, hJ, hR]
  have e : mv_fv E h1 (mv_K h a).1 a = mv_fv E h (mv_K h a).1 a := by
    funext k
    unfold mv_fv
    rw [hI, hR]
  rw [e]
/-- one cell has been written -/
theorem mv_Rep.put {E : mv_E} {h h1 : mv_H} {H H1 : Heap} {a : Nat} (r : mv_Rep E h H) (ha : 50 ≤ a) (hl : a < h.1) (hn : h1.1 = h.1) (hK : mv_K h1 = mv_K h)
    (ho : ∀ b, b ≠ a → mv_I h1 b = mv_I h b ∧ mv_J h1 b = mv_J h b ∧ mv_R h1 b = mv_R h b) (he : mv_at E h1 a H1) (z : H1.size = H.size) (oq : ∀ q : Nat, q ≠ mv_sz E + (a - 50) → H1[q]? = H[q]?) : mv_Rep E h1 H1 := by
  obtain ⟨r1, r2, r3, r4, ⟨b0, b1, b2, b3⟩, b4, b5, b6⟩ := r
  refine ⟨by omega, by rw [z, r2, hn], ?_, ?_, ?_⟩
  · intro b hb hbl
    rw [hK]
    refine ⟨?_, (r3 b hb (by omega)).2⟩
    by_cases e : b = a
    · subst e; exact he
    · obtain ⟨o1, o2, o3⟩ := ho b e
      have := (r3 b hb (by omega)).1
      unfold mv_at at this ⊢
      rw [mv_cell_same (by rw [hK]) o1 o2 o3]
      exact va_at.kept this (oq _ (by show ¬ mv_sz E + (b - 50) = _; omega))
  · intro b hb; rw [hK]; exact r4 b (by omega)
  · refine ⟨⟨by rw [hK]; exact b0, by rw [hK]; exact b1, by rw [hK]; exact b2, by rw [hK]; exact b3⟩, fun i hi => ?_, fun j => ?_, fun j => ?_⟩
    · obtain ⟨c1, c2, c3, c4, c5⟩ := b4 i hi
      refine ⟨by rw [hK]; exact c1, by rw [(ho (1 + i) (by omega)).2.2]; exact c2, by rw [(ho (1 + i) (by omega)).1]; exact c3, by rw [hK]; exact c4, fun j => by rw [(ho (24 + i) (by omega)).1]; exact c5 j⟩
    · rw [(ho 47 (by omega)).1]; exact b5 j
    · rw [(ho 48 (by omega)).1]; exact b6 j
/-- one cell has been made -/
theorem mv_Rep.grow {E : mv_E} {h : mv_H} {H H1 : Heap} {kd len : Nat} (r : mv_Rep E h H) (hv : mv_kv (kd, len)) (he : mv_at E (mv_new h kd len) h.1 H1) (z : H1.size = H.size + 1) (oq : ∀ q : Nat, q < H.size → H1[q]? = H[q]?) : mv_Rep E (mv_new h kd len) H1 := by
  obtain ⟨r1, r2, r3, r4, ⟨b0, b1, b2, b3⟩, b4, b5, b6⟩ := r
  have K1 : ∀ b, b ≠ h.1 → mv_K (mv_new h kd len) b = mv_K h b := fun b hb => by
    show cond (Nat.beq b h.1) _ _ = _
    rw [mv_bne hb]; rfl
  have O : ∀ {α : Type} (f : Nat → Nat → α) (x : α) (b : Nat), b ≠ h.1 → mv_row f h.1 (fun _ => x) b = f b := fun f x b hb => by
    funext j
    unfold mv_row
    rw [mv_bne hb]; rfl
  have I1 : ∀ b, b ≠ h.1 → mv_I (mv_new h kd len) b = mv_I h b := fun b hb => O _ _ b hb
  have J1 : ∀ b, b ≠ h.1 → mv_J (mv_new h kd len) b = mv_J h b := fun b hb => O _ _ b hb
  have R1 : ∀ b, b ≠ h.1 → mv_R (mv_new h kd len) b = mv_R h b := fun b hb => O _ _ b hb
  refine ⟨by show 50 ≤ h.1 + 1; omega, by rw [z, r2]; show _ = mv_sz E + (h.1 + 1 - 50); omega, ?_, ?_, ?_⟩
  · intro b hb hbl
    have hbl : b < h.1 + 1 := hbl
    by_cases e : b = h.1
    · subst e
      refine ⟨he, ?_⟩
      show mv_kv (cond (Nat.beq h.1 h.1) _ _)
      rw [mv_beq h.1]; exact hv
    · rw [K1 b e]
      refine ⟨?_, (r3 b hb (by omega)).2⟩
      have := (r3 b hb (by omega)).1
      unfold mv_at at this ⊢
      rw [mv_cell_same (K1 b e) (I1 b e) (J1 b e) (R1 b e)]
      exact va_at.kept this (oq _ this.lt)
  · intro b hb
    have hb : h.1 + 1 ≤ b := hb
    rw [K1 b (by omega)]; exact r4 b (by omega)
  · refine ⟨⟨by rw [K1 0 (by omega)]; exact b0, by rw [K1 47 (by omega)]; exact b1, by rw [K1 48 (by omega)]; exact b2, by rw [K1 49 (by omega)]; exact b3⟩, fun i hi => ?_, fun j => ?_, fun j => ?_⟩
    · obtain ⟨c1, c2, c3, c4, c5⟩ := b4 i hi
      refine ⟨by rw [K1 _ (by omega)]; exact c1, by rw [R1 _ (by omega)]; exact c2, by rw [I1 _ (by omega)]; exact c3, by rw [K1 _ (by omega)]; exact c4, fun j => by rw [I1 _ (by omega)]; exact c5 j⟩
    · rw [I1 _ (by omega)]; exact b5 j
    · rw [I1 _ (by omega)]; exact b6 j
theorem mv_up_ne {α : Type} {f : Nat → Nat → α} {a k b : Nat} {x : α} (h : b ≠ a) : mv_up f a k x b = f b := by
  funext j; unfold mv_up; rw [mv_bne h]; rfl
theorem mv_up_row {α : Type} {f : Nat → Nat → α} {a k : Nat} {x : α} : mv_up f a k x a = fun j => if j = k then x else f a j := by
  funext j; unfold mv_up; rw [mv_beq a]
  by_cases e : j = k
  · subst e; simp
  · simp [e, mv_bne e]
theorem mv_row_ne {α : Type} {f : Nat → Nat → α} {a b : Nat} {r : Nat → α} (h : b ≠ a) : mv_row f a r b = f b := by
  funext j; unfold mv_row; rw [mv_bne h]; rfl
theorem mv_row_self {α : Type} {f : Nat → Nat → α} {a : Nat} {r : Nat → α} : mv_row f a r a = r := by
  funext j; unfold mv_row; rw [mv_beq a]; rfl
