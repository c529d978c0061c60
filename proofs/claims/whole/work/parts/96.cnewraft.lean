/-! A new Raft. -/
def nx (h1 : mv_H) (r : Nat) (Ls : List (Nat × Nat)) (g : mv_H) : Prop := g.1 = r + 1 + Ls.length ∧ mv_K g r = (3, 16) ∧ (∀ t, t < Ls.length → mv_K g (r + 1 + t) = (20, (Ls.getD t (0, 0)).1) ∧ mv_R g r (Ls.getD t (0, 0)).2 = r + 1 + t ∧ ∀ j, mv_I g (r + 1 + t) j = 0) ∧ (∀ j, mv_I g r j = if j = 1 then 1 else 0) ∧ ∀ a, a < r → mv_K g a = mv_K h1 a ∧ mv_I g a = mv_I h1 a ∧ mv_J g a = mv_J h1 a ∧ mv_R g a = mv_R h1 a
theorem getD_ap2 (L : List (Nat × Nat)) (c : Nat × Nat) (j : Nat) (hj : j < L.length) : (L ++ [c]).getD j (0, 0) = L.getD j (0, 0) := by
  rw [List.getD_eq_getElem?_getD, List.getD_eq_getElem?_getD, List.getElem?_append_left hj]
theorem getD_ap3 (L : List (Nat × Nat)) (c : Nat × Nat) : (L ++ [c]).getD L.length (0, 0) = c := by
  rw [List.getD_eq_getElem?_getD, List.getElem?_append_right (Nat.le_refl _), Nat.sub_self]; rfl
theorem nx.s {h1 g : mv_H} {r len fld : Nat} {Ls : List (Nat × Nat)} (n : nx h1 r Ls g) (nf : ∀ t, t < Ls.length → (Ls.getD t (0, 0)).2 ≠ fld) : nx h1 r (Ls ++ [(len, fld)]) (mv_sR (mv_new g 20 len) r fld g.1) := by
  obtain ⟨n1, n2, n3, n4, n5⟩ := n
  have Kn : ∀ a, a ≠ g.1 → mv_K (mv_sR (mv_new g 20 len) r fld g.1) a = mv_K g a := fun a ha => by
    show cond (Nat.beq a g.1) (20, len) (g.2.1 a) = g.2.1 a
    rw [mv_bne ha]; rfl
  have Kc : mv_K (mv_sR (mv_new g 20 len) r fld g.1) g.1 = (20, len) := by
    show cond (Nat.beq g.1 g.1) (20, len) (g.2.1 g.1) = (20, len)
    rw [mv_beq]; rfl
  have In : ∀ a, a ≠ g.1 → mv_I (mv_sR (mv_new g 20 len) r fld g.1) a = mv_I g a := fun a ha => by
    show mv_row g.2.2.1 g.1 (fun _ => 0) a = g.2.2.1 a
    rw [mv_row_ne ha]
  have Ic : ∀ j, mv_I (mv_sR (mv_new g 20 len) r fld g.1) g.1 j = 0 := fun j => by
    show mv_row g.2.2.1 g.1 (fun _ => 0) g.1 j = 0
    rw [mv_row_self]
  have Jn : ∀ a, a ≠ g.1 → mv_J (mv_sR (mv_new g 20 len) r fld g.1) a = mv_J g a := fun a ha => by
    show mv_row g.2.2.2.1 g.1 (fun _ => 0) a = g.2.2.2.1 a
    rw [mv_row_ne ha]
  have Rn : ∀ a k, a ≠ g.1 → (a ≠ r ∨ k ≠ fld) → mv_R (mv_sR (mv_new g 20 len) r fld g.1) a k = mv_R g a k := fun a k ha hk => by
    rw [mx_upR, if_neg (by omega)]
    show mv_row g.2.2.2.2 g.1 (fun _ => 0) a k = g.2.2.2.2 a k
    rw [mv_row_ne ha]
  refine ⟨?_, by rw [Kn r (by omega)]; exact n2, fun t ht => ?_, fun j => by rw [In r (by omega)]; exact n4 j, fun a ha => ⟨by rw [Kn a (by omega)]; exact (n5 a ha).1, by rw [In a (by omega)]; exact (n5 a ha).2.1, by rw [Jn a (by omega)]; exact (n5 a ha).2.2.1, ?_⟩⟩
  · rw [List.length_append]; show g.1 + 1 = r + 1 + (Ls.length + 1); omega
  · rw [List.length_append] at ht
    have ht : t < Ls.length + 1 := ht
    rcases (by omega : t < Ls.length ∨ t = Ls.length) with z | z
    · rw [getD_ap2 Ls _ t z, Kn _ (by omega), Rn _ _ (by omega) (Or.inr (nf t z))]
      exact ⟨(n3 t z).1, (n3 t z).2.1, fun j => by rw [In _ (by omega)]; exact (n3 t z).2.2 j⟩
    · subst z
      rw [getD_ap3, ← n1]
      exact ⟨Kc, by rw [mx_upR, if_pos ⟨rfl, rfl⟩], Ic⟩
  · funext k
    rw [Rn a k (by omega) (Or.inl (by omega)), (n5 a ha).2.2.2]
theorem ct27 {E : mv_E} {D : Nat} {h h1 : mv_H} {Q : mv_Q} {r : Nat} (h165 : 165 ≤ r) (n0 : nx h1 r [] (mv_sI h r 1 1)) (kr : mv_K h r = (3, 16)) (H : ∀ g, nx h1 r [(8, 5), (8, 6), (8, 7), (24, 8), (8, 9), (8, 10), (0, 11), (0, 12), (8, 15)] g → Q none g) : mv_VE E (D + 1) 9 72 27 0 [some (.ref r)] [] h Q := by
  have gA : ∀ (Ls : List (Nat × Nat)) (g : mv_H), nx h1 r Ls g → Nat.ble (mv_S (mv_sl E)).1 g.1 = true := fun Ls g n => Nat.ble_eq_true_of_le (by rw [n.1]; show 165 ≤ _; omega)
  have gB : ∀ (Ls : List (Nat × Nat)) (g : mv_H) (len : Nat), nx h1 r Ls g → mv_KE E (mv_new g 20 len) r = (3, 16) := fun Ls g len n => by
    rw [KE_hi h165]
    show cond (Nat.beq r g.1) (20, len) (g.2.1 r) = (3, 16)
    rw [mv_bne (by rw [n.1]; omega)]; exact n.2.1
  apply sg27_0
  refine mv_gdI (by rw [Nat.ble_eq_true_of_le (show 50 ≤ r by omega)]; rfl) (mv_gdI (by rw [KE_hi h165, kr]; rfl) ?_)
  have n1 := n0.s (len := 8) (fld := 5) (fun t ht => absurd ht (Nat.not_lt_zero _))
  refine mv_gdI (by rw [gA _ _ n0]; rfl) ?_
  show mv_gd _ _
  refine mv_gdI (by rw [gB _ _ _ n0, fx_hi h165]; rfl) ?_
  have n2 := n1.s (len := 8) (fld := 6) (by decide)
  refine mv_gdI (by rw [gA _ _ n1]; rfl) ?_
  show mv_gd _ _
  refine mv_gdI (by rw [gB _ _ _ n1, fx_hi h165]; rfl) ?_
  have n3 := n2.s (len := 8) (fld := 7) (by decide)
  refine mv_gdI (by rw [gA _ _ n2]; rfl) ?_
  show mv_gd _ _
  refine mv_gdI (by rw [gB _ _ _ n2, fx_hi h165]; rfl) ?_
  have n4 := n3.s (len := 24) (fld := 8) (by decide)
  refine mv_gdI (by rw [gA _ _ n3]; rfl) ?_
  show mv_gd _ _
  refine mv_gdI (by rw [gB _ _ _ n3, fx_hi h165]; rfl) ?_
  have n5 := n4.s (len := 8) (fld := 9) (by decide)
  refine mv_gdI (by rw [gA _ _ n4]; rfl) ?_
  show mv_gd _ _
  refine mv_gdI (by rw [gB _ _ _ n4, fx_hi h165]; rfl) ?_
  have n6 := n5.s (len := 8) (fld := 10) (by decide)
  refine mv_gdI (by rw [gA _ _ n5]; rfl) ?_
  show mv_gd _ _
  refine mv_gdI (by rw [gB _ _ _ n5, fx_hi h165]; rfl) ?_
  have n7 := n6.s (len := 0) (fld := 11) (by decide)
  refine mv_gdI (by rw [gA _ _ n6]; rfl) ?_
  show mv_gd _ _
  refine mv_gdI (by rw [gB _ _ _ n6, fx_hi h165]; rfl) ?_
  have n8 := n7.s (len := 0) (fld := 12) (by decide)
  refine mv_gdI (by rw [gA _ _ n7]; rfl) ?_
  show mv_gd _ _
  refine mv_gdI (by rw [gB _ _ _ n7, fx_hi h165]; rfl) ?_
  show mv_gd _ _
  have n9 := n8.s (len := 8) (fld := 15) (by decide)
  refine mv_gdI (by rw [gA _ _ n8]; rfl) ?_
  show mv_gd _ _
  refine mv_gdI (by rw [gB _ _ _ n8, fx_hi h165]; rfl) ?_
  exact H _ n9
