/-! The law's walk out of one judgement of the small machine. -/
def mv_KB (L a : Nat) : Nat × Nat := if a = 48 then (33, L) else if a = 47 then (32, 9) else if a = 49 then (34, 0) else if a = 0 then (99, 0) else if a < 24 then (30, 2) else if a < 47 then (31, mv_len.getD (a - 24) 0) else (99, 0)
def mv_IB (xs : Nat → Int32) (a j : Nat) : Int32 := if a = 48 then xs j else if a = 47 then ([1, 1, 2, 6, 24, 120, 720, 5040, 40320] : List Int32).getD j 0 else if a < 24 then 0 else if a < 47 then (mv_byt.getD (a - 24) []).getD j 0 else 0
def mv_RB (a k : Nat) : Nat := if 1 ≤ a ∧ a < 24 ∧ k = 0 then 23 + a else 0
/-- the heap with which the law begins -/
def mv_h0 (L : Nat) (xs : Nat → Int32) : mv_H := (50, mv_KB L, mv_IB xs, fun _ _ => 0, mv_RB)
theorem mv_rep0 {E : mv_E} {H : Heap} (h : mv_sz E = H.size) : mv_Rep E (mv_h0 (mv_sl E) (mv_sx E)) H := by
  refine ⟨Nat.le_refl _, by rw [h]; rfl, fun a h1 h2 => ?_, fun a h1 => ?_, ⟨rfl, rfl, rfl, rfl⟩, fun i hi => ⟨?_, ?_, ?_, ?_, fun j => ?_⟩, fun j => rfl, fun j => rfl⟩
  · have h2 : a < 50 := h2
    omega
  · have h1 : 50 ≤ a := h1
    show mv_KB _ a = _
    unfold mv_KB
    rw [if_neg (by omega), if_neg (by omega), if_neg (by omega), if_neg (by omega), if_neg (by omega), if_neg (by omega)]
  · show mv_KB _ (1 + i) = _
    unfold mv_KB
    rw [if_neg (by omega), if_neg (by omega), if_neg (by omega), if_neg (by omega), if_pos (by omega)]
  · show mv_RB (1 + i) 0 = _
    unfold mv_RB
    rw [if_pos (by omega)]
    omega
  · show mv_IB _ (1 + i) 1 = _
    unfold mv_IB
    rw [if_neg (by omega), if_neg (by omega), if_pos (by omega)]
  · show mv_KB _ (24 + i) = _
    unfold mv_KB
    rw [if_neg (by omega), if_neg (by omega), if_neg (by omega), if_neg (by omega), if_neg (by omega), if_pos (by omega), show 24 + i - 24 = i by omega]
  · show mv_IB _ (24 + i) j = _
    unfold mv_IB
    rw [if_neg (by omega), if_neg (by omega), if_neg (by omega), if_pos (by omega), show 24 + i - 24 = i by omega]
theorem whole_of (hmain : ∀ E : mv_E, mv_sl E ≤ 3072 → mv_W E 1200 600000 7302250 0 0 [some (.ref 48), none, none, none] [] (mv_h0 (mv_sl E) (mv_sx E)) (fun v _ => v = some (.int 1))) {p : Program} {e : Env} {s : State} {m : MethodId} {below : List Frame} {meth : Method} {c : Code} (l : Launch) {b L : Nat} {xs : Nat → Int32} (hL : L ≤ 3072) (C0 : lw_At p s m meth c b L xs) : W p l e room_1 s m #[Value.ref b] below meth c s.heap [] 0 0 (lw_Z below #[Value.ref b] s) (entryFrame m ([Value.ref b] : List Value).toArray 4) := by
  obtain ⟨E, hB, hsz, hb48, hsl, hsx⟩ := mb_start C0
  obtain ⟨hx, hb, hr, hml, hown, hts, hX, hbl, hlk, hg, hnm⟩ := C0
  have X : mv_Cx E 0 p s m #[Value.ref b] meth c := ⟨hx, hb, hr, hlk, hml, hown, fun w h => hts w (List.mem_filter.mp h).1, hnm, hB⟩
  have hl := lv_entry [Value.ref b] (n := 4) (by simp [lg_sl, Value.category])
  have ev : mv_v E (.ref 48) = .ref b := by rw [mv_rfl (by omega) (by omega), hb48]
  rw [lg_entry_eq]
  refine hmain E (by omega) p l e room_1 s m _ below meth c s.heap [] 0 0 _ 600000 7302250 _ X ⟨va_S.rf, mv_rep0 hsz, ?_, rfl⟩ (by decide) (by decide) (by decide) (by decide) (by decide) (by decide) ?_
  · show lv_has _ 4 [(0, mv_v E (.ref 48))]
    rw [ev]
    exact hl
  · intro v h H locs cells slots pc Ls q hS hR h1 h2 hd hrok
    subst q
    refine va_forget (fun z hz => ?_) (W.widen h1 h2 (lw_ret hx hb hr hlk hd))
    have := hS.2.2 z hz
    rw [← hsz]
    exact this
