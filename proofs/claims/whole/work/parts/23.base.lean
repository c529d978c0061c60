def R_law : String := "RaftHoldLaw"
def lw_P (b : Addr) (xs : List Int32) (args : Array Value) (s : State) : Prop := args = #[.ref b] ∧ s.IntsAt b xs ∧ xs.length ≤ 3072 ∧ (Jvm.Cond.and given_1 narrow_1).before args s = true
def lw_Q (_ : Array Value) (s : State) (o : Outcome) (t : State) : Prop := o = .returned (some (.int 1)) ∧ Framed s o t [] 600000 7302250
def lw_Z (below : List Frame) (a : Array Value) (s : State) : State → Prop := fun t => ∃ o, t.status = .running ∧ Ended t below o ∧ lw_Q a s o t
/-- the law's own end, with 1 on the stack, nothing written that was there before, its room as the claim has it -/
theorem lw_ret {p : Program} {l : Launch} {e : Env} {s : State} {m : MethodId} {below : List Frame} {meth : Method} {c : Code} {b : Nat} (hx : p.tables.exec = Jvm.exec) (hb : c.code = code) (hr : meth.sig.returnType = ret) (hlocks : meth.locks = false) {pc : Nat} {H : Heap} {ls : Array Slot} (hdg : decode code pc = .ok (.ireturn, 1)) : W p l e room_1 s m #[Value.ref b] below meth c H [] 600000 7302250 (lw_Z below #[Value.ref b] s) (F0 m pc ls [.int 1]) := by
  intro T hT X
  obtain ⟨fs, hret, hrun, hended, hW, hframe⟩ := X.leave (v := some (.int 1)) (hlocks := hlocks) (fun h => by rw [hr] at h; cases h)
  have hmeth' : T.vm.method? m = some meth := X.method'
  refine ⟨T.setFrames fs, ?_, .returned (some (.int 1)), hrun, hended, rfl, ⟨_, rfl⟩, hW, hframe⟩
  jvm_step X.here [X.here.top, hx, hb, hdg, hmeth', hr, ret, narrow_b1]
  (try refine ⟨rfl, ?_⟩); (try refine ⟨rfl, ?_⟩)
  first | (intro acts; rw [hret _ acts rfl rfl rfl]) | rw [hret _ _ rfl rfl rfl]
  exact Steps.refl _
/-- what holds at the law's entry: the machine, the code, the tables' words (any of lw_tbl by 'hts w (by decide +kernel)'), the script of L ints xs at the cell b, what the Statement gives of the start (any of its parts by flat_of_before) -/
def lw_At (p : Program) (s : State) (m : MethodId) (meth : Method) (c : Code) (b L : Nat) (xs : Nat → Int32) : Prop :=
  p.tables.exec = Jvm.exec ∧ c.code = code ∧ meth.sig.returnType = ret ∧ c.maxLocals = 4 ∧ s.vm.findClass R_law = some m.cls ∧ (∀ w ∈ lw_tbl, w.before #[Value.ref b] s = true) ∧ va_X b L xs s s.heap ∧ b < s.heap.size ∧ meth.locks = false ∧ (Jvm.Cond.and given_1 narrow_1).before #[Value.ref b] s = true ∧ meth.name = "law"
/-! The start. -/
def mb_fl : List Cond := flatC (Jvm.Cond.and given_1 narrow_1)
def mb_Tm : List (String × Nat) := [("RaftHold$Tokens", 80), ("RaftHold$Tokens", 86), ("RaftHold$Tokens", 88), ("RaftHold$Tokens", 90), ("RaftHold$Tokens", 92), ("RaftHold$Tokens", 94), ("RaftHold$Tokens", 96), ("RaftHold$Tokens", 98), ("RaftHold$Tokens", 100), ("RaftHold$Tokens", 102), ("RaftHold$Tokens", 104), ("RaftHold$Tokens", 106), ("RaftHold$Tokens", 108), ("RaftHold$Tokens", 110), ("RaftHold$Tokens", 112), ("RaftHold$Tokens", 114), ("RaftHold$Tokens", 116), ("RaftHold$Tokens", 118), ("RaftHold$Tokens", 120), ("RaftHold$Tokens", 122), ("RaftHold$Tokens", 124), ("RaftHold$Tokens", 67), ("RaftHoldModel", 77)]
def mb_tm (i : Nat) : Term := .string (mb_Tm.getD i ("", 0)).1 (mb_Tm.getD i ("", 0)).2
def mb_pex : List Nat := [57, 65, 75, 87, 99, 113, 127, 142, 158, 172, 192, 211, 230, 252, 272, 293, 314, 337, 361, 387, 414, 443, 480]
def mb_pco : List Nat := [58, 66, 76, 88, 100, 114, 128, 143, 159, 173, 193, 212, 231, 253, 273, 294, 315, 338, 362, 388, 415, 444, 481]
def mb_par : List Nat := [59, 67, 77, 89, 101, 115, 129, 144, 160, 174, 194, 213, 232, 254, 274, 295, 316, 339, 363, 389, 416, 445, 482]
def mb_ple : List Nat := [60, 68, 78, 90, 102, 116, 130, 145, 161, 175, 195, 214, 233, 255, 275, 296, 317, 340, 364, 390, 417, 446, 483]
def mb_pel : List (List Nat) := [[61, 62, 63, 64], [69, 70, 71, 72, 73], [79, 80, 81, 82, 83, 84], [91, 92, 93, 94, 95], [103, 104, 105, 106, 107, 108], [117, 118, 119, 120, 121], [131, 132, 133, 134, 135], [146, 147, 148, 149, 150], [162, 163], [176, 177, 178, 179, 180, 181, 182], [196, 197, 198, 199, 200], [215, 216, 217, 218], [234, 235, 236, 237, 238, 239], [256, 257, 258], [276, 277, 278], [297, 298], [318, 319, 320], [341, 342, 343], [365, 366, 367, 368], [391, 392, 393, 394], [418, 419, 420, 421, 422], [447, 448, 449, 450, 451, 452, 453, 454, 455, 456, 457, 458], [484, 485, 486, 487, 488, 489, 490, 491, 492, 493, 494, 495, 496, 497, 498, 499, 500, 501, 502, 503, 504, 505, 506, 507, 508, 509, 510, 511, 512, 513, 514, 515, 516, 517, 518, 519, 520, 521, 522, 523, 524, 525, 526, 527, 528, 529, 530, 531, 532, 533, 534, 535, 536, 537, 538, 539, 540, 541, 542, 543, 544, 545, 546, 547, 548, 549, 550, 551, 552, 553, 554, 555, 556, 557, 558, 559, 560, 561, 562, 563, 564, 565, 566, 567, 568, 569, 570, 571, 572, 573, 574, 575, 576, 577, 578, 579, 580, 581, 582, 583, 584, 585, 586, 587, 588, 589, 590, 591, 592, 593, 594, 595, 596, 597]]
def mb_pne : List (List Nat) := [[0, 74, 85, 96, 109, 122, 136, 151, 164, 183, 201, 219, 240, 259, 279, 299, 321, 344, 369, 395, 423, 459, 598], [0, 0, 86, 97, 110, 123, 137, 152, 165, 184, 202, 220, 241, 260, 280, 300, 322, 345, 370, 396, 424, 460, 599], [0, 0, 0, 98, 111, 124, 138, 153, 166, 185, 203, 221, 242, 261, 281, 301, 323, 346, 371, 397, 425, 461, 600], [0, 0, 0, 0, 112, 125, 139, 154, 167, 186, 204, 222, 243, 262, 282, 302, 324, 347, 372, 398, 426, 462, 601], [0, 0, 0, 0, 0, 126, 140, 155, 168, 187, 205, 223, 244, 263, 283, 303, 325, 348, 373, 399, 427, 463, 602], [0, 0, 0, 0, 0, 0, 141, 156, 169, 188, 206, 224, 245, 264, 284, 304, 326, 349, 374, 400, 428, 464, 603], [0, 0, 0, 0, 0, 0, 0, 157, 170, 189, 207, 225, 246, 265, 285, 305, 327, 350, 375, 401, 429, 465, 604], [0, 0, 0, 0, 0, 0, 0, 0, 171, 190, 208, 226, 247, 266, 286, 306, 328, 351, 376, 402, 430, 466, 605], [0, 0, 0, 0, 0, 0, 0, 0, 0, 191, 209, 227, 248, 267, 287, 307, 329, 352, 377, 403, 431, 467, 606], [0, 0, 0, 0, 0, 0, 0, 0, 0, 0, 210, 228, 249, 268, 288, 308, 330, 353, 378, 404, 432, 468, 607], [0, 0, 0, 0, 0, 0, 0, 0, 0, 0, 0, 229, 250, 269, 289, 309, 331, 354, 379, 405, 433, 469, 608], [0, 0, 0, 0, 0, 0, 0, 0, 0, 0, 0, 0, 251, 270, 290, 310, 332, 355, 380, 406, 434, 470, 609], [0, 0, 0, 0, 0, 0, 0, 0, 0, 0, 0, 0, 0, 271, 291, 311, 333, 356, 381, 407, 435, 471, 610], [0, 0, 0, 0, 0, 0, 0, 0, 0, 0, 0, 0, 0, 0, 292, 312, 334, 357, 382, 408, 436, 472, 611], [0, 0, 0, 0, 0, 0, 0, 0, 0, 0, 0, 0, 0, 0, 0, 313, 335, 358, 383, 409, 437, 473, 612], [0, 0, 0, 0, 0, 0, 0, 0, 0, 0, 0, 0, 0, 0, 0, 0, 336, 359, 384, 410, 438, 474, 613], [0, 0, 0, 0, 0, 0, 0, 0, 0, 0, 0, 0, 0, 0, 0, 0, 0, 360, 385, 411, 439, 475, 614], [0, 0, 0, 0, 0, 0, 0, 0, 0, 0, 0, 0, 0, 0, 0, 0, 0, 0, 386, 412, 440, 476, 615], [0, 0, 0, 0, 0, 0, 0, 0, 0, 0, 0, 0, 0, 0, 0, 0, 0, 0, 0, 413, 441, 477, 616], [0, 0, 0, 0, 0, 0, 0, 0, 0, 0, 0, 0, 0, 0, 0, 0, 0, 0, 0, 0, 442, 478, 617], [0, 0, 0, 0, 0, 0, 0, 0, 0, 0, 0, 0, 0, 0, 0, 0, 0, 0, 0, 0, 0, 479, 618], [0, 0, 0, 0, 0, 0, 0, 0, 0, 0, 0, 0, 0, 0, 0, 0, 0, 0, 0, 0, 0, 0, 619], [0, 0, 0, 0, 0, 0, 0, 0, 0, 0, 0, 0, 0, 0, 0, 0, 0, 0, 0, 0, 0, 0, 0]]
def mb_psr : List Nat := [2199, 3012, 3013, 3014, 3015, 3016, 3017, 3018, 3019, 3020, 3021, 3022, 3023, 3028, 3029, 3030, 3031, 3032, 3033, 3034, 3035, 3047, 6180, 6186]
set_option maxRecDepth 100000 in
theorem mb_ex : ∀ i, i < 23 → mb_fl[mb_pex.getD i 0]? = some (.exactly (mb_tm i) "java/lang/String") := by decide +kernel
set_option maxRecDepth 100000 in
theorem mb_co : ∀ i, i < 23 → mb_fl[mb_pco.getD i 0]? = some (.eq (.field (mb_tm i) "java/lang/String" "coder" "B") (.int 0)) := by decide +kernel
set_option maxRecDepth 100000 in
theorem mb_ar : ∀ i, i < 23 → mb_fl[mb_par.getD i 0]? = some (.arrayOf (.field (mb_tm i) "java/lang/String" "value" "[B") .byte) := by decide +kernel
set_option maxRecDepth 100000 in
theorem mb_le : ∀ i, i < 23 → mb_fl[mb_ple.getD i 0]? = some (.eq (.length (.field (mb_tm i) "java/lang/String" "value" "[B")) (.int (Int32.ofNat (mv_len.getD i 0)))) := by decide +kernel
set_option maxRecDepth 100000 in
theorem mb_el : ∀ i, i < 23 → ∀ j, j < mv_len.getD i 0 → mb_fl[(mb_pel.getD i []).getD j 0]? = some (.eq (.elem (.field (mb_tm i) "java/lang/String" "value" "[B") (.int (Int32.ofNat j))) (.int ((mv_byt.getD i []).getD j 0))) := by decide +kernel
set_option maxRecDepth 100000 in
theorem mb_ne : ∀ i, i < 23 → ∀ j, j < 23 → i ≠ j → mb_fl[(mb_pne.getD i []).getD j 0]? = some (.not (.eq (mb_tm i) (mb_tm j))) ∨ mb_fl[(mb_pne.getD j []).getD i 0]? = some (.not (.eq (mb_tm j) (mb_tm i))) := by decide +kernel
set_option maxRecDepth 100000 in
theorem mb_ln : ∀ i, i < 23 → mv_len.getD i 0 < 2 ^ 31 := by decide +kernel
set_option maxRecDepth 100000 in
theorem mb_eq : mb_fl[657]? = some (.eq (mb_tm 21) (.string "RaftHoldModel" 115)) := by decide +kernel
set_option maxRecDepth 100000 in
theorem mb_oa : mb_fl[10]? = some (.arrayOf (.static "RaftHold" "ORDERS" "[I") .int) ∧ mb_fl[11]? = some (.eq (.length (.static "RaftHold" "ORDERS" "[I")) (.int (Int32.ofNat 9))) := by decide +kernel
set_option maxRecDepth 100000 in
theorem mb_oe : ∀ j, j < 9 → mb_fl[([12, 13, 14, 15, 16, 17, 18, 19, 20] : List Nat).getD j 0]? = some (.eq (.elem (.static "RaftHold" "ORDERS" "[I") (.int (Int32.ofNat j))) (.int (([1, 1, 2, 6, 24, 120, 720, 5040, 40320] : List Int32).getD j 0))) := by decide +kernel
set_option maxRecDepth 100000 in
theorem mb_cs : mb_fl[4]? = some (.eq (.static "java/lang/String" "COMPACT_STRINGS" "Z") (.int 1)) ∧ mb_fl[5]? = some (.isRef (.static "jdk/internal/util/Preconditions" "SIOOBE_FORMATTER" "Ljava/util/function/BiFunction;")) := by decide +kernel
set_option maxRecDepth 100000 in
theorem mb_sr : ∀ q ∈ mv_Sl.zip mb_psr, mv_pk q.2 = some (.stringRef q.1.1 q.1.2.1 q.1.2.2.1) := by decide +kernel
set_option maxRecDepth 100000 in
theorem mb_zs : (mv_Sl.zip mb_psr).map (fun q => q.1) = mv_Sl := by decide +kernel
set_option maxRecDepth 100000 in
theorem mb_ix : ∀ q ∈ mv_Sl, q.2.2.2 < 23 ∧ (((q.1, q.2.1) = mb_Tm.getD q.2.2.2 ("", 0)) ∨ (q.1 = "RaftHoldModel" ∧ q.2.1 = 115 ∧ q.2.2.2 = 21)) := by decide +kernel
set_option maxRecDepth 100000 in
theorem mb_ls : mv_pk (5053) = some (.laysStatic "RaftHold" "ORDERS" "[I") ∧ mv_pk (2213) = some (.laysStatic "java/lang/String" "COMPACT_STRINGS" "Z") ∧ mv_pk (2229) = some (.laysStatic "jdk/internal/util/Preconditions" "SIOOBE_FORMATTER" "Ljava/util/function/BiFunction;") ∧ mv_pk (1001) = some (.initialized "RaftHold") ∧ mv_pk (1015) = some (.initialized "java/lang/String") ∧ mv_pk (1017) = some (.initialized "jdk/internal/util/Preconditions") := by decide +kernel
set_option maxRecDepth 100000 in
theorem mb_cls : ∀ ci, ci < 12 → ∃ e ∈ mv_tN, e.1 = ci := mv_okN1
theorem mb_evR {args : Array Value} {s : State} {t u : Term} {a : Nat} (h : (Cond.eq t u).before args s = true) (ht : t.eval args s none [] s = some (.ref a)) : u.eval args s none [] s = some (.ref a) := by
  cases hv : u.eval args s none [] s with
  | none => simp [Cond.before, Cond.holds, Cond.value, hv, ht] at h
  | some w =>
    simp only [Cond.before, Cond.holds, Cond.value, hv, ht] at h
    cases w <;> simp_all
theorem mb_Nw {w : Cond} {s : State} {args : Array Value} (hn : mv_isN w = true) (h : w.before args s = true) : va_Nw w s := by
  cases w <;> simp [mv_isN] at hn
  · exact va_Nw.of rfl h
  · exact va_Nw.of rfl h
theorem mb_start {p : Program} {s : State} {m : MethodId} {meth : Method} {c : Code} {b L : Nat} {xs : Nat → Int32} (C0 : lw_At p s m meth c b L xs) : ∃ E : mv_E, mv_Base E s ∧ mv_sz E = s.heap.size ∧ mv_bk E 48 = b ∧ mv_sl E = L ∧ mv_sx E = xs := by
  obtain ⟨hx, hb, hr, hml, hown, hts, hX, hbl, hlk, hg, -⟩ := C0
  have hf : ∀ {i : Nat} {c : Cond}, mb_fl[i]? = some c → c.before #[Value.ref b] s = true := fun h => flat_of_before _ hg _ (List.mem_of_getElem? h)
  have hA : ∀ a : Nat, a < s.heap.size → ¬ (fun q : Nat => s.heap.size ≤ q) a := fun a h1 h2 => Nat.lt_irrefl _ (Nat.lt_of_lt_of_le h1 h2)
  have hgw : ∀ w ∈ mv_gw, w.before #[Value.ref b] s = true := fun w h => hts w (List.mem_filter.mp h).1
  have hc : ∀ ci, ∃ q : ClassId × (Nat → Nat), ci < 12 → u_Kn s (mv_C ci) (mv_F ci) (mv_nf ci) q.1 q.2 := fun ci => by
    by_cases h : ci < 12
    · obtain ⟨e, he, e1⟩ := mv_okN1 ci h
      obtain ⟨o1, -⟩ := mv_okN e he
      rw [e1] at o1
      obtain ⟨cC, iS, h2⟩ := u_known hgw (mv_lays h) (hgw _ (mv_pg_in o1))
      exact ⟨(cC, iS), fun _ => h2⟩
    · exact ⟨(0, fun _ => 0), fun q => absurd q h⟩
  obtain ⟨fc, hfc⟩ := Classical.axiomOfChoice hc
  have prim : ∀ ty : FieldType, (∀ C, ty ≠ .object C) → Cond.arrayClass ty ∈ mv_gw → ∃ cA : ClassId, ArrOfT s cA ty ∧ va_RA s cA ty := fun ty hty hm => by
    obtain ⟨cA, kA, comp, h1, h2, h3⟩ := Cond.arrayClass_spec (hgw _ hm)
    refine ⟨cA, fun n z => ⟨fun k h => (by cases h), kA, h2, comp, h3⟩, ?_⟩
    cases ty with
    | object C => exact absurd rfl (hty C)
    | _ => exact h1
  have over : ∀ C : String, Cond.arrayOver (.object C) ∈ lw_tbl → ∃ cA : ClassId, ArrOfT s cA (.object C) ∧ va_RA s cA (.object C) := fun C hm => by
    obtain ⟨comp, cA, kA, h1, -, h2, h3, h4⟩ := Cond.arrayOver_spec (hts _ hm)
    exact ⟨cA, fun n z => ⟨fun k h => (by cases h), kA, h2, comp, h3⟩, kA, comp, h2, h3, h1, h4⟩
  have ha : ∀ kd, ∃ cA : ClassId, 20 ≤ kd → kd ≤ 26 → ArrOfT s cA (mv_ty kd) ∧ va_RA s cA (mv_ty kd) := fun kd => by
    have g := mv_okX
    by_cases h : 20 ≤ kd ∧ kd ≤ 26
    · rcases (show kd = 20 ∨ kd = 21 ∨ kd = 22 ∨ kd = 23 ∨ kd = 24 ∨ kd = 25 ∨ kd = 26 by omega) with rfl | rfl | rfl | rfl | rfl | rfl | rfl
      · obtain ⟨cA, q⟩ := prim .int (fun _ h => by cases h) (mv_pg_in g.1.1); exact ⟨cA, fun _ _ => q⟩
      · obtain ⟨cA, q⟩ := prim .byte (fun _ h => by cases h) (mv_pg_in g.1.2.1); exact ⟨cA, fun _ _ => q⟩
      · obtain ⟨cA, q⟩ := prim .long (fun _ h => by cases h) (mv_pg_in g.1.2.2.1); exact ⟨cA, fun _ _ => q⟩
      · obtain ⟨cA, q⟩ := prim .boolean (fun _ h => by cases h) (mv_pg_in g.1.2.2.2); exact ⟨cA, fun _ _ => q⟩
      · obtain ⟨cA, q⟩ := over _ (mv_pk_in g.2.1.1); exact ⟨cA, fun _ _ => q⟩
      · obtain ⟨cA, q⟩ := over _ (mv_pk_in g.2.1.2.1); exact ⟨cA, fun _ _ => q⟩
      · obtain ⟨cA, q⟩ := over _ (mv_pk_in g.2.1.2.2); exact ⟨cA, fun _ _ => q⟩
    · exact ⟨0, fun h1 h2 => absurd ⟨h1, h2⟩ h⟩
  obtain ⟨fa, hfa⟩ := Classical.axiomOfChoice ha
  obtain ⟨adK, adV, hS, hev⟩ := vk_Sof (N := 23) (tm := mb_tm) (len := mv_len) (byt := mv_byt) (A := fun q : Nat => s.heap.size ≤ q) mb_ln (fun i hi => hf (mb_ex i hi)) (fun i hi => hf (mb_co i hi)) (fun i hi => hf (mb_ar i hi)) (fun i hi => hf (mb_le i hi)) (fun i hi j hj => hf (mb_el i hi j hj)) (fun i j hi hj hij => (mb_ne i hi j hj hij).imp hf hf) hA
  obtain ⟨tO, hO, hT⟩ := va_Tof (f := mv_ord) (A := fun q : Nat => s.heap.size ≤ q) (by decide) (hf mb_oa.1) (va_eqt (hf mb_oa.2)) (fun j hj => va_eqt (hf (mb_oe j hj))) hA
  have hls := mb_ls
  have zO := va_Zof (A := fun q : Nat => s.heap.size ≤ q) (hts _ (mv_pk_in hls.1)) (hts _ (mv_pk_in hls.2.2.2.1)) hO hA
  have zC := va_Zof (A := fun q : Nat => s.heap.size ≤ q) (hts _ (mv_pk_in hls.2.1)) (hts _ (mv_pk_in hls.2.2.2.2.1)) (va_eqt (hf mb_cs.1)) hA
  obtain ⟨fm, zF⟩ : ∃ fm : Option Nat, va_Z "jdk/internal/util/Preconditions" "SIOOBE_FORMATTER" "Ljava/util/function/BiFunction;" (va_rf fm) (fun q : Nat => s.heap.size ≤ q) s s.heap := by
    rcases va_Zqof (A := fun q : Nat => s.heap.size ≤ q) (hts _ (mv_pk_in hls.2.2.1)) (hts _ (mv_pk_in hls.2.2.2.2.2)) (hf mb_cs.2) hA with h | ⟨t, h⟩
    · exact ⟨none, h⟩
    · exact ⟨some t, h⟩
  refine ⟨((fun ci => (fc ci).1, fun ci => (fc ci).2), fa, fun a => if a = 48 then b else if a = 47 then tO else if a < 24 then adK (a - 1) else adV (a - 24), fm, s.heap.size, L, xs), ?_, rfl, rfl, rfl, rfl⟩
  have eK : (fun i => mv_bk ((fun ci => (fc ci).1, fun ci => (fc ci).2), fa, fun a => if a = 48 then b else if a = 47 then tO else if a < 24 then adK (a - 1) else adV (a - 24), fm, s.heap.size, L, xs) (1 + i)) = fun i => if i = 47 then b else if i = 46 then tO else if i < 23 then adK i else adV (i - 23) := by
    funext i
    show (if 1 + i = 48 then b else if 1 + i = 47 then tO else if 1 + i < 24 then adK (1 + i - 1) else adV (1 + i - 24)) = _
    rw [show 1 + i - 1 = i by omega, show 1 + i - 24 = i - 23 by omega]
    simp only [show (1 + i = 48) = (i = 47) by simp; omega, show (1 + i = 47) = (i = 46) by simp; omega, show (1 + i < 24) = (i < 23) by simp; omega]
  refine ⟨⟨fun ci q hq => ?_, fun k q hq => ?_⟩, ⟨hX, hbl, Nat.le_refl _⟩, ⟨zO, hT⟩, zC, ⟨fun i hi => ?_, fun i j hi hj e => ?_⟩, fun q hq => ?_, zF, fun w hw hn => mb_Nw hn (hts w hw), va_AO.of (hts _ (mv_pk_in mv_okX.2.1.1)), va_AO.of (hts _ (mv_pk_in mv_okX.2.1.2.1)), va_AO.of (hts _ (mv_pk_in mv_okX.2.1.2.2))⟩
  · have h12 : ci < 12 := by
      have := (List.getElem?_eq_some_iff.mp hq).1
      simpa [mv_cl] using this
    rw [mv_cl_at h12] at hq
    cases hq
    exact hfc ci h12
  · have h7 : k < 7 := by
      have := (List.getElem?_eq_some_iff.mp hq).1
      simpa [mv_tys] using this
    have := mv_tys_at (E := ((fun ci => (fc ci).1, fun ci => (fc ci).2), fa, fun a => if a = 48 then b else if a = 47 then tO else if a < 24 then adK (a - 1) else adV (a - 24), fm, s.heap.size, L, xs)) (kd := 20 + k) (by omega) (by omega)
    rw [show 20 + k - 20 = k by omega] at this
    rw [this] at hq
    cases hq
    exact hfa (20 + k) (by omega) (by omega)
  · have g := hS.1 i hi
    have e1 : mv_bk ((fun ci => (fc ci).1, fun ci => (fc ci).2), fa, fun a => if a = 48 then b else if a = 47 then tO else if a < 24 then adK (a - 1) else adV (a - 24), fm, s.heap.size, L, xs) (1 + i) = adK i := by
      show (if 1 + i = 48 then b else if 1 + i = 47 then tO else if 1 + i < 24 then adK (1 + i - 1) else adV (1 + i - 24)) = _
      rw [if_neg (by omega), if_neg (by omega), if_pos (by omega), show 1 + i - 1 = i by omega]
    have e2 : mv_bk ((fun ci => (fc ci).1, fun ci => (fc ci).2), fa, fun a => if a = 48 then b else if a = 47 then tO else if a < 24 then adK (a - 1) else adV (a - 24), fm, s.heap.size, L, xs) (24 + i) = adV i := by
      show (if 24 + i = 48 then b else if 24 + i = 47 then tO else if 24 + i < 24 then adK (24 + i - 1) else adV (24 + i - 24)) = _
      rw [if_neg (by omega), if_neg (by omega), if_neg (by omega), show 24 + i - 24 = i by omega]
    show va_O _ (mv_bk _ (1 + i)) _ _ _ ∧ va_OF _ _ _ _ (mv_bk _ (1 + i)) _ _ _ ∧ va_OF _ _ _ (.ref (mv_bk _ (24 + i))) (mv_bk _ (1 + i)) _ _ _ ∧ va_T _ (mv_bk _ (24 + i)) _ _ _ _ _
    rw [e1, e2]
    exact g
  · have f := congrFun eK
    have e := ((f i).symm.trans e).trans (f j)
    rw [if_neg (by omega), if_neg (by omega), if_pos hi, if_neg (by omega), if_neg (by omega), if_pos hj] at e
    exact hS.2 i j hi hj e
  · obtain ⟨hq1, hq2⟩ := mb_ix q hq
    have e1 : mv_bk ((fun ci => (fc ci).1, fun ci => (fc ci).2), fa, fun a => if a = 48 then b else if a = 47 then tO else if a < 24 then adK (a - 1) else adV (a - 24), fm, s.heap.size, L, xs) (1 + q.2.2.2) = adK q.2.2.2 := by
      show (if 1 + q.2.2.2 = 48 then b else if 1 + q.2.2.2 = 47 then tO else if 1 + q.2.2.2 < 24 then adK (1 + q.2.2.2 - 1) else adV (1 + q.2.2.2 - 24)) = _
      rw [if_neg (by omega), if_neg (by omega), if_pos (by omega), show 1 + q.2.2.2 - 1 = q.2.2.2 by omega]
    rw [e1]
    have hw : (Cond.stringRef q.1 q.2.1 q.2.2.1).before #[Value.ref b] s = true := by
      have hz := mb_zs
      have hq' : q ∈ (mv_Sl.zip mb_psr).map (fun q => q.1) := by rw [hz]; exact hq
      obtain ⟨z, hz1, hz2⟩ := List.mem_map.mp hq'
      have := mb_sr z hz1
      rw [hz2] at this
      exact hts _ (mv_pk_in this)
    refine vk_R.of hw ?_
    rcases hq2 with e | ⟨e2, e3, e4⟩
    · have := hev q.2.2.2 hq1
      unfold mb_tm at this
      rw [← e] at this
      exact this
    · have := mb_evR (hf mb_eq) (hev 21 (by decide))
      rw [e2, e3, e4]
      exact this
