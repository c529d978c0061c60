def mv_tL : List (List Nat) := [[1080, 1082, 1084, 1086, 1088, 1090], [2081, 2083], [2064, 2066], [1146, 1148, 1150, 1152, 1154, 1156, 1158, 1160, 1162, 1164, 1166, 1168, 1170, 1172, 1174, 1176], [1187, 1189, 1191, 1193, 1195, 1197], [2011, 2013, 2015, 2017, 2019, 2021, 2023, 2025, 2027, 2029, 2031, 2033, 2035], [1218, 1220, 1222, 1224], [1051, 1053, 1055, 1057, 1059, 1061, 1063], [2098, 2100, 2102], [2047, 2049, 2051], [2123, 2125, 2127, 2129, 2131, 2133, 2135, 2137, 2139, 2141, 2143, 2145, 2147, 2149, 2151, 2153, 2155], [6086, 6088, 6090, 6092, 6094, 6096, 6098, 6100, 6102, 6104, 6106, 6108, 6110, 6112, 6114, 6116, 6118, 6120, 6122, 6124, 6126, 6128, 6130, 6132, 6134, 6136, 6138, 6140, 6142, 6144, 6146, 6148, 6150]]
def mv_tN : List (Nat × Nat × Nat) := [(0, 1069, 1004), (1, 2070, 1011), (2, 2055, 1010), (3, 1094, 1005), (4, 1031, 1002), (5, 1228, 1007), (6, 1203, 1006), (7, 1037, 1003), (8, 2089, 1012), (9, 2039, 1009), (10, 1023, 1001), (11, 6045, 1013)]

def mv_ch (c : Nat) : List Cond := match c with
  | 0 => k2_sels lw_privs
  | 1 => tables_1_1
  | 2 => tables_1_2
  | 3 => tables_1_3
  | 4 => tables_1_4
  | 5 => tables_1_5
  | 6 => tables_1_6
  | 7 => tables_1_7
  | _ => tables_1_8
def mv_pk (p : Nat) : Option Cond := (mv_ch (p / 1000))[p % 1000]?
theorem mv_ch_in {c : Nat} {w : Cond} (h : w ∈ mv_ch c) : w ∈ lw_tbl := by
  unfold lw_tbl tables_1
  simp only [List.mem_append]
  unfold mv_ch at h
  split at h <;> simp only [h, true_or, or_true]
theorem mv_pk_in {p : Nat} {w : Cond} (h : mv_pk p = some w) : w ∈ lw_tbl := mv_ch_in (List.mem_of_getElem? h)
def mv_pg (p : Nat) : Option Cond := match mv_pk p with
  | some w => cond (goodWord w) (some w) none
  | none => none
theorem mv_pg_in {p : Nat} {w : Cond} (h : mv_pg p = some w) : w ∈ mv_gw := by
  unfold mv_pg at h
  split at h
  · rename_i x hx
    cases hg : goodWord x with
    | true => rw [hg] at h; cases h; exact List.mem_filter.mpr ⟨mv_pk_in hx, hg⟩
    | false => rw [hg] at h; cases h
  · cases h
def mv_lay (ci k : Nat) : Cond := u_lay (mv_C ci) (mv_F ci) k
def mv_fty (ci k : Nat) : FieldType := match mv_ft ci k with
  | 0 => .int
  | 2 => .boolean
  | _ => (parseFieldDescriptor (mv_F ci k).2.2.1).getD .int
set_option maxRecDepth 100000 in
theorem mv_okL : ∀ ci, ci < 12 → ∀ k, k < mv_nf ci → mv_pk ((mv_tL.getD ci []).getD k 0) = some (mv_lay ci k) := by decide +kernel
set_option maxRecDepth 100000 in
theorem mv_okT : ∀ ci, ci < 12 → ∀ k, k < mv_nf ci → parseFieldDescriptor (mv_F ci k).2.2.1 = some (mv_fty ci k) ∧ (mv_F ci k).1 = mv_C ci ∧ (mv_ft ci k = 0 ∨ mv_ft ci k = 1 ∨ mv_ft ci k = 2) ∧ (mv_ft ci k = 1 → fits (mv_fty ci k) .null = true) := by decide +kernel
set_option maxRecDepth 100000 in
theorem mv_okD : ∀ ci, ci < 12 → ∀ a, a < mv_nf ci → ∀ b, b < mv_nf ci → a ≠ b → (mv_F ci a).2.1 ≠ (mv_F ci b).2.1 := by decide +kernel
set_option maxRecDepth 100000 in
theorem mv_okF : ∀ e ∈ mv_tF, e.2.2.1 < 12 ∧ e.2.2.2.1 < mv_nf e.2.2.1 ∧ (if e.2.2.2.2.1 = 1 then mv_pk (e.2.2.2.2.2) else mv_pg (e.2.2.2.2.2)) = some (if e.2.2.2.2.1 = 1 then .fieldLinkNest (mv_On.getD e.1 "") e.2.1 (mv_C e.2.2.1) (mv_F e.2.2.1 e.2.2.2.1).2.1 (mv_F e.2.2.1 e.2.2.2.1).2.2.1 "RaftHold" else .fieldLink (mv_On.getD e.1 "") e.2.1 (mv_C e.2.2.1) (mv_F e.2.2.1 e.2.2.2.1).2.1 (mv_F e.2.2.1 e.2.2.2.1).2.2.1) := by decide +kernel
set_option maxRecDepth 100000 in
theorem mv_okG : ∀ e ∈ mv_tG, mv_pg (e.2.2.2) = some (if e.2.2.1 = 7681 then .fieldLink (mv_On.getD e.1 "") e.2.1 "java/lang/String" "value" "[B" else .fieldLink (mv_On.getD e.1 "") e.2.1 "java/lang/String" "coder" "B") ∧ (e.2.2.1 = 7681 ∨ e.2.2.1 = 7684) := by decide +kernel
set_option maxRecDepth 100000 in
theorem mv_okS : ∀ e ∈ mv_tS, (e.2.2.1 = 0 ∨ e.2.2.1 = 1 ∨ e.2.2.1 = 2) ∧ mv_pg (e.2.2.2) = some (if e.2.2.1 = 0 then .fieldLink (mv_On.getD e.1 "") e.2.1 "RaftHold" "ORDERS" "[I" else if e.2.2.1 = 1 then .fieldLink (mv_On.getD e.1 "") e.2.1 "java/lang/String" "COMPACT_STRINGS" "Z" else .fieldLink (mv_On.getD e.1 "") e.2.1 "jdk/internal/util/Preconditions" "SIOOBE_FORMATTER" "Ljava/util/function/BiFunction;") := by decide +kernel
set_option maxRecDepth 100000 in
theorem mv_okM : ∀ e ∈ mv_tM, e.2.2.1 < 324 ∧ (if e.2.2.2.1 = 1 then mv_pk (e.2.2.2.2) else mv_pg (e.2.2.2.2)) = some (if e.2.2.2.1 = 1 then .methodLinkNest (mv_On.getD e.1 "") e.2.1 (mv_y e.2.2.1) "RaftHold" else .methodLink (mv_On.getD e.1 "") e.2.1 (mv_y e.2.2.1)) := by decide +kernel
set_option maxRecDepth 100000 in
theorem mv_okO : ∀ e ∈ mv_tO, mv_pg (e.2.2) = some (.methodLink (mv_On.getD e.1 "") e.2.1 objectInit) := by decide +kernel
set_option maxRecDepth 100000 in
theorem mv_okY : ∀ e ∈ mv_tY, mv_pg (e.2.2) = some (.methodLink (mv_On.getD e.1 "") e.2.1 arraycopyName) := by decide +kernel
set_option maxRecDepth 100000 in
theorem mv_okC : ∀ e ∈ mv_tC, e.2.2.1 < 12 ∧ mv_pg (e.2.2.2) = some (.classLink (mv_On.getD e.1 "") e.2.1 (mv_C e.2.2.1)) := by decide +kernel
set_option maxRecDepth 100000 in
theorem mv_okA : ∀ e ∈ mv_tA, 24 ≤ e.2.2.1 ∧ e.2.2.1 ≤ 26 ∧ mv_pg (e.2.2.2) = some (.classLink (mv_On.getD e.1 "") e.2.1 (mv_C (mv_el e.2.2.1))) := by decide +kernel
set_option maxRecDepth 100000 in
theorem mv_okI : ∀ e ∈ mv_tI, mv_pg (e.2.2.2) = some (.constant (mv_On.getD e.1 "") e.2.1 (Int32.ofInt e.2.2.1)) := by decide +kernel
set_option maxRecDepth 100000 in
theorem mv_okJ : ∀ e ∈ mv_tJ, mv_pg (e.2.2.2) = some (.constantLong (mv_On.getD e.1 "") e.2.1 (Int64.ofInt e.2.2.1)) := by decide +kernel
set_option maxRecDepth 100000 in
theorem mv_okR : ∀ e ∈ mv_tR, e.2.2 < 23 ∧ ∃ q ∈ mv_Sl, q.1 = mv_On.getD e.1 "" ∧ q.2.1 = e.2.1 ∧ q.2.2.2 = e.2.2 := by decide +kernel
set_option maxRecDepth 100000 in
theorem mv_okN : ∀ e ∈ mv_tN, mv_pg (e.2.1) = some (.instantiable (mv_C e.1) (mv_nf e.1)) ∧ mv_pg (e.2.2) = some (.initialized (mv_C e.1)) := by decide +kernel
set_option maxRecDepth 100000 in
theorem mv_okX : (mv_pg (1067) = some (.arrayClass .int) ∧ mv_pg (1066) = some (.arrayClass .byte) ∧ mv_pg (2105) = some (.arrayClass .long) ∧ mv_pg (6153) = some (.arrayClass .boolean)) ∧ (mv_pk (2087) = some (.arrayOver (.object "RaftHold$Tray")) ∧ mv_pk (2088) = some (.arrayOver (.object "RaftHold$Raft")) ∧ mv_pk (2076) = some (.arrayOver (.object "RaftHold$State"))) ∧ mv_pg (3238) = some (.native arraycopyName) ∧ mv_pg (3237) = some (.static arraycopyName) ∧ mv_pg (1020) = some (.initialized "java/lang/System") ∧ mv_pg (1028) = some (.instanceMethod objectInit) ∧ mv_pg (1029) = some (.code objectInit ⟨#[0xb1]⟩ 1 none) := by decide +kernel

def mv_pl (m : Nat) : Nat × Nat × Nat × Nat × Nat := mv_tP.getD m (0, 0, 0, 0, 0)
def mv_okm (m : Nat) : Bool := decide (mv_pg ((mv_pl m).1) = some (.code (mv_y m) (mv_cc m) (mv_ml m) (mv_rt m))) && decide (mv_pg ((mv_pl m).2.1) = some (.initialized (mv_y m).cls)) && decide ((mv_y m).cls ≠ "java/lang/invoke/MethodHandle" ∧ (mv_y m).cls ≠ "java/lang/invoke/VarHandle") && decide (mv_ml m ≤ 45) && (plainName (mv_y m).cls || Nat.beq m 307 || Nat.beq m 308) &&
  (if (mv_pl m).2.2.2.2 = 1 then decide (mv_pg ((mv_pl m).2.2.1) = some (.static (mv_y m))) else decide (mv_pg ((mv_pl m).2.2.1) = some (.instanceMethod (mv_y m))) && (decide ((mv_y m).name = "<init>") || decide (mv_pg ((mv_pl m).2.2.2.1) = some (.selects (mv_y m).cls (mv_y m) (mv_y m)))))
set_option maxRecDepth 100000 in
theorem mv_okm_1 : ∀ m, m < 28 → 1 ≤ m → mv_okm m = true := by decide +kernel
set_option maxRecDepth 100000 in
theorem mv_okm_28 : ∀ m, m < 55 → 28 ≤ m → mv_okm m = true := by decide +kernel
set_option maxRecDepth 100000 in
theorem mv_okm_55 : ∀ m, m < 82 → 55 ≤ m → mv_okm m = true := by decide +kernel
set_option maxRecDepth 100000 in
theorem mv_okm_82 : ∀ m, m < 109 → 82 ≤ m → mv_okm m = true := by decide +kernel
set_option maxRecDepth 100000 in
theorem mv_okm_109 : ∀ m, m < 136 → 109 ≤ m → mv_okm m = true := by decide +kernel
set_option maxRecDepth 100000 in
theorem mv_okm_136 : ∀ m, m < 163 → 136 ≤ m → mv_okm m = true := by decide +kernel
set_option maxRecDepth 100000 in
theorem mv_okm_163 : ∀ m, m < 190 → 163 ≤ m → mv_okm m = true := by decide +kernel
set_option maxRecDepth 100000 in
theorem mv_okm_190 : ∀ m, m < 217 → 190 ≤ m → mv_okm m = true := by decide +kernel
set_option maxRecDepth 100000 in
theorem mv_okm_217 : ∀ m, m < 244 → 217 ≤ m → mv_okm m = true := by decide +kernel
set_option maxRecDepth 100000 in
theorem mv_okm_244 : ∀ m, m < 271 → 244 ≤ m → mv_okm m = true := by decide +kernel
set_option maxRecDepth 100000 in
theorem mv_okm_271 : ∀ m, m < 298 → 271 ≤ m → mv_okm m = true := by decide +kernel
set_option maxRecDepth 100000 in
theorem mv_okm_298 : ∀ m, m < 324 → 298 ≤ m → mv_okm m = true := by decide +kernel
theorem mv_okms : ∀ m, 1 ≤ m → m < 324 → mv_okm m = true := by
  intro m h1 h2
  rcases Nat.lt_or_ge m 28 with q | q
  · exact mv_okm_1 m q (by omega)
  rcases Nat.lt_or_ge m 55 with q | q
  · exact mv_okm_28 m q (by omega)
  rcases Nat.lt_or_ge m 82 with q | q
  · exact mv_okm_55 m q (by omega)
  rcases Nat.lt_or_ge m 109 with q | q
  · exact mv_okm_82 m q (by omega)
  rcases Nat.lt_or_ge m 136 with q | q
  · exact mv_okm_109 m q (by omega)
  rcases Nat.lt_or_ge m 163 with q | q
  · exact mv_okm_136 m q (by omega)
  rcases Nat.lt_or_ge m 190 with q | q
  · exact mv_okm_163 m q (by omega)
  rcases Nat.lt_or_ge m 217 with q | q
  · exact mv_okm_190 m q (by omega)
  rcases Nat.lt_or_ge m 244 with q | q
  · exact mv_okm_217 m q (by omega)
  rcases Nat.lt_or_ge m 271 with q | q
  · exact mv_okm_244 m q (by omega)
  rcases Nat.lt_or_ge m 298 with q | q
  · exact mv_okm_271 m q (by omega)
  exact mv_okm_298 m h2 (by omega)
