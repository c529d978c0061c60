def mv_np (m : Nat) : Nat := (cond (Nat.ble m 161) (cond (Nat.ble m 80) (cond (Nat.ble m 40) (cond (Nat.ble m 20) (cond (Nat.ble m 10) (cond (Nat.ble m 5) (cond (Nat.ble m 2) (cond (Nat.ble m 1) (cond (Nat.ble m 0) 1 1) 1) (cond (Nat.ble m 4) (cond (Nat.ble m 3) 1 1) 1)) (cond (Nat.ble m 8) (cond (Nat.ble m 7) (cond (Nat.ble m 6) 0 1) 2) (cond (Nat.ble m 9) 1 2))) (cond (Nat.ble m 15) (cond (Nat.ble m 13) (cond (Nat.ble m 12) (cond (Nat.ble m 11) 1 1) 0) (cond (Nat.ble m 14) 0 1)) (cond (Nat.ble m 18) (cond (Nat.ble m 17) (cond (Nat.ble m 16) 1 0) 0) (cond (Nat.ble m 19) 0 1)))) (cond (Nat.ble m 30) (cond (Nat.ble m 25) (cond (Nat.ble m 23) (cond (Nat.ble m 22) (cond (Nat.ble m 21) 0 2) 0) (cond (Nat.ble m 24) 1 4)) (cond (Nat.ble m 28) (cond (Nat.ble m 27) (cond (Nat.ble m 26) 1 0) 2) (cond (Nat.ble m 29) 0 0))) (cond (Nat.ble m 35) (cond (Nat.ble m 33) (cond (Nat.ble m 32) (cond (Nat.ble m 31) 1 2) 2) (cond (Nat.ble m 34) 1 1)) (cond (Nat.ble m 38) (cond (Nat.ble m 37) (cond (Nat.ble m 36) 1 2) 0) (cond (Nat.ble m 39) 2 0))))) (cond (Nat.ble m 60) (cond (Nat.ble m 50) (cond (Nat.ble m 45) (cond (Nat.ble m 43) (cond (Nat.ble m 42) (cond (Nat.ble m 41) 1 1) 2) (cond (Nat.ble m 44) 0 1)) (cond (Nat.ble m 48) (cond (Nat.ble m 47) (cond (Nat.ble m 46) 1 1) 0) (cond (Nat.ble m 49) 1 1))) (cond (Nat.ble m 55) (cond (Nat.ble m 53) (cond (Nat.ble m 52) (cond (Nat.ble m 51) 2 1) 2) (cond (Nat.ble m 54) 1 3)) (cond (Nat.ble m 58) (cond (Nat.ble m 57) (cond (Nat.ble m 56) 1 1) 1) (cond (Nat.ble m 59) 1 1)))) (cond (Nat.ble m 70) (cond (Nat.ble m 65) (cond (Nat.ble m 63) (cond (Nat.ble m 62) (cond (Nat.ble m 61) 1 1) 1) (cond (Nat.ble m 64) 1 0)) (cond (Nat.ble m 68) (cond (Nat.ble m 67) (cond (Nat.ble m 66) 1 1) 1) (cond (Nat.ble m 69) 0 2))) (cond (Nat.ble m 75) (cond (Nat.ble m 73) (cond (Nat.ble m 72) (cond (Nat.ble m 71) 1 2) 1) (cond (Nat.ble m 74) 2 2)) (cond (Nat.ble m 78) (cond (Nat.ble m 77) (cond (Nat.ble m 76) 3 2) 3) (cond (Nat.ble m 79) 1 1)))))) (cond (Nat.ble m 121) (cond (Nat.ble m 101) (cond (Nat.ble m 91) (cond (Nat.ble m 86) (cond (Nat.ble m 83) (cond (Nat.ble m 82) (cond (Nat.ble m 81) 0 0) 0) (cond (Nat.ble m 85) (cond (Nat.ble m 84) 0 0) 0)) (cond (Nat.ble m 89) (cond (Nat.ble m 88) (cond (Nat.ble m 87) 1 2) 2) (cond (Nat.ble m 90) 1 2))) (cond (Nat.ble m 96) (cond (Nat.ble m 94) (cond (Nat.ble m 93) (cond (Nat.ble m 92) 3 2) 2) (cond (Nat.ble m 95) 2 1)) (cond (Nat.ble m 99) (cond (Nat.ble m 98) (cond (Nat.ble m 97) 2 0) 5) (cond (Nat.ble m 100) 1 1)))) (cond (Nat.ble m 111) (cond (Nat.ble m 106) (cond (Nat.ble m 104) (cond (Nat.ble m 103) (cond (Nat.ble m 102) 1 2) 1) (cond (Nat.ble m 105) 1 1)) (cond (Nat.ble m 109) (cond (Nat.ble m 108) (cond (Nat.ble m 107) 1 2) 1) (cond (Nat.ble m 110) 1 1))) (cond (Nat.ble m 116) (cond (Nat.ble m 114) (cond (Nat.ble m 113) (cond (Nat.ble m 112) 2 3) 1) (cond (Nat.ble m 115) 2 1)) (cond (Nat.ble m 119) (cond (Nat.ble m 118) (cond (Nat.ble m 117) 1 2) 1) (cond (Nat.ble m 120) 2 1))))) (cond (Nat.ble m 141) (cond (Nat.ble m 131) (cond (Nat.ble m 126) (cond (Nat.ble m 124) (cond (Nat.ble m 123) (cond (Nat.ble m 122) 3 1) 2) (cond (Nat.ble m 125) 0 0)) (cond (Nat.ble m 129) (cond (Nat.ble m 128) (cond (Nat.ble m 127) 2 1) 1) (cond (Nat.ble m 130) 0 0))) (cond (Nat.ble m 136) (cond (Nat.ble m 134) (cond (Nat.ble m 133) (cond (Nat.ble m 132) 2 2) 2) (cond (Nat.ble m 135) 2 1)) (cond (Nat.ble m 139) (cond (Nat.ble m 138) (cond (Nat.ble m 137) 3 1) 0) (cond (Nat.ble m 140) 2 1)))) (cond (Nat.ble m 151) (cond (Nat.ble m 146) (cond (Nat.ble m 144) (cond (Nat.ble m 143) (cond (Nat.ble m 142) 3 2) 0) (cond (Nat.ble m 145) 1 1)) (cond (Nat.ble m 149) (cond (Nat.ble m 148) (cond (Nat.ble m 147) 2 1) 1) (cond (Nat.ble m 150) 0 1))) (cond (Nat.ble m 156) (cond (Nat.ble m 154) (cond (Nat.ble m 153) (cond (Nat.ble m 152) 1 1) 0) (cond (Nat.ble m 155) 2 2)) (cond (Nat.ble m 159) (cond (Nat.ble m 158) (cond (Nat.ble m 157) 2 1) 1) (cond (Nat.ble m 160) 2 2))))))) (cond (Nat.ble m 242) (cond (Nat.ble m 202) (cond (Nat.ble m 182) (cond (Nat.ble m 172) (cond (Nat.ble m 167) (cond (Nat.ble m 164) (cond (Nat.ble m 163) (cond (Nat.ble m 162) 0 1) 1) (cond (Nat.ble m 166) (cond (Nat.ble m 165) 1 2) 2)) (cond (Nat.ble m 170) (cond (Nat.ble m 169) (cond (Nat.ble m 168) 1 0) 2) (cond (Nat.ble m 171) 2 3))) (cond (Nat.ble m 177) (cond (Nat.ble m 175) (cond (Nat.ble m 174) (cond (Nat.ble m 173) 3 1) 1) (cond (Nat.ble m 176) 1 1)) (cond (Nat.ble m 180) (cond (Nat.ble m 179) (cond (Nat.ble m 178) 0 1) 5) (cond (Nat.ble m 181) 1 3)))) (cond (Nat.ble m 192) (cond (Nat.ble m 187) (cond (Nat.ble m 185) (cond (Nat.ble m 184) (cond (Nat.ble m 183) 0 1) 1) (cond (Nat.ble m 186) 0 1)) (cond (Nat.ble m 190) (cond (Nat.ble m 189) (cond (Nat.ble m 188) 1 1) 1) (cond (Nat.ble m 191) 3 2))) (cond (Nat.ble m 197) (cond (Nat.ble m 195) (cond (Nat.ble m 194) (cond (Nat.ble m 193) 0 0) 0) (cond (Nat.ble m 196) 1 1)) (cond (Nat.ble m 200) (cond (Nat.ble m 199) (cond (Nat.ble m 198) 1 1) 1) (cond (Nat.ble m 201) 1 1))))) (cond (Nat.ble m 222) (cond (Nat.ble m 212) (cond (Nat.ble m 207) (cond (Nat.ble m 205) (cond (Nat.ble m 204) (cond (Nat.ble m 203) 1 1) 1) (cond (Nat.ble m 206) 1 1)) (cond (Nat.ble m 210) (cond (Nat.ble m 209) (cond (Nat.ble m 208) 1 2) 1) (cond (Nat.ble m 211) 1 2))) (cond (Nat.ble m 217) (cond (Nat.ble m 215) (cond (Nat.ble m 214) (cond (Nat.ble m 213) 2 1) 1) (cond (Nat.ble m 216) 3 1)) (cond (Nat.ble m 220) (cond (Nat.ble m 219) (cond (Nat.ble m 218) 1 0) 1) (cond (Nat.ble m 221) 2 1)))) (cond (Nat.ble m 232) (cond (Nat.ble m 227) (cond (Nat.ble m 225) (cond (Nat.ble m 224) (cond (Nat.ble m 223) 2 1) 1) (cond (Nat.ble m 226) 1 0)) (cond (Nat.ble m 230) (cond (Nat.ble m 229) (cond (Nat.ble m 228) 0 1) 0) (cond (Nat.ble m 231) 1 2))) (cond (Nat.ble m 237) (cond (Nat.ble m 235) (cond (Nat.ble m 234) (cond (Nat.ble m 233) 2 1) 2) (cond (Nat.ble m 236) 1 1)) (cond (Nat.ble m 240) (cond (Nat.ble m 239) (cond (Nat.ble m 238) 2 1) 1) (cond (Nat.ble m 241) 1 1)))))) (cond (Nat.ble m 283) (cond (Nat.ble m 263) (cond (Nat.ble m 253) (cond (Nat.ble m 248) (cond (Nat.ble m 245) (cond (Nat.ble m 244) (cond (Nat.ble m 243) 0 1) 2) (cond (Nat.ble m 247) (cond (Nat.ble m 246) 0 1) 2)) (cond (Nat.ble m 251) (cond (Nat.ble m 250) (cond (Nat.ble m 249) 1 1) 0) (cond (Nat.ble m 252) 0 2))) (cond (Nat.ble m 258) (cond (Nat.ble m 256) (cond (Nat.ble m 255) (cond (Nat.ble m 254) 2 2) 1) (cond (Nat.ble m 257) 3 2)) (cond (Nat.ble m 261) (cond (Nat.ble m 260) (cond (Nat.ble m 259) 1 0) 2) (cond (Nat.ble m 262) 1 2)))) (cond (Nat.ble m 273) (cond (Nat.ble m 268) (cond (Nat.ble m 266) (cond (Nat.ble m 265) (cond (Nat.ble m 264) 1 1) 2) (cond (Nat.ble m 267) 0 1)) (cond (Nat.ble m 271) (cond (Nat.ble m 270) (cond (Nat.ble m 269) 1 1) 2) (cond (Nat.ble m 272) 2 1))) (cond (Nat.ble m 278) (cond (Nat.ble m 276) (cond (Nat.ble m 275) (cond (Nat.ble m 274) 1 3) 0) (cond (Nat.ble m 277) 2 2)) (cond (Nat.ble m 281) (cond (Nat.ble m 280) (cond (Nat.ble m 279) 1 2) 1) (cond (Nat.ble m 282) 1 2))))) (cond (Nat.ble m 303) (cond (Nat.ble m 293) (cond (Nat.ble m 288) (cond (Nat.ble m 286) (cond (Nat.ble m 285) (cond (Nat.ble m 284) 3 1) 1) (cond (Nat.ble m 287) 1 3)) (cond (Nat.ble m 291) (cond (Nat.ble m 290) (cond (Nat.ble m 289) 4 1) 2) (cond (Nat.ble m 292) 2 1))) (cond (Nat.ble m 298) (cond (Nat.ble m 296) (cond (Nat.ble m 295) (cond (Nat.ble m 294) 1 3) 2) (cond (Nat.ble m 297) 2 3)) (cond (Nat.ble m 301) (cond (Nat.ble m 300) (cond (Nat.ble m 299) 3 2) 1) (cond (Nat.ble m 302) 1 1)))) (cond (Nat.ble m 313) (cond (Nat.ble m 308) (cond (Nat.ble m 306) (cond (Nat.ble m 305) (cond (Nat.ble m 304) 1 1) 2) (cond (Nat.ble m 307) 2 2)) (cond (Nat.ble m 311) (cond (Nat.ble m 310) (cond (Nat.ble m 309) 0 0) 1) (cond (Nat.ble m 312) 0 2))) (cond (Nat.ble m 318) (cond (Nat.ble m 316) (cond (Nat.ble m 315) (cond (Nat.ble m 314) 1 2) 2) (cond (Nat.ble m 317) 4 1)) (cond (Nat.ble m 321) (cond (Nat.ble m 320) (cond (Nat.ble m 319) 4 2) 2) (cond (Nat.ble m 322) 2 3))))))))
def mv_rtc (m : Nat) : Nat := match mv_rt m with
  | none => 0
  | some .int => 1
  | some .boolean => 1
  | some .byte => 1
  | some .char => 1
  | some .long => 2
  | _ => 3
def mv_fl (m idx ci k : Nat) : Bool := mv_tF.any (fun e => Nat.beq e.1 (mv_ow m) && (Nat.beq e.2.1 idx && (Nat.beq e.2.2.1 ci && Nat.beq e.2.2.2.1 k)))
def mv_fp (m idx ci k : Nat) : Bool := mv_tF.any (fun e => Nat.beq e.1 (mv_ow m) && (Nat.beq e.2.1 idx && (Nat.beq e.2.2.1 ci && (Nat.beq e.2.2.2.1 k && (!(mv_F ci k).2.2.2 || (!(Nat.beq e.2.2.2.2.1 1) && (decide ((mv_y m).name = "<init>") && decide ((mv_F ci k).1 = (mv_y m).cls))))))))
def mv_iv (m idx c : Nat) : Bool := mv_tM.any (fun e => Nat.beq e.1 (mv_ow m) && (Nat.beq e.2.1 idx && Nat.beq e.2.2.1 c))
def mv_ic (x : Nat) : Bool := Nat.ble 1 (x / 32 % 512) && Nat.ble (x / 32 % 512) 323 && !(Nat.beq (x / 32 % 512) 307) && !(Nat.beq (x / 32 % 512) 308) && Nat.beq (x % 4) (mv_rtc (x / 32 % 512))
def mv_k3 (m idx q : Nat) (l : List (Nat × Nat × Nat × Nat)) : Bool := l.any (fun e => Nat.beq e.1 (mv_ow m) && (Nat.beq e.2.1 idx && Nat.beq e.2.2.1 q))
def mv_swk (pc : Nat) (ps qs : List (Int × Int)) : Bool := match ps, qs with
  | [], [] => true
  | (v, o) :: ps, (w, t) :: qs => decide (v = w) && (decide ((mv_i w).toInt = w) && (decide ((pc : Int) + o = (t.toNat : Int)) && mv_swk pc ps qs))
  | _, _ => false
def mv_swt (pc : Nat) (lo : Int) (os : List Int) (qs : List (Int × Int)) : Bool := match os, qs with
  | [], [] => true
  | o :: os, (w, t) :: qs => decide (lo = w) && (decide ((mv_i w).toInt = w) && (decide ((pc : Int) + o = (t.toNat : Int)) && mv_swt pc (lo + 1) os qs))
  | _, _ => false
def mv_lk (m pc : Nat) (i : Instr) (len : Nat) (r : Instr) : Bool :=
  match r with
  | .iload j => Nat.ble (j + 1) (mv_ml m) && (match i with | .iload q => Nat.beq q j && Nat.beq len 2 | .iload_n q => Nat.beq q.val j && Nat.beq len 1 | _ => false)
  | .lload j => Nat.ble (j + 1) (mv_ml m) && (match i with | .lload q => Nat.beq q j && Nat.beq len 2 | .lload_n q => Nat.beq q.val j && Nat.beq len 1 | _ => false)
  | .aload j => Nat.ble (j + 1) (mv_ml m) && (match i with | .aload q => Nat.beq q j && Nat.beq len 2 | .aload_n q => Nat.beq q.val j && Nat.beq len 1 | _ => false)
  | .istore j => Nat.ble (j + 1) (mv_ml m) && (match i with | .istore q => Nat.beq q j && Nat.beq len 2 | .istore_n q => Nat.beq q.val j && Nat.beq len 1 | _ => false)
  | .lstore j => Nat.ble (j + 2) (mv_ml m) && (match i with | .lstore q => Nat.beq q j && Nat.beq len 2 | .lstore_n q => Nat.beq q.val j && Nat.beq len 1 | _ => false)
  | .astore j => Nat.ble (j + 1) (mv_ml m) && (match i with | .astore q => Nat.beq q j && Nat.beq len 2 | .astore_n q => Nat.beq q.val j && Nat.beq len 1 | _ => false)
  | .iconst v => match i with
    | .iconst q => decide (Int32.ofInt q = mv_i v) && Nat.beq len 1
    | .bipush q => decide ((Int8.ofInt q).toInt32 = mv_i v) && Nat.beq len 2
    | .sipush q => decide ((Int16.ofInt q).toInt32 = mv_i v) && Nat.beq len 3
    | .ldc q => mv_tI.any (fun e => Nat.beq e.1 (mv_ow m) && (Nat.beq e.2.1 q && decide (Int32.ofInt e.2.2.1 = mv_i v))) && Nat.beq len 2
    | .ldc_w q => mv_tI.any (fun e => Nat.beq e.1 (mv_ow m) && (Nat.beq e.2.1 q && decide (Int32.ofInt e.2.2.1 = mv_i v))) && Nat.beq len 3
    | .getstatic q => mv_k3 m q 1 mv_tS && (decide (mv_i v = 1) && Nat.beq len 3)
    | _ => false
  | .jsr_w v => match i with
    | .lconst q => decide (Int64.ofNat q.val = mv_l v) && Nat.beq len 1
    | .ldc2_w q => mv_tJ.any (fun e => Nat.beq e.1 (mv_ow m) && (Nat.beq e.2.1 q && decide (Int64.ofInt e.2.2.1 = mv_l v))) && Nat.beq len 3
    | _ => false
  | .ldc a => match i with
    | .ldc q => mv_tR.any (fun e => Nat.beq e.1 (mv_ow m) && (Nat.beq e.2.1 q && Nat.beq (1 + e.2.2) a)) && Nat.beq len 2
    | .getstatic q => ((mv_k3 m q 0 mv_tS && Nat.beq a 47) || (mv_k3 m q 2 mv_tS && Nat.beq a 49)) && Nat.beq len 3
    | _ => false
  | .iinc j v => Nat.ble (j + 1) (mv_ml m) && (match i with | .iinc q u => Nat.beq q j && (decide (Int32.ofInt u = mv_i v) && Nat.beq len 3) | _ => false)
  | .if_icmp c d => match i with | .if_icmp q u => decide (q = c) && (decide ((pc : Int) + u = (d.toNat : Int)) && Nat.beq len 3) | _ => false
  | .ifCond c d => match i with | .ifCond q u => decide (q = c) && (decide ((pc : Int) + u = (d.toNat : Int)) && Nat.beq len 3) | _ => false
  | .if_acmp c d => match i with | .if_acmp q u => decide (q = c) && (decide ((pc : Int) + u = (d.toNat : Int)) && Nat.beq len 3) | _ => false
  | .ifnonnull d => match i with | .ifnonnull u => decide ((pc : Int) + u = (d.toNat : Int)) && Nat.beq len 3 | _ => false
  | .goto d => match i with | .goto u => decide ((pc : Int) + u = (d.toNat : Int)) && Nat.beq len 3 | _ => false
  | .lookupswitch d qs => match i with
    | .lookupswitch u ps => decide ((pc : Int) + u = (d.toNat : Int)) && (mv_swk pc ps.toList qs.toList && (ps.toList.zip (ps.toList.drop 1)).all (fun (a, next) => decide (a.1 < next.1)))
    | .tableswitch u lo hi os => decide ((pc : Int) + u = (d.toNat : Int)) && (mv_swt pc lo os.toList qs.toList && decide (lo + os.toList.length = hi + 1))
    | _ => false
  | .getfield x => match i with
    | .getfield q => Nat.beq len 3 && ((mv_fl m q (x / 256) (x / 4 % 64) && Nat.beq (x % 4) (mv_ft (x / 256) (x / 4 % 64))) || (mv_k3 m q x mv_tG))
    | _ => false
  | .putfield x => match i with
    | .putfield q => Nat.beq len 3 && (mv_fp m q (x / 256) (x / 4 % 64) && Nat.beq (x % 4) (mv_ft (x / 256) (x / 4 % 64)))
    | _ => false
  | .new ci => match i with | .new q => Nat.beq len 3 && mv_k3 m q ci mv_tC | _ => false
  | .newarray a => match i with | .newarray b => Nat.beq len 2 && (decide (b = a) && decide (a = .int ∨ a = .byte ∨ a = .long ∨ a = .boolean)) | _ => false
  | .anewarray kd => match i with | .anewarray q => Nat.beq len 3 && mv_k3 m q kd mv_tA | _ => false
  | .monitorexit => match i with | .invokespecial q => Nat.beq len 3 && mv_tO.any (fun e => Nat.beq e.1 (mv_ow m) && Nat.beq e.2.1 q) | _ => false
  | .invokedynamic _ => match i with | .invokestatic q => Nat.beq len 3 && mv_tY.any (fun e => Nat.beq e.1 (mv_ow m) && Nat.beq e.2.1 q) | _ => false
  | .fadd => match i with | .invokestatic q => Nat.beq len 3 && mv_iv m q 308 | _ => false
  | .fsub => match i with | .invokestatic q => Nat.beq len 3 && mv_iv m q 307 | _ => false
  | .invokestatic x => match i with
    | .invokestatic q => Nat.beq len 3 && (mv_iv m q (x / 32 % 512) && (mv_ic x && (Nat.beq (mv_pl (x / 32 % 512)).2.2.2.2 1 && Nat.beq (x / 4 % 8) (mv_np (x / 32 % 512)))))
    | _ => false
  | .invokevirtual x => match i with
    | .invokevirtual q => Nat.beq len 3 && (mv_iv m q (x / 32 % 512) && (mv_ic x && (Nat.beq (mv_pl (x / 32 % 512)).2.2.2.2 0 && (Nat.beq (x / 4 % 8) (mv_np (x / 32 % 512) + 1) && (!decide ((mv_y (x / 32 % 512)).name = "<init>") && ((Nat.ble (x / 16384) 11 && decide (mv_C (x / 16384) = (mv_y (x / 32 % 512)).cls)) || (Nat.beq (x / 16384) 30 && decide ("java/lang/String" = (mv_y (x / 32 % 512)).cls))))))))
    | _ => false
  | .invokespecial x => match i with
    | .invokespecial q => Nat.beq len 3 && (mv_iv m q (x / 32 % 512) && (mv_ic x && (Nat.beq (mv_pl (x / 32 % 512)).2.2.2.2 0 && (Nat.beq (x / 4 % 8) (mv_np (x / 32 % 512) + 1) && (decide ((mv_y (x / 32 % 512)).name = "<init>") && (decide (mv_rt (x / 32 % 512) = none) && Nat.ble (x / 16384) 11))))))
    | _ => false
  | .ireturn => decide (i = .ireturn) && (Nat.beq len 1 && decide (mv_rt m = some .int))
  | .freturn => decide (i = .ireturn) && (Nat.beq len 1 && decide (mv_rt m = some .boolean))
  | .dreturn => decide (i = .ireturn) && (Nat.beq len 1 && decide (mv_rt m = some .byte ∨ mv_rt m = some .char))
  | .lreturn => decide (i = .lreturn) && (Nat.beq len 1 && decide (mv_rt m = some .long))
  | .areturn => decide (i = .areturn) && (Nat.beq len 1 && Nat.beq (mv_rtc m) 3)
  | .return_ => decide (i = .return_) && (Nat.beq len 1 && decide (mv_rt m = none))
  | .aconst_null => decide (i = .aconst_null) && Nat.beq len 1
  | .iadd => decide (i = .iadd) && Nat.beq len 1
  | .isub => decide (i = .isub) && Nat.beq len 1
  | .imul => decide (i = .imul) && Nat.beq len 1
  | .iand => decide (i = .iand) && Nat.beq len 1
  | .ior => decide (i = .ior) && Nat.beq len 1
  | .ixor => decide (i = .ixor) && Nat.beq len 1
  | .ishl => decide (i = .ishl) && Nat.beq len 1
  | .ishr => decide (i = .ishr) && Nat.beq len 1
  | .iushr => decide (i = .iushr) && Nat.beq len 1
  | .idiv => decide (i = .idiv) && Nat.beq len 1
  | .irem => decide (i = .irem) && Nat.beq len 1
  | .ineg => decide (i = .ineg) && Nat.beq len 1
  | .ladd => decide (i = .ladd) && Nat.beq len 1
  | .lsub => decide (i = .lsub) && Nat.beq len 1
  | .lmul => decide (i = .lmul) && Nat.beq len 1
  | .land => decide (i = .land) && Nat.beq len 1
  | .lor => decide (i = .lor) && Nat.beq len 1
  | .ldiv => decide (i = .ldiv) && Nat.beq len 1
  | .lrem => decide (i = .lrem) && Nat.beq len 1
  | .lshl => decide (i = .lshl) && Nat.beq len 1
  | .lshr => decide (i = .lshr) && Nat.beq len 1
  | .i2l => decide (i = .i2l) && Nat.beq len 1
  | .l2i => decide (i = .l2i) && Nat.beq len 1
  | .i2b => decide (i = .i2b) && Nat.beq len 1
  | .i2s => decide (i = .i2s) && Nat.beq len 1
  | .i2c => decide (i = .i2c) && Nat.beq len 1
  | .lcmp => decide (i = .lcmp) && Nat.beq len 1
  | .dup => decide (i = .dup) && Nat.beq len 1
  | .dup2 => decide (i = .dup2) && Nat.beq len 1
  | .pop => decide (i = .pop) && Nat.beq len 1
  | .iaload => decide (i = .iaload) && Nat.beq len 1
  | .baload => decide (i = .baload) && Nat.beq len 1
  | .laload => decide (i = .laload) && Nat.beq len 1
  | .aaload => decide (i = .aaload) && Nat.beq len 1
  | .iastore => decide (i = .iastore) && Nat.beq len 1
  | .bastore => decide (i = .bastore) && Nat.beq len 1
  | .lastore => decide (i = .lastore) && Nat.beq len 1
  | .aastore => decide (i = .aastore) && Nat.beq len 1
  | .arraylength => decide (i = .arraylength) && Nat.beq len 1
  | _ => false
noncomputable def mv_dc (m pc : Nat) : Bool := match (mv_code m pc).1 with
  | .nop => true
  | r => match decode (mv_cc m) pc with
    | .ok (i, len) => Nat.beq len (mv_code m pc).2.1 && mv_lk m pc i len r
    | .error _ => false
noncomputable def mv_dcm (m : Nat) : Bool := (List.range (mv_lc m)).all (mv_dc m)
