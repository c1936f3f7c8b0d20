/-! THE JDK's METHODS under the text's indexOf: their code, resolved (printed by wip/whole/gen_jdk.py), what is checked of it -/
def jc_J0_indexOf_0f7a4 : jx_C := [[(0, .aload_n 0, 1, 0, 0, [], []), (1, .iload_n 1, 2, 0, 0, [], []), (2, .iconst 0, 3, 0, 0, [(0, 0)], []), (3, .invokevirtual 633, 6, 1, 0, [], [361]), (6, .ireturn, 7, 0, 0, [], [])]]
def jc_J0_indexOf_7cf53 : jx_C := [[(0, .aload_n 0, 1, 0, 0, [], []), (1, .invokevirtual 492, 4, 2, 0, [], [365]), (4, .ifCond .eq 19, 7, 23, 0, [], []), (7, .aload_n 0, 8, 0, 0, [], []), (8, .getfield 9, 11, 0, 0, [], [1208]), (11, .iload_n 1, 12, 0, 0, [], []), (12, .iload_n 2, 13, 0, 0, [], []), (13, .aload_n 0, 14, 0, 0, [], []), (14, .invokevirtual 505, 17, 3, 0, [], [371])],
  [(17, .invokestatic 637, 20, 5, 0, [], [379]), (20, .goto 16, 23, 36, 0, [], [])],
  [(36, .ireturn, 37, 0, 0, [], [])]]
def jc_J0_isLatin1_aae02 : jx_C := [[(0, .getstatic 38, 3, 0, 2, [], [369]), (3, .ifCond .eq 14, 6, 17, 0, [], []), (6, .aload_n 0, 7, 0, 0, [], []), (7, .getfield 15, 10, 0, 1, [], [1207]), (10, .ifCond .ne 7, 13, 17, 0, [], []), (13, .iconst 1, 14, 0, 0, [(1, 0)], []), (14, .goto 4, 17, 18, 0, [], [])],
  [(17, .iconst 0, 18, 0, 0, [(0, 0)], []), (18, .ireturn, 19, 1, 0, [], [])]]
def jc_J0_length_8abf5 : jx_C := [[(0, .aload_n 0, 1, 0, 0, [], []), (1, .getfield 9, 4, 0, 0, [], [1208]), (4, .arraylength, 5, 0, 0, [], []), (5, .aload_n 0, 6, 0, 0, [], []), (6, .invokevirtual 335, 9, 4, 0, [], [375]), (9, .ishr, 10, 0, 0, [], []), (10, .ireturn, 11, 0, 0, [], [])]]
def jc_J0_coder_7d493 : jx_C := [[(0, .getstatic 38, 3, 0, 2, [], [369]), (3, .ifCond .eq 10, 6, 13, 0, [], []), (6, .aload_n 0, 7, 0, 0, [], []), (7, .getfield 15, 10, 0, 1, [], [1207]), (10, .goto 4, 13, 14, 0, [], []), (13, .iconst 1, 14, 0, 0, [(1, 0)], []), (14, .ireturn, 15, 2, 0, [], [])]]
def jc_J1_indexOf_4cfef : jx_C := [[(0, .iload_n 1, 1, 0, 0, [], []), (1, .invokestatic 88, 4, 6, 0, [], [382]), (4, .ifCond .ne 5, 7, 9, 0, [], []), (7, .iconst (-1), 8, 0, 0, [((-1), 0)], []), (8, .ireturn, 9, 0, 0, [], []), (9, .iload_n 2, 10, 0, 0, [], []), (10, .iconst 0, 11, 0, 0, [(0, 0)], []), (11, .invokestatic 92, 14, 9001, 0, [], [385, 386, 65, 387]), (14, .istore_n 2, 15, 0, 0, [], []), (15, .iload_n 3, 16, 0, 0, [], [])],
  [(16, .aload_n 0, 17, 0, 0, [], []), (17, .arraylength, 18, 0, 0, [], []), (18, .invokestatic 38, 21, 9002, 0, [], [388, 389, 65, 390]), (21, .istore_n 3, 22, 0, 0, [], []), (22, .iload_n 2, 23, 0, 0, [], []), (23, .iload_n 3, 24, 0, 0, [], []), (24, .if_icmp .lt 5, 27, 29, 0, [], []), (27, .iconst (-1), 28, 0, 0, [((-1), 0)], []), (28, .ireturn, 29, 0, 0, [], []), (29, .aload_n 0, 30, 0, 0, [], []), (30, .iload_n 1, 31, 0, 0, [], []), (31, .iload_n 2, 32, 0, 0, [], [])],
  [(32, .iload_n 3, 33, 0, 0, [], []), (33, .invokestatic 95, 36, 7, 0, [], [391]), (36, .ireturn, 37, 0, 0, [], [])]]
def jc_J1_canEncode_9a6ad : jx_C := [[(0, .iload_n 0, 1, 0, 0, [], []), (1, .ifCond .lt 14, 4, 15, 0, [], []), (4, .iload_n 0, 5, 0, 0, [], []), (5, .sipush 255, 8, 0, 0, [(255, 0)], []), (8, .if_icmp .gt 7, 11, 15, 0, [], []), (11, .iconst 1, 12, 0, 0, [(1, 0)], []), (12, .goto 4, 15, 16, 0, [], []), (15, .iconst 0, 16, 0, 0, [(0, 0)], [])],
  [(16, .ireturn, 17, 1, 0, [], [])]]
def jc_J1_indexOfChar_4cfef : jx_C := [[(0, .iload_n 1, 1, 0, 0, [], []), (1, .i2b, 2, 0, 0, [], []), (2, .istore 4, 4, 0, 0, [], []), (4, .iload_n 2, 5, 0, 0, [], []), (5, .istore 5, 7, 0, 0, [], []), (7, .iload 5, 9, 0, 0, [], []), (9, .iload_n 3, 10, 0, 0, [], []), (10, .if_icmp .ge 21, 13, 31, 0, [], []), (13, .aload_n 0, 14, 0, 0, [], []), (14, .iload 5, 16, 0, 0, [], [])],
  [(16, .baload, 17, 0, 0, [], []), (17, .iload 4, 19, 0, 0, [], []), (19, .if_icmp .ne 6, 22, 25, 0, [], []), (22, .iload 5, 24, 0, 0, [], []), (24, .ireturn, 25, 0, 0, [], []), (25, .iinc 5 1, 28, 0, 0, [(1, 0)], []), (28, .goto (-21), 31, 7, 0, [], []), (31, .iconst (-1), 32, 0, 0, [((-1), 0)], [])],
  [(32, .ireturn, 33, 0, 0, [], [])]]
def jq_ms : List jx_M := [(RJ0, yJ0_indexOf_0f7a4, cJ0_indexOf_0f7a4, 2, some .int, 1, false, jc_J0_indexOf_0f7a4, [63, 360, 358, 359]),
  (RJ0, yJ0_indexOf_7cf53, cJ0_indexOf_7cf53, 3, some .int, 2, false, jc_J0_indexOf_7cf53, [63, 364, 362, 363]),
  (RJ0, yJ0_isLatin1_aae02, cJ0_isLatin1_aae02, 1, some .boolean, 0, false, jc_J0_isLatin1_aae02, [63, 368, 366, 367]),
  (RJ0, yJ0_length_8abf5, cJ0_length_8abf5, 1, some .int, 0, false, jc_J0_length_8abf5, [63, 374, 372, 373]),
  (RJ0, yJ0_coder_7d493, cJ0_coder_7d493, 1, some .byte, 0, false, jc_J0_coder_7d493, [63, 378, 376, 377]),
  (RJ1, yJ1_indexOf_4cfef, cJ1_indexOf_4cfef, 4, some .int, 4, true, jc_J1_indexOf_4cfef, [64, 381, 380]),
  (RJ1, yJ1_canEncode_9a6ad, cJ1_canEncode_9a6ad, 1, some .boolean, 1, true, jc_J1_canEncode_9a6ad, [64, 384, 383]),
  (RJ1, yJ1_indexOfChar_4cfef, cJ1_indexOfChar_4cfef, 6, some .int, 4, true, jc_J1_indexOfChar_4cfef, [64, 393, 392])]
def jq_meth (k : Nat) : Option jx_M := jx_get jq_ms k
def jq_code (k : Nat) : jx_C := match jq_meth k with
  | some (_, _, _, _, _, _, _, c, _) => c
  | none => []
def jq_fn (b : Nat) : String × String := match b with
  | 0 => ("value", "[B")
  | 1 => ("coder", "B")
  | _ => ("COMPACT_STRINGS", "Z")
def jq_chkO (i : Instr) (ret : Option FieldType) (pc a b : Nat) (sw : List (Int32 × Nat)) : Bool := match i with
  | .getfield _ => Nat.blt b 2
  | .getstatic _ => Nat.beq b 2
  | .ireturn => (decide (a = 0) && decide (ret = some .int)) || (decide (a = 1) && decide (ret = some .boolean)) || (decide (a = 2) && decide (ret = some .byte))
  | .invokevirtual _ => (match jq_meth a with | some (_, y, _, _, _, _, stt, _, _) => decide (stt = false) && decide (y.cls = "java/lang/String") | none => false)
  | .invokestatic _ => Nat.beq a 9001 || Nat.beq a 9002 || (match jq_meth a with | some (_, _, _, _, _, _, stt, _, _) => decide (stt = true) | none => false)
  | i => jx_chkO i ret pc a b sw
def jq_need (own : String) (i : Instr) (a b : Nat) (sw : List (Int32 × Nat)) : List Cond := match i with
  | .getfield ix => [Jvm.Cond.fieldLink own ix "java/lang/String" (jq_fn b).1 (jq_fn b).2]
  | .getstatic ix => [Jvm.Cond.fieldLink own ix "java/lang/String" (jq_fn b).1 (jq_fn b).2]
  | .invokevirtual ix => (match jq_meth a with | some (_, y, _) => [Jvm.Cond.methodLink own ix y] | none => [])
  | .invokestatic ix => bif Nat.beq a 9001 then [Jvm.Cond.methodLink own ix Lib.Math.max.name, Jvm.Cond.static Lib.Math.max.name, Jvm.Cond.initialized "java/lang/Math", Jvm.Cond.code Lib.Math.max.name Lib.Math.max.code 2 (some .int)] else bif Nat.beq a 9002 then [Jvm.Cond.methodLink own ix Lib.Math.min.name, Jvm.Cond.static Lib.Math.min.name, Jvm.Cond.initialized "java/lang/Math", Jvm.Cond.code Lib.Math.min.name Lib.Math.min.code 2 (some .int)] else (match jq_meth a with | some (_, y, _) => [Jvm.Cond.methodLink own ix y] | none => [])
  | i => jx_need own i a b sw
def jq_len (i : Instr) : Nat := match i with
  | .getstatic _ => 3
  | i => jx_len i
def jq_chk (own : String) (bytes : ByteArray) (ret : Option FieldType) (pc : Nat) (e : jx_I) : Bool := match e with
  | (i, nx, a, b, sw, ws) => decide (decode bytes pc = .ok (i, jq_len i)) && decide (nx = pc + jq_len i) && jq_chkO i ret pc a b sw && jx_words (jq_need own i a b sw) ws
def jq_chkM (k : Nat) : Bool := match jq_meth k with
  | some (own, y, b, ml, ret, n, stt, c, ws) => jx_chkH (own, y, b, ml, ret, n, stt, c, ws) && c.all (fun r => r.all (fun q => jq_chk own b ret q.1 q.2))
  | none => false
theorem jqd_0 : jq_chkM 0 = true := by decide +kernel
theorem jqd_1 : jq_chkM 1 = true := by decide +kernel
theorem jqd_2 : jq_chkM 2 = true := by decide +kernel
theorem jqd_3 : jq_chkM 3 = true := by decide +kernel
theorem jqd_4 : jq_chkM 4 = true := by decide +kernel
theorem jqd_5 : jq_chkM 5 = true := by decide +kernel
theorem jqd_6 : jq_chkM 6 = true := by decide +kernel
theorem jqd_7 : jq_chkM 7 = true := by decide +kernel
