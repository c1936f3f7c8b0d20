/-! THE CONSTRUCTORS: their code, resolved (printed by wip/whole/gen_ctor.py), what is checked of it; a small machine that makes cells at its world's end -/
def jc_X0_init : jx_C := [[(0, .aload_n 0, 1, 0, 0, [], []), (1, .invokespecial 3, 4, 9999, 0, [], [140, 76, 77]), (4, .aload_n 0, 5, 0, 0, [], []), (5, .new 9, 8, 4, 0, [], [141, 85, 57]), (8, .dup, 9, 0, 0, [], []), (9, .bipush 6, 11, 0, 0, [(6, 0)], []), (11, .invokespecial 11, 14, 4, 0, [], [142]), (14, .putfield 14, 17, 0, 3, [], [180])],
  [(17, .aload_n 0, 18, 0, 0, [], []), (18, .new 9, 21, 4, 0, [], [141, 85, 57]), (21, .dup, 22, 0, 0, [], []), (22, .bipush 6, 24, 0, 0, [(6, 0)], []), (24, .invokespecial 11, 27, 4, 0, [], [142]), (27, .putfield 20, 30, 0, 4, [], [184]), (30, .aload_n 0, 31, 0, 0, [], []), (31, .new 9, 34, 4, 0, [], [141, 85, 57])],
  [(34, .dup, 35, 0, 0, [], []), (35, .iconst 4, 36, 0, 0, [(4, 0)], []), (36, .invokespecial 11, 39, 4, 0, [], [142]), (39, .putfield 23, 42, 0, 5, [], [186]), (42, .aload_n 0, 43, 0, 0, [], []), (43, .new 9, 46, 4, 0, [], [141, 85, 57]), (46, .dup, 47, 0, 0, [], []), (47, .bipush 6, 49, 0, 0, [(6, 0)], [])],
  [(49, .invokespecial 11, 52, 4, 0, [], [142]), (52, .putfield 26, 55, 0, 6, [], [189]), (55, .aload_n 0, 56, 0, 0, [], []), (56, .new 9, 59, 4, 0, [], [141, 85, 57]), (59, .dup, 60, 0, 0, [], []), (60, .bipush 6, 62, 0, 0, [(6, 0)], []), (62, .invokespecial 11, 65, 4, 0, [], [142])],
  [(65, .putfield 29, 68, 0, 7, [], [192]), (68, .aload_n 0, 69, 0, 0, [], []), (69, .new 32, 72, 5, 0, [], [143, 144, 61]), (72, .dup, 73, 0, 0, [], []), (73, .invokespecial 34, 76, 5, 1, [], [145]), (76, .putfield 35, 79, 0, 8, [], [195]), (79, .return_, 80, 0, 0, [], [])]]
def jc_X1_init : jx_C := [[(0, .aload_n 0, 1, 0, 0, [], []), (1, .invokespecial 3, 4, 9999, 0, [], [83, 76, 77]), (4, .aload_n 0, 5, 0, 0, [], []), (5, .new 9, 8, 4, 0, [], [84, 85, 57]), (8, .dup, 9, 0, 0, [], []), (9, .bipush 40, 11, 0, 0, [(40, 0)], []), (11, .invokespecial 11, 14, 4, 0, [], [86]), (14, .putfield 14, 17, 1, 0, [], [117])],
  [(17, .aload_n 0, 18, 0, 0, [], []), (18, .new 20, 21, 3, 0, [], [95, 96, 58]), (21, .dup, 22, 0, 0, [], []), (22, .invokespecial 22, 25, 3, 1, [], [97]), (25, .putfield 23, 28, 1, 2, [], [121]), (28, .return_, 29, 0, 0, [], [])]]
def jc_X2_init : jx_C := [[(0, .aload_n 0, 1, 0, 0, [], []), (1, .invokespecial 3, 4, 9999, 0, [], [134, 76, 77]), (4, .aload_n 0, 5, 0, 0, [], []), (5, .new 9, 8, 0, 0, [], [135, 136, 60]), (8, .dup, 9, 0, 0, [], []), (9, .invokespecial 11, 12, 0, 1, [], [137]), (12, .putfield 12, 15, 2, 0, [], [232]), (15, .aload_n 0, 16, 0, 0, [], [])],
  [(16, .new 18, 19, 4, 0, [], [230, 85, 57]), (19, .dup, 20, 0, 0, [], []), (20, .iconst 4, 21, 0, 0, [(4, 0)], []), (21, .invokespecial 20, 24, 4, 0, [], [231]), (24, .putfield 23, 27, 2, 7, [], [246]), (27, .aload_n 0, 28, 0, 0, [], []), (28, .new 18, 31, 4, 0, [], [230, 85, 57]), (31, .dup, 32, 0, 0, [], [])],
  [(32, .bipush 64, 34, 0, 0, [(64, 0)], []), (34, .invokespecial 20, 37, 4, 0, [], [231]), (37, .putfield 27, 40, 2, 8, [], [247]), (40, .aload_n 0, 41, 0, 0, [], []), (41, .new 18, 44, 4, 0, [], [230, 85, 57]), (44, .dup, 45, 0, 0, [], []), (45, .bipush 64, 47, 0, 0, [(64, 0)], []), (47, .invokespecial 20, 50, 4, 0, [], [231])],
  [(50, .putfield 30, 53, 2, 9, [], [248]), (53, .return_, 54, 0, 0, [], [])]]
def jc_X3_init : jx_C := [[(0, .aload_n 0, 1, 0, 0, [], []), (1, .invokespecial 3, 4, 9999, 0, [], [100, 76, 77]), (4, .return_, 5, 0, 0, [], [])]]
def jc_X4_init : jx_C := [[(0, .aload_n 0, 1, 0, 0, [], []), (1, .invokespecial 1, 4, 9999, 0, [], [89, 76, 77]), (4, .aload_n 0, 5, 0, 0, [], []), (5, .iload_n 1, 6, 0, 0, [], []), (6, .ifCond .le 7, 9, 13, 0, [], []), (9, .iload_n 1, 10, 0, 0, [], []), (10, .goto 4, 13, 14, 0, [], []), (13, .iconst 0, 14, 0, 0, [(0, 0)], []), (14, .newarray .int, 16, 0, 0, [], [94])],
  [(16, .putfield 7, 19, 4, 0, [], [90]), (19, .return_, 20, 0, 0, [], [])]]
def jc_X5_init : jx_C := [[(0, .aload_n 0, 1, 0, 0, [], []), (1, .invokespecial 3, 4, 9999, 0, [], [148, 76, 77]), (4, .aload_n 0, 5, 0, 0, [], []), (5, .new 9, 8, 4, 0, [], [149, 85, 57]), (8, .dup, 9, 0, 0, [], []), (9, .bipush 6, 11, 0, 0, [(6, 0)], []), (11, .invokespecial 11, 14, 4, 0, [], [150]), (14, .putfield 14, 17, 5, 1, [], [154])],
  [(17, .aload_n 0, 18, 0, 0, [], []), (18, .new 9, 21, 4, 0, [], [149, 85, 57]), (21, .dup, 22, 0, 0, [], []), (22, .bipush 6, 24, 0, 0, [(6, 0)], []), (24, .invokespecial 11, 27, 4, 0, [], [150]), (27, .putfield 20, 30, 5, 2, [], [156]), (30, .aload_n 0, 31, 0, 0, [], []), (31, .new 9, 34, 4, 0, [], [149, 85, 57])],
  [(34, .dup, 35, 0, 0, [], []), (35, .bipush 6, 37, 0, 0, [(6, 0)], []), (37, .invokespecial 11, 40, 4, 0, [], [150]), (40, .putfield 23, 43, 5, 3, [], [158]), (43, .return_, 44, 0, 0, [], [])]]
def jc_X6_init : jx_C := [[(0, .aload_n 0, 1, 0, 0, [], []), (1, .invokespecial 1, 4, 9999, 0, [], [75, 76, 77]), (4, .aload_n 0, 5, 0, 0, [], []), (5, .new 7, 8, 1, 0, [], [78, 79, 56]), (8, .dup, 9, 0, 0, [], []), (9, .invokespecial 9, 12, 1, 1, [], [80]), (12, .putfield 10, 15, 6, 0, [], [272]), (15, .aload_n 0, 16, 0, 0, [], [])],
  [(16, .new 16, 19, 2, 0, [], [129, 130, 59]), (19, .dup, 20, 0, 0, [], []), (20, .invokespecial 18, 23, 2, 1, [], [131]), (23, .putfield 19, 26, 6, 1, [], [273]), (26, .aload_n 0, 27, 0, 0, [], []), (27, .aload_n 0, 28, 0, 0, [], []), (28, .getfield 19, 31, 6, 1, [], [273]), (31, .getfield 23, 34, 2, 0, [], [233])],
  [(34, .putfield 27, 37, 6, 2, [], [274]), (37, .aload_n 0, 38, 0, 0, [], []), (38, .new 30, 41, 0, 0, [], [270, 136, 60]), (41, .dup, 42, 0, 0, [], []), (42, .invokespecial 32, 45, 0, 1, [], [271]), (45, .putfield 33, 48, 6, 3, [], [275])],
  [(48, .return_, 49, 0, 0, [], [])]]
def jc_X7_init : jx_C := [[(0, .aload_n 0, 1, 0, 0, [], []), (1, .invokespecial 1, 4, 9999, 0, [], [785, 76, 77]), (4, .aload_n 0, 5, 0, 0, [], []), (5, .bipush 6, 7, 0, 0, [(6, 0)], []), (7, .newarray .int, 9, 0, 0, [], [94]), (9, .putfield 7, 12, 7, 4, [], [790]), (12, .aload_n 0, 13, 0, 0, [], []), (13, .bipush 6, 15, 0, 0, [(6, 0)], []), (15, .newarray .int, 17, 0, 0, [], [94])],
  [(17, .putfield 13, 20, 7, 5, [], [791]), (20, .aload_n 0, 21, 0, 0, [], []), (21, .iconst 4, 22, 0, 0, [(4, 0)], []), (22, .newarray .int, 24, 0, 0, [], [94]), (24, .putfield 16, 27, 7, 6, [], [792]), (27, .aload_n 0, 28, 0, 0, [], []), (28, .bipush 6, 30, 0, 0, [(6, 0)], []), (30, .newarray .int, 32, 0, 0, [], [94])],
  [(32, .putfield 19, 35, 7, 7, [], [793]), (35, .aload_n 0, 36, 0, 0, [], []), (36, .bipush 6, 38, 0, 0, [(6, 0)], []), (38, .newarray .int, 40, 0, 0, [], [94]), (40, .putfield 22, 43, 7, 8, [], [794]), (43, .aload_n 0, 44, 0, 0, [], []), (44, .bipush 6, 46, 0, 0, [(6, 0)], []), (46, .newarray .int, 48, 0, 0, [], [94])],
  [(48, .putfield 25, 51, 7, 9, [], [795]), (51, .aload_n 0, 52, 0, 0, [], []), (52, .bipush 6, 54, 0, 0, [(6, 0)], []), (54, .newarray .int, 56, 0, 0, [], [94]), (56, .putfield 28, 59, 7, 14, [], [800]), (59, .aload_n 0, 60, 0, 0, [], []), (60, .bipush 6, 62, 0, 0, [(6, 0)], []), (62, .newarray .int, 64, 0, 0, [], [94])],
  [(64, .putfield 31, 67, 7, 15, [], [801]), (67, .aload_n 0, 68, 0, 0, [], []), (68, .bipush 6, 70, 0, 0, [(6, 0)], []), (70, .newarray .int, 72, 0, 0, [], [94]), (72, .putfield 34, 75, 7, 16, [], [802]), (75, .aload_n 0, 76, 0, 0, [], []), (76, .bipush 40, 78, 0, 0, [(40, 0)], []), (78, .newarray .byte, 80, 1, 0, [], [447])],
  [(80, .putfield 37, 83, 7, 18, [], [804]), (83, .aload_n 0, 84, 0, 0, [], []), (84, .bipush 6, 86, 0, 0, [(6, 0)], []), (86, .newarray .int, 88, 0, 0, [], [94]), (88, .putfield 41, 91, 7, 24, [], [810]), (91, .aload_n 0, 92, 0, 0, [], []), (92, .bipush 6, 94, 0, 0, [(6, 0)], []), (94, .newarray .int, 96, 0, 0, [], [94])],
  [(96, .putfield 44, 99, 7, 25, [], [811]), (99, .aload_n 0, 100, 0, 0, [], []), (100, .bipush 6, 102, 0, 0, [(6, 0)], []), (102, .newarray .int, 104, 0, 0, [], [94]), (104, .putfield 47, 107, 7, 26, [], [812]), (107, .aload_n 0, 108, 0, 0, [], []), (108, .bipush 6, 110, 0, 0, [(6, 0)], []), (110, .newarray .int, 112, 0, 0, [], [94])],
  [(112, .putfield 50, 115, 7, 27, [], [813]), (115, .aload_n 0, 116, 0, 0, [], []), (116, .bipush 6, 118, 0, 0, [(6, 0)], []), (118, .newarray .int, 120, 0, 0, [], [94]), (120, .putfield 53, 123, 7, 28, [], [814]), (123, .aload_n 0, 124, 0, 0, [], []), (124, .sipush 341, 127, 0, 0, [(341, 0)], []), (127, .newarray .int, 129, 0, 0, [], [94])],
  [(129, .putfield 56, 132, 7, 29, [], [815]), (132, .aload_n 0, 133, 0, 0, [], []), (133, .bipush 6, 135, 0, 0, [(6, 0)], []), (135, .newarray .int, 137, 0, 0, [], [94]), (137, .putfield 59, 140, 7, 36, [], [822]), (140, .aload_n 0, 141, 0, 0, [], []), (141, .bipush 6, 143, 0, 0, [(6, 0)], []), (143, .newarray .int, 145, 0, 0, [], [94])],
  [(145, .putfield 62, 148, 7, 37, [], [823]), (148, .aload_n 0, 149, 0, 0, [], []), (149, .iconst 4, 150, 0, 0, [(4, 0)], []), (150, .newarray .int, 152, 0, 0, [], [94]), (152, .putfield 65, 155, 7, 38, [], [824]), (155, .aload_n 0, 156, 0, 0, [], []), (156, .bipush 6, 158, 0, 0, [(6, 0)], []), (158, .newarray .int, 160, 0, 0, [], [94])],
  [(160, .putfield 68, 163, 7, 39, [], [825]), (163, .aload_n 0, 164, 0, 0, [], []), (164, .bipush 6, 166, 0, 0, [(6, 0)], []), (166, .newarray .int, 168, 0, 0, [], [94]), (168, .putfield 71, 171, 7, 40, [], [826]), (171, .aload_n 0, 172, 0, 0, [], []), (172, .bipush 6, 174, 0, 0, [(6, 0)], []), (174, .newarray .int, 176, 0, 0, [], [94])],
  [(176, .putfield 74, 179, 7, 41, [], [827]), (179, .aload_n 0, 180, 0, 0, [], []), (180, .bipush 6, 182, 0, 0, [(6, 0)], []), (182, .newarray .int, 184, 0, 0, [], [94]), (184, .putfield 77, 187, 7, 42, [], [828]), (187, .aload_n 0, 188, 0, 0, [], []), (188, .bipush 6, 190, 0, 0, [(6, 0)], []), (190, .newarray .int, 192, 0, 0, [], [94])],
  [(192, .putfield 80, 195, 7, 43, [], [829]), (195, .return_, 196, 0, 0, [], [])]]
def ja_ms : List jx_M := [(RX0, yX0_init, cX0_init, 1, none, 0, false, jc_X0_init, [60, 139, 138]),
  (RX1, yX1_init, cX1_init, 1, none, 0, false, jc_X1_init, [56, 82, 81]),
  (RX2, yX2_init, cX2_init, 1, none, 0, false, jc_X2_init, [59, 133, 132]),
  (RX3, yX3_init, cX3_init, 1, none, 0, false, jc_X3_init, [58, 99, 98]),
  (RX4, yX4_init, cX4_init, 2, none, 1, false, jc_X4_init, [57, 88, 87]),
  (RX5, yX5_init, cX5_init, 1, none, 0, false, jc_X5_init, [61, 147, 146]),
  (RX6, yX6_init, cX6_init, 1, none, 0, false, jc_X6_init, [55, 74, 73]),
  (RX7, yX7_init, cX7_init, 1, none, 0, false, jc_X7_init, [62, 784, 783])]
def ja_meth (k : Nat) : Option jx_M := jx_get ja_ms k
abbrev jk_X0_init : Nat := 0
abbrev jk_X1_init : Nat := 1
abbrev jk_X2_init : Nat := 2
abbrev jk_X3_init : Nat := 3
abbrev jk_X4_init : Nat := 4
abbrev jk_X5_init : Nat := 5
abbrev jk_X6_init : Nat := 6
abbrev jk_X7_init : Nat := 7
def ja_def (ci : Nat) : List Value := match ci with
  | 0 => [.int 0, .int 0, .int 0, .null, .null, .null, .null, .null, .null, .int 0, .int 0, .int 0]
  | 1 => [.null, .int 0, .null]
  | 2 => [.null, .int 0, .int 0, .int 0, .int 0, .int 0, .long 0, .null, .null, .null]
  | 3 => [.int 0, .int 0, .int 0, .int 0]
  | 4 => [.null]
  | 5 => [.int 0, .null, .null, .null]
  | 6 => [.null, .null, .null, .null, .int 0, .int 0, .int 0]
  | 7 => [.int 0, .int 0, .int 0, .int 0, .null, .null, .null, .null, .null, .null, .int 0, .int 0, .int 0, .int 0, .null, .null, .null, .int 0, .null, .int 0, .int 0, .int 0, .int 0, .int 0, .null, .null, .null, .null, .null, .null, .long 0, .int 0, .int 0, .int 0, .int 0, .int 0, .null, .null, .null, .null, .null, .null, .null, .null, .long 0]
  | _ => []
def ja_size (ci : Nat) : Nat := (ja_def ci).length
def ja_chkO (i : Instr) (pc a b : Nat) (sw : List (Int32 × Nat)) : Bool := match i with
  | .new _ => (match jx_get vwCl a with | some (_, _, N) => decide (N = ja_size a) | none => false)
  | .newarray t => (decide (a = 0) && decide (t = .int)) || (decide (a = 1) && decide (t = .byte))
  | .putfield _ => (match jx_get vwCl a with | some (_, T, N) => decide (b < N) && decide ((T b).2.2.2 = true) && (match parseFieldDescriptor (T b).2.2.1 with | some (.object _) => true | some (.array _) => true | _ => false) | none => false)
  | i => jx_chkO i none pc a b sw
def ja_need (own : String) (i : Instr) (a b : Nat) (sw : List (Int32 × Nat)) : List Cond := match i with
  | .new ix => (match jx_get vwCl a with | some (C, _, N) => [Jvm.Cond.classLink own ix C, Jvm.Cond.instantiable C N, Jvm.Cond.initialized C] | none => [])
  | .newarray t => [Jvm.Cond.arrayClass (newarray.typeOf t)]
  | .invokespecial ix => bif Nat.beq a 9999 then [Jvm.Cond.methodLink own ix objectInit, Jvm.Cond.instanceMethod objectInit, Jvm.Cond.code objectInit ⟨#[0xb1]⟩ 1 none] else (match ja_meth a with | some (_, y, _) => [bif Nat.beq b 0 then Jvm.Cond.methodLink own ix y else Jvm.Cond.methodLinkNest own ix y RX6] | none => [])
  | i => jx_need own i a b sw
def ja_len (i : Instr) : Nat := match i with
  | .new _ => 3 | .newarray _ => 2 | .invokespecial _ => 3
  | i => jx_len i
def ja_chk (own : String) (bytes : ByteArray) (pc : Nat) (e : jx_I) : Bool := match e with
  | (i, nx, a, b, sw, ws) => decide (decode bytes pc = .ok (i, ja_len i)) && decide (nx = pc + ja_len i) && ja_chkO i pc a b sw && jx_words (ja_need own i a b sw) ws
def ja_chkH (M : jx_M) : Bool := match M with
  | (own, y, bytes, ml, _, n, _, _, ws) => plainName y.cls && decide (own = y.cls) && decide (y.name = "<init>") && decide (y.cls ≠ "java/lang/invoke/MethodHandle") && decide (y.cls ≠ "java/lang/invoke/VarHandle") && decide ((parseMethodDescriptor y.desc).map (fun d => d.parameters.length) = some n) && decide (ml ≤ 20) && jx_words [Jvm.Cond.initialized y.cls, Jvm.Cond.code y bytes ml none, Jvm.Cond.instanceMethod y] ws
def ja_chkC (M : jx_M) : Bool := match M with
  | (own, _, bytes, _, _, _, _, c, _) => c.all (fun r => r.all (fun q => ja_chk own bytes q.1 q.2))
def ja_chkM (k : Nat) : Bool := match ja_meth k with
  | some M => ja_chkH M && ja_chkC M
  | none => false
theorem jqa_0 : ja_chkM 0 = true := by decide +kernel
theorem jqa_1 : ja_chkM 1 = true := by decide +kernel
theorem jqa_2 : ja_chkM 2 = true := by decide +kernel
theorem jqa_3 : ja_chkM 3 = true := by decide +kernel
theorem jqa_4 : ja_chkM 4 = true := by decide +kernel
theorem jqa_5 : ja_chkM 5 = true := by decide +kernel
theorem jqa_6 : ja_chkM 6 = true := by decide +kernel
theorem jqa_7 : ja_chkM 7 = true := by decide +kernel
theorem jqa_of {k : Nat} {M : jx_M} (h : ja_meth k = some M) : ja_chkH M = true ∧ ja_chkC M = true := by
  have h2 : ja_chkM k = true := by
    match k, h with
    | 0, _ => exact jqa_0
    | 1, _ => exact jqa_1
    | 2, _ => exact jqa_2
    | 3, _ => exact jqa_3
    | 4, _ => exact jqa_4
    | 5, _ => exact jqa_5
    | 6, _ => exact jqa_6
    | 7, _ => exact jqa_7
    | n + 8, h => cases h
  unfold ja_chkM at h2
  rw [h] at h2
  simpa only [Bool.and_eq_true] using h2
theorem ja_defs {ci : Nat} {C : String} {T : u_T} {N : Nat} (h : jx_get vwCl ci = some (C, T, N)) : ∃ ty : Nat → FieldType, (∀ k, k < N → parseFieldDescriptor (T k).2.2.1 = some (ty k)) ∧ ∀ j, j < N → defaultValue (ty j) = vp_V (ja_def ci) j := by
  match ci, h with
  | 0, h => cases h; exact ⟨tyX0, tyX0_ok, by decide +kernel⟩
  | 1, h => cases h; exact ⟨tyX1, tyX1_ok, by decide +kernel⟩
  | 2, h => cases h; exact ⟨tyX2, tyX2_ok, by decide +kernel⟩
  | 3, h => cases h; exact ⟨tyX3, tyX3_ok, by decide +kernel⟩
  | 4, h => cases h; exact ⟨tyX4, tyX4_ok, by decide +kernel⟩
  | 5, h => cases h; exact ⟨tyX5, tyX5_ok, by decide +kernel⟩
  | 6, h => cases h; exact ⟨tyX6, tyX6_ok, by decide +kernel⟩
  | 7, h => cases h; exact ⟨tyX7, tyX7_ok, by decide +kernel⟩
  | n + 8, h => cases h
theorem ja_def_ref (ad : Nat → Nat) (ci : Nat) : (ja_def ci).map (jx_xv ad) = ja_def ci := by
  match ci with
  | 0 => rfl
  | 1 => rfl
  | 2 => rfl
  | 3 => rfl
  | 4 => rfl
  | 5 => rfl
  | 6 => rfl
  | 7 => rfl
  | n + 8 => rfl
