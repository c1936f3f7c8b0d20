/-! THE CONSTRUCTORS: their code, resolved (printed by wip/whole/gen_ctor.py), what is checked of it; a small machine that makes cells at its world's end -/
def jc_X0_init : jx_C := [[(0, .aload_n 0, 1, 0, 0, [], []), (1, .invokespecial 3, 4, 9999, 0, [], [135, 77, 78]), (4, .aload_n 0, 5, 0, 0, [], []), (5, .new 9, 8, 4, 0, [], [136, 86, 57]), (8, .dup, 9, 0, 0, [], []), (9, .bipush 6, 11, 0, 0, [(6, 0)], []), (11, .invokespecial 11, 14, 4, 0, [], [137]), (14, .putfield 14, 17, 0, 3, [], [176])],
  [(17, .aload_n 0, 18, 0, 0, [], []), (18, .new 9, 21, 4, 0, [], [136, 86, 57]), (21, .dup, 22, 0, 0, [], []), (22, .bipush 6, 24, 0, 0, [(6, 0)], []), (24, .invokespecial 11, 27, 4, 0, [], [137]), (27, .putfield 20, 30, 0, 4, [], [180]), (30, .aload_n 0, 31, 0, 0, [], []), (31, .new 9, 34, 4, 0, [], [136, 86, 57])],
  [(34, .dup, 35, 0, 0, [], []), (35, .iconst 4, 36, 0, 0, [(4, 0)], []), (36, .invokespecial 11, 39, 4, 0, [], [137]), (39, .putfield 23, 42, 0, 5, [], [182]), (42, .aload_n 0, 43, 0, 0, [], []), (43, .new 9, 46, 4, 0, [], [136, 86, 57]), (46, .dup, 47, 0, 0, [], []), (47, .bipush 6, 49, 0, 0, [(6, 0)], [])],
  [(49, .invokespecial 11, 52, 4, 0, [], [137]), (52, .putfield 26, 55, 0, 6, [], [185]), (55, .aload_n 0, 56, 0, 0, [], []), (56, .new 9, 59, 4, 0, [], [136, 86, 57]), (59, .dup, 60, 0, 0, [], []), (60, .bipush 6, 62, 0, 0, [(6, 0)], []), (62, .invokespecial 11, 65, 4, 0, [], [137])],
  [(65, .putfield 29, 68, 0, 7, [], [188]), (68, .aload_n 0, 69, 0, 0, [], []), (69, .new 32, 72, 6, 0, [], [138, 139, 60]), (72, .dup, 73, 0, 0, [], []), (73, .invokespecial 34, 76, 6, 1, [], [140]), (76, .putfield 35, 79, 0, 8, [], [191]), (79, .return_, 80, 0, 0, [], [])]]
def jc_X1_init : jx_C := [[(0, .aload_n 0, 1, 0, 0, [], []), (1, .invokespecial 3, 4, 9999, 0, [], [84, 77, 78]), (4, .aload_n 0, 5, 0, 0, [], []), (5, .new 9, 8, 4, 0, [], [85, 86, 57]), (8, .dup, 9, 0, 0, [], []), (9, .bipush 40, 11, 0, 0, [(40, 0)], []), (11, .invokespecial 11, 14, 4, 0, [], [87]), (14, .putfield 14, 17, 1, 0, [], [118])],
  [(17, .aload_n 0, 18, 0, 0, [], []), (18, .new 20, 21, 3, 0, [], [96, 97, 58]), (21, .dup, 22, 0, 0, [], []), (22, .invokespecial 22, 25, 3, 1, [], [98]), (25, .putfield 23, 28, 1, 2, [], [122]), (28, .return_, 29, 0, 0, [], [])]]
def jc_X2_init : jx_C := [[(0, .aload_n 0, 1, 0, 0, [], []), (1, .invokespecial 3, 4, 9999, 0, [], [232, 77, 78]), (4, .aload_n 0, 5, 0, 0, [], []), (5, .new 9, 8, 4, 0, [], [233, 86, 57]), (8, .dup, 9, 0, 0, [], []), (9, .iconst 4, 10, 0, 0, [(4, 0)], []), (10, .invokespecial 11, 13, 4, 0, [], [234]), (13, .putfield 14, 16, 2, 4, [], [242])],
  [(16, .aload_n 0, 17, 0, 0, [], []), (17, .new 9, 20, 4, 0, [], [233, 86, 57]), (20, .dup, 21, 0, 0, [], []), (21, .bipush 64, 23, 0, 0, [(64, 0)], []), (23, .invokespecial 11, 26, 4, 0, [], [234]), (26, .putfield 20, 29, 2, 5, [], [243]), (29, .aload_n 0, 30, 0, 0, [], []), (30, .new 9, 33, 4, 0, [], [233, 86, 57])],
  [(33, .dup, 34, 0, 0, [], []), (34, .bipush 64, 36, 0, 0, [(64, 0)], []), (36, .invokespecial 11, 39, 4, 0, [], [234]), (39, .putfield 23, 42, 2, 6, [], [244]), (42, .aload_n 0, 43, 0, 0, [], []), (43, .aload_n 1, 44, 0, 0, [], []), (44, .putfield 26, 47, 2, 0, [], [235]), (47, .return_, 48, 0, 0, [], [])]]
def jc_X3_init : jx_C := [[(0, .aload_n 0, 1, 0, 0, [], []), (1, .invokespecial 3, 4, 9999, 0, [], [101, 77, 78]), (4, .return_, 5, 0, 0, [], [])]]
def jc_X4_init : jx_C := [[(0, .aload_n 0, 1, 0, 0, [], []), (1, .invokespecial 1, 4, 9999, 0, [], [90, 77, 78]), (4, .aload_n 0, 5, 0, 0, [], []), (5, .iload_n 1, 6, 0, 0, [], []), (6, .ifCond .le 7, 9, 13, 0, [], []), (9, .iload_n 1, 10, 0, 0, [], []), (10, .goto 4, 13, 14, 0, [], []), (13, .iconst 0, 14, 0, 0, [(0, 0)], []), (14, .newarray .int, 16, 0, 0, [], [95])],
  [(16, .putfield 7, 19, 4, 0, [], [91]), (19, .return_, 20, 0, 0, [], [])]]
def jc_X5_init : jx_C := [[(0, .aload_n 0, 1, 0, 0, [], []), (1, .invokespecial 3, 4, 9999, 0, [], [265, 77, 78]), (4, .aload_n 0, 5, 0, 0, [], []), (5, .aload_n 1, 6, 0, 0, [], []), (6, .putfield 9, 9, 5, 0, [], [266]), (9, .return_, 10, 0, 0, [], [])]]
def jc_X6_init : jx_C := [[(0, .aload_n 0, 1, 0, 0, [], []), (1, .invokespecial 3, 4, 9999, 0, [], [143, 77, 78]), (4, .aload_n 0, 5, 0, 0, [], []), (5, .new 9, 8, 4, 0, [], [144, 86, 57]), (8, .dup, 9, 0, 0, [], []), (9, .bipush 6, 11, 0, 0, [(6, 0)], []), (11, .invokespecial 11, 14, 4, 0, [], [145]), (14, .putfield 14, 17, 6, 1, [], [149])],
  [(17, .aload_n 0, 18, 0, 0, [], []), (18, .new 9, 21, 4, 0, [], [144, 86, 57]), (21, .dup, 22, 0, 0, [], []), (22, .bipush 6, 24, 0, 0, [(6, 0)], []), (24, .invokespecial 11, 27, 4, 0, [], [145]), (27, .putfield 20, 30, 6, 2, [], [151]), (30, .aload_n 0, 31, 0, 0, [], []), (31, .new 9, 34, 4, 0, [], [144, 86, 57])],
  [(34, .dup, 35, 0, 0, [], []), (35, .bipush 6, 37, 0, 0, [(6, 0)], []), (37, .invokespecial 11, 40, 4, 0, [], [145]), (40, .putfield 23, 43, 6, 3, [], [153]), (43, .return_, 44, 0, 0, [], [])]]
def jc_X7_init : jx_C := [[(0, .aload_n 0, 1, 0, 0, [], []), (1, .invokespecial 1, 4, 9999, 0, [], [76, 77, 78]), (4, .aload_n 0, 5, 0, 0, [], []), (5, .new 7, 8, 1, 0, [], [79, 80, 56]), (8, .dup, 9, 0, 0, [], []), (9, .invokespecial 9, 12, 1, 1, [], [81]), (12, .putfield 10, 15, 7, 0, [], [282]), (15, .aload_n 0, 16, 0, 0, [], [])],
  [(16, .new 16, 19, 0, 0, [], [130, 131, 59]), (19, .dup, 20, 0, 0, [], []), (20, .invokespecial 18, 23, 0, 1, [], [132]), (23, .putfield 19, 26, 7, 1, [], [283]), (26, .aload_n 0, 27, 0, 0, [], []), (27, .new 16, 30, 0, 0, [], [130, 131, 59]), (30, .dup, 31, 0, 0, [], []), (31, .invokespecial 18, 34, 0, 1, [], [132])],
  [(34, .putfield 23, 37, 7, 2, [], [284]), (37, .aload_n 0, 38, 0, 0, [], []), (38, .new 26, 41, 2, 0, [], [227, 228, 61]), (41, .dup, 42, 0, 0, [], []), (42, .aload_n 0, 43, 0, 0, [], []), (43, .getfield 19, 46, 7, 1, [], [283]), (46, .invokespecial 28, 49, 2, 0, [], [229])],
  [(49, .putfield 31, 52, 7, 3, [], [285]), (52, .aload_n 0, 53, 0, 0, [], []), (53, .new 35, 56, 5, 0, [], [260, 261, 62]), (56, .dup, 57, 0, 0, [], []), (57, .aload_n 0, 58, 0, 0, [], []), (58, .getfield 19, 61, 7, 1, [], [283]), (61, .invokespecial 37, 64, 5, 0, [], [262])],
  [(64, .putfield 38, 67, 7, 4, [], [286]), (67, .return_, 68, 0, 0, [], [])]]
def jc_X8_init : jx_C := [[(0, .aload_n 0, 1, 0, 0, [], []), (1, .invokespecial 1, 4, 9999, 0, [], [800, 77, 78]), (4, .aload_n 0, 5, 0, 0, [], []), (5, .bipush 6, 7, 0, 0, [(6, 0)], []), (7, .newarray .int, 9, 0, 0, [], [95]), (9, .putfield 7, 12, 8, 4, [], [805]), (12, .aload_n 0, 13, 0, 0, [], []), (13, .bipush 6, 15, 0, 0, [(6, 0)], []), (15, .newarray .int, 17, 0, 0, [], [95])],
  [(17, .putfield 13, 20, 8, 5, [], [806]), (20, .aload_n 0, 21, 0, 0, [], []), (21, .iconst 4, 22, 0, 0, [(4, 0)], []), (22, .newarray .int, 24, 0, 0, [], [95]), (24, .putfield 16, 27, 8, 6, [], [807]), (27, .aload_n 0, 28, 0, 0, [], []), (28, .bipush 6, 30, 0, 0, [(6, 0)], []), (30, .newarray .int, 32, 0, 0, [], [95])],
  [(32, .putfield 19, 35, 8, 7, [], [808]), (35, .aload_n 0, 36, 0, 0, [], []), (36, .bipush 6, 38, 0, 0, [(6, 0)], []), (38, .newarray .int, 40, 0, 0, [], [95]), (40, .putfield 22, 43, 8, 8, [], [809]), (43, .aload_n 0, 44, 0, 0, [], []), (44, .bipush 6, 46, 0, 0, [(6, 0)], []), (46, .newarray .int, 48, 0, 0, [], [95])],
  [(48, .putfield 25, 51, 8, 9, [], [810]), (51, .aload_n 0, 52, 0, 0, [], []), (52, .bipush 6, 54, 0, 0, [(6, 0)], []), (54, .newarray .int, 56, 0, 0, [], [95]), (56, .putfield 28, 59, 8, 14, [], [815]), (59, .aload_n 0, 60, 0, 0, [], []), (60, .bipush 6, 62, 0, 0, [(6, 0)], []), (62, .newarray .int, 64, 0, 0, [], [95])],
  [(64, .putfield 31, 67, 8, 15, [], [816]), (67, .aload_n 0, 68, 0, 0, [], []), (68, .bipush 6, 70, 0, 0, [(6, 0)], []), (70, .newarray .int, 72, 0, 0, [], [95]), (72, .putfield 34, 75, 8, 16, [], [817]), (75, .aload_n 0, 76, 0, 0, [], []), (76, .bipush 40, 78, 0, 0, [(40, 0)], []), (78, .newarray .byte, 80, 1, 0, [], [460])],
  [(80, .putfield 37, 83, 8, 18, [], [819]), (83, .aload_n 0, 84, 0, 0, [], []), (84, .bipush 6, 86, 0, 0, [(6, 0)], []), (86, .newarray .int, 88, 0, 0, [], [95]), (88, .putfield 41, 91, 8, 24, [], [825]), (91, .aload_n 0, 92, 0, 0, [], []), (92, .bipush 6, 94, 0, 0, [(6, 0)], []), (94, .newarray .int, 96, 0, 0, [], [95])],
  [(96, .putfield 44, 99, 8, 25, [], [826]), (99, .aload_n 0, 100, 0, 0, [], []), (100, .bipush 6, 102, 0, 0, [(6, 0)], []), (102, .newarray .int, 104, 0, 0, [], [95]), (104, .putfield 47, 107, 8, 26, [], [827]), (107, .aload_n 0, 108, 0, 0, [], []), (108, .bipush 6, 110, 0, 0, [(6, 0)], []), (110, .newarray .int, 112, 0, 0, [], [95])],
  [(112, .putfield 50, 115, 8, 27, [], [828]), (115, .aload_n 0, 116, 0, 0, [], []), (116, .bipush 6, 118, 0, 0, [(6, 0)], []), (118, .newarray .int, 120, 0, 0, [], [95]), (120, .putfield 53, 123, 8, 28, [], [829]), (123, .aload_n 0, 124, 0, 0, [], []), (124, .sipush 341, 127, 0, 0, [(341, 0)], []), (127, .newarray .int, 129, 0, 0, [], [95])],
  [(129, .putfield 56, 132, 8, 29, [], [830]), (132, .aload_n 0, 133, 0, 0, [], []), (133, .bipush 6, 135, 0, 0, [(6, 0)], []), (135, .newarray .int, 137, 0, 0, [], [95]), (137, .putfield 59, 140, 8, 36, [], [837]), (140, .aload_n 0, 141, 0, 0, [], []), (141, .bipush 6, 143, 0, 0, [(6, 0)], []), (143, .newarray .int, 145, 0, 0, [], [95])],
  [(145, .putfield 62, 148, 8, 37, [], [838]), (148, .aload_n 0, 149, 0, 0, [], []), (149, .iconst 4, 150, 0, 0, [(4, 0)], []), (150, .newarray .int, 152, 0, 0, [], [95]), (152, .putfield 65, 155, 8, 38, [], [839]), (155, .aload_n 0, 156, 0, 0, [], []), (156, .bipush 6, 158, 0, 0, [(6, 0)], []), (158, .newarray .int, 160, 0, 0, [], [95])],
  [(160, .putfield 68, 163, 8, 39, [], [840]), (163, .aload_n 0, 164, 0, 0, [], []), (164, .bipush 6, 166, 0, 0, [(6, 0)], []), (166, .newarray .int, 168, 0, 0, [], [95]), (168, .putfield 71, 171, 8, 40, [], [841]), (171, .aload_n 0, 172, 0, 0, [], []), (172, .bipush 6, 174, 0, 0, [(6, 0)], []), (174, .newarray .int, 176, 0, 0, [], [95])],
  [(176, .putfield 74, 179, 8, 41, [], [842]), (179, .aload_n 0, 180, 0, 0, [], []), (180, .bipush 6, 182, 0, 0, [(6, 0)], []), (182, .newarray .int, 184, 0, 0, [], [95]), (184, .putfield 77, 187, 8, 42, [], [843]), (187, .aload_n 0, 188, 0, 0, [], []), (188, .bipush 6, 190, 0, 0, [(6, 0)], []), (190, .newarray .int, 192, 0, 0, [], [95])],
  [(192, .putfield 80, 195, 8, 43, [], [844]), (195, .return_, 196, 0, 0, [], [])]]
def ja_ms : List jx_M := [(RX0, yX0_init, cX0_init, 1, none, 0, false, jc_X0_init, [59, 134, 133]),
  (RX1, yX1_init, cX1_init, 1, none, 0, false, jc_X1_init, [56, 83, 82]),
  (RX2, yX2_init, cX2_init, 2, none, 1, false, jc_X2_init, [61, 231, 230]),
  (RX3, yX3_init, cX3_init, 1, none, 0, false, jc_X3_init, [58, 100, 99]),
  (RX4, yX4_init, cX4_init, 2, none, 1, false, jc_X4_init, [57, 89, 88]),
  (RX5, yX5_init, cX5_init, 2, none, 1, false, jc_X5_init, [62, 264, 263]),
  (RX6, yX6_init, cX6_init, 1, none, 0, false, jc_X6_init, [60, 142, 141]),
  (RX7, yX7_init, cX7_init, 1, none, 0, false, jc_X7_init, [55, 75, 74]),
  (RX8, yX8_init, cX8_init, 1, none, 0, false, jc_X8_init, [63, 799, 798])]
def ja_meth (k : Nat) : Option jx_M := jx_get ja_ms k
abbrev jk_X0_init : Nat := 0
abbrev jk_X1_init : Nat := 1
abbrev jk_X2_init : Nat := 2
abbrev jk_X3_init : Nat := 3
abbrev jk_X4_init : Nat := 4
abbrev jk_X5_init : Nat := 5
abbrev jk_X6_init : Nat := 6
abbrev jk_X7_init : Nat := 7
abbrev jk_X8_init : Nat := 8
def ja_def (ci : Nat) : List Value := match ci with
  | 0 => [.int 0, .int 0, .int 0, .null, .null, .null, .null, .null, .null, .int 0, .int 0, .int 0]
  | 1 => [.null, .int 0, .null]
  | 2 => [.null, .int 0, .int 0, .int 0, .null, .null, .null]
  | 3 => [.int 0, .int 0, .int 0, .int 0]
  | 4 => [.null]
  | 5 => [.null, .int 0, .int 0, .long 0]
  | 6 => [.int 0, .null, .null, .null]
  | 7 => [.null, .null, .null, .null, .null, .int 0, .int 0, .int 0]
  | 8 => [.int 0, .int 0, .int 0, .int 0, .null, .null, .null, .null, .null, .null, .int 0, .int 0, .int 0, .int 0, .null, .null, .null, .int 0, .null, .int 0, .int 0, .int 0, .int 0, .int 0, .null, .null, .null, .null, .null, .null, .long 0, .int 0, .int 0, .int 0, .int 0, .int 0, .null, .null, .null, .null, .null, .null, .null, .null, .long 0]
  | _ => []
def ja_size (ci : Nat) : Nat := (ja_def ci).length
def ja_chkO (i : Instr) (pc a b : Nat) (sw : List (Int32 × Nat)) : Bool := match i with
  | .new _ => (match jx_get vwCl a with | some (_, _, N) => decide (N = ja_size a) | none => false)
  | .newarray t => (decide (a = 0) && decide (t = .int)) || (decide (a = 1) && decide (t = .byte))
  | .putfield _ => (match jx_get vwCl a with | some (_, T, N) => decide (b < N) && decide ((T b).2.2.2 = true) && (match parseFieldDescriptor (T b).2.2.1 with | some (.object _) => true | some (.array _) => true | _ => false) | none => false)
  | i => jx_chkO i none pc a b sw
def ja_need (own : String) (i : Instr) (a b : Nat) (sw : List (Int32 × Nat)) : List Cond := match i with
  | .new ix => (match jx_get vwCl a with | some (C, _, N) => [Jvm.Cond.classLink own ix C, Jvm.Cond.instantiable C N, Jvm.Cond.initialized C] | none => [])
  | .newarray t => [Jvm.Cond.arrayClass (newarray.typeOf t)]
  | .invokespecial ix => bif Nat.beq a 9999 then [Jvm.Cond.methodLink own ix objectInit, Jvm.Cond.instanceMethod objectInit, Jvm.Cond.code objectInit ⟨#[0xb1]⟩ 1 none] else (match ja_meth a with | some (_, y, _) => [bif Nat.beq b 0 then Jvm.Cond.methodLink own ix y else Jvm.Cond.methodLinkNest own ix y RX7] | none => [])
  | i => jx_need own i a b sw
def ja_len (i : Instr) : Nat := match i with
  | .new _ => 3 | .newarray _ => 2 | .invokespecial _ => 3
  | i => jx_len i
def ja_chk (own : String) (bytes : ByteArray) (pc : Nat) (e : jx_I) : Bool := match e with
  | (i, nx, a, b, sw, ws) => decide (decode bytes pc = .ok (i, ja_len i)) && decide (nx = pc + ja_len i) && ja_chkO i pc a b sw && jx_words (ja_need own i a b sw) ws
def ja_chkH (M : jx_M) : Bool := match M with
  | (own, y, bytes, ml, _, n, _, _, ws) => plainName y.cls && decide (own = y.cls) && decide (y.name = "<init>") && decide (y.cls ≠ "java/lang/invoke/MethodHandle") && decide (y.cls ≠ "java/lang/invoke/VarHandle") && decide ((parseMethodDescriptor y.desc).map (fun d => d.parameters.length) = some n) && decide (ml ≤ 20) && jx_words [Jvm.Cond.initialized y.cls, Jvm.Cond.code y bytes ml none, Jvm.Cond.instanceMethod y] ws
def ja_chkC (M : jx_M) : Bool := match M with
  | (own, _, bytes, _, _, _, _, c, _) => c.all (fun r => r.all (fun q => ja_chk own bytes q.1 q.2))
def ja_chkM (k : Nat) : Bool := match ja_meth k with
  | some M => ja_chkH M && ja_chkC M
  | none => false
theorem jqa_0 : ja_chkM 0 = true := by decide +kernel
theorem jqa_1 : ja_chkM 1 = true := by decide +kernel
theorem jqa_2 : ja_chkM 2 = true := by decide +kernel
theorem jqa_3 : ja_chkM 3 = true := by decide +kernel
theorem jqa_4 : ja_chkM 4 = true := by decide +kernel
theorem jqa_5 : ja_chkM 5 = true := by decide +kernel
theorem jqa_6 : ja_chkM 6 = true := by decide +kernel
theorem jqa_7 : ja_chkM 7 = true := by decide +kernel
theorem jqa_8 : ja_chkM 8 = true := by decide +kernel
theorem jqa_of {k : Nat} {M : jx_M} (h : ja_meth k = some M) : ja_chkH M = true ∧ ja_chkC M = true := by
  have h2 : ja_chkM k = true := by
    match k, h with
    | 0, _ => exact jqa_0
    | 1, _ => exact jqa_1
    | 2, _ => exact jqa_2
    | 3, _ => exact jqa_3
    | 4, _ => exact jqa_4
    | 5, _ => exact jqa_5
    | 6, _ => exact jqa_6
    | 7, _ => exact jqa_7
    | 8, _ => exact jqa_8
    | n + 9, h => cases h
  unfold ja_chkM at h2
  rw [h] at h2
  simpa only [Bool.and_eq_true] using h2
theorem ja_defs {ci : Nat} {C : String} {T : u_T} {N : Nat} (h : jx_get vwCl ci = some (C, T, N)) : ∃ ty : Nat → FieldType, (∀ k, k < N → parseFieldDescriptor (T k).2.2.1 = some (ty k)) ∧ ∀ j, j < N → defaultValue (ty j) = vp_V (ja_def ci) j := by
  match ci, h with
  | 0, h => cases h; exact ⟨tyX0, tyX0_ok, by decide +kernel⟩
  | 1, h => cases h; exact ⟨tyX1, tyX1_ok, by decide +kernel⟩
  | 2, h => cases h; exact ⟨tyX2, tyX2_ok, by decide +kernel⟩
  | 3, h => cases h; exact ⟨tyX3, tyX3_ok, by decide +kernel⟩
  | 4, h => cases h; exact ⟨tyX4, tyX4_ok, by decide +kernel⟩
  | 5, h => cases h; exact ⟨tyX5, tyX5_ok, by decide +kernel⟩
  | 6, h => cases h; exact ⟨tyX6, tyX6_ok, by decide +kernel⟩
  | 7, h => cases h; exact ⟨tyX7, tyX7_ok, by decide +kernel⟩
  | 8, h => cases h; exact ⟨tyX8, tyX8_ok, by decide +kernel⟩
  | n + 9, h => cases h
theorem ja_def_ref (ad : Nat → Nat) (ci : Nat) : (ja_def ci).map (jx_xv ad) = ja_def ci := by
  match ci with
  | 0 => rfl
  | 1 => rfl
  | 2 => rfl
  | 3 => rfl
  | 4 => rfl
  | 5 => rfl
  | 6 => rfl
  | 7 => rfl
  | 8 => rfl
  | n + 9 => rfl
