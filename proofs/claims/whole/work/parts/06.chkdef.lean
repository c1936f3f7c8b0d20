/-! THE TABLES ARE RIGHT: each instruction is what the bytes decode to, each target lies where the offset says, each word stands in the tables at its place -/
def jx_len (i : Instr) : Nat := match i with
  | .iload _ => 2 | .lload _ => 2 | .aload _ => 2 | .istore _ => 2 | .lstore _ => 2 | .astore _ => 2 | .bipush _ => 2 | .ldc _ => 2
  | .sipush _ => 3 | .ldc_w _ => 3 | .ldc2_w _ => 3 | .iinc _ _ => 3 | .getfield _ => 3 | .putfield _ => 3 | .goto _ => 3 | .ifnull _ => 3 | .ifnonnull _ => 3
  | .if_icmp _ _ => 3 | .ifCond _ _ => 3 | .invokevirtual _ => 3 | .invokestatic _ => 3
  | _ => 1
def jx_isSw (i : Instr) : Bool := match i with
  | .tableswitch _ _ _ _ => true
  | .lookupswitch _ _ => true
  | _ => false
def jx_hd (sw : List (Int32 × Nat)) (v : Int32) : Bool := match sw with
  | (w, _) :: _ => decide (w = v)
  | [] => false
def jx_fty (t : Nat) : FieldType := if t = 0 then .int else if t = 1 then .boolean else .long
/-- a table's targets, one behind another from the key k on -/
def jx_tab (pc : Nat) : Int → List Int → List (Int32 × Nat) → Bool
  | _, [], [] => true
  | k, o :: os, (x, t) :: r => decide (x.toInt = k) && decide ((pc : Int) + o = (t : Int)) && jx_tab pc (k + 1) os r
  | _, _, _ => false
def jx_lkp (pc : Nat) : List (Int × Int) → List (Int32 × Nat) → Bool
  | [], [] => true
  | (k, o) :: os, (x, t) :: r => decide (x.toInt = k) && decide ((pc : Int) + o = (t : Int)) && jx_lkp pc os r
  | _, _ => false
def jx_chkO (i : Instr) (ret : Option FieldType) (pc a b : Nat) (sw : List (Int32 × Nat)) : Bool := match i with
  | .iconst n => jx_hd sw (Int32.ofInt n)
  | .bipush n => jx_hd sw (Int8.ofInt n).toInt32
  | .sipush n => jx_hd sw (Int16.ofInt n).toInt32
  | .iinc _ n => jx_hd sw (Int32.ofInt n)
  | .goto off => decide ((pc : Int) + off = (a : Int))
  | .if_icmp _ off => decide ((pc : Int) + off = (a : Int))
  | .ifCond _ off => decide ((pc : Int) + off = (a : Int))
  | .ifnull off => decide ((pc : Int) + off = (a : Int))
  | .ifnonnull off => decide ((pc : Int) + off = (a : Int))
  | .getfield _ => (match jx_get vwCl a with | some (_, _, N) => decide (b < N) | none => false)
  | .putfield _ => (match jx_get vwCl a, sw with | some (_, T, N), (_, t) :: _ => decide (b < N) && decide ((T b).2.2.2 = false) && decide (parseFieldDescriptor (T b).2.2.1 = some (jx_fty t)) | _, _ => false)
  | .ireturn => (decide (a = 0) && decide (ret = some .int)) || (decide (a = 1) && decide (ret = some .boolean))
  | .lreturn => decide (ret = some .long)
  | .return_ => decide (ret = none)
  | .tableswitch d lo hi offs => decide ((pc : Int) + d = (a : Int)) && decide (lo + offs.size = hi + 1) && jx_tab pc lo offs.toList sw
  | .lookupswitch d ps => decide ((pc : Int) + d = (a : Int)) && (ps.toList.zip (ps.toList.drop 1)).all (fun (a, next) => decide (a.1 < next.1)) && jx_lkp pc ps.toList sw
  | .invokevirtual _ => decide (b = 0) && (match jx_meth a with | some (_, _, _, _, _, _, stt, _, _) => !stt | none => false)
  | .invokestatic _ => Nat.beq a 9999 || (match jx_meth a with | some (_, _, _, _, _, _, stt, _, _) => stt | none => false)
  | _ => true
/-- the word that an instruction's pool entry stands for -/
def jx_need (own : String) (i : Instr) (a b : Nat) (sw : List (Int32 × Nat)) : List Cond := match i with
  | .ldc ix => (match sw with | (v, _) :: _ => [Jvm.Cond.constant own ix v] | [] => [])
  | .ldc_w ix => (match sw with | (v, _) :: _ => [Jvm.Cond.constant own ix v] | [] => [])
  | .ldc2_w ix => [Jvm.Cond.constantLong own ix (Int64.ofNat a)]
  | .getfield ix => (match jx_get vwCl a with | some (_, T, _) => [Jvm.Cond.fieldLink own ix (T b).1 (T b).2.1 (T b).2.2.1] | none => [])
  | .putfield ix => (match jx_get vwCl a with | some (_, T, _) => [Jvm.Cond.fieldLink own ix (T b).1 (T b).2.1 (T b).2.2.1] | none => [])
  | .invokevirtual ix => (match jx_meth a with | some (_, y, _) => [Jvm.Cond.methodLink own ix y] | none => [])
  | .invokestatic ix => bif Nat.beq a 9999 then [Jvm.Cond.methodLink own ix Lib.Math.max.name, Jvm.Cond.static Lib.Math.max.name, Jvm.Cond.initialized "java/lang/Math", Jvm.Cond.code Lib.Math.max.name Lib.Math.max.code 2 (some .int)] else (match jx_meth a with | some (_, y, _) => [bif Nat.beq b 0 then Jvm.Cond.methodLink own ix y else Jvm.Cond.methodLinkNest own ix y RX6] | none => [])
  | _ => []
def jx_words : List Cond → List Nat → Bool
  | [], _ => true
  | w :: r, j :: js => decide (lw_tbl[j]? = some w) && jx_words r js
  | _ :: _, [] => false
theorem jx_words_in : ∀ {l : List Cond} {js : List Nat}, jx_words l js = true → ∀ w ∈ l, w ∈ lw_tbl
  | [], _, _, w, h => by cases h
  | a :: r, j :: js, hx, w, h => by
    simp only [jx_words, Bool.and_eq_true, decide_eq_true_eq] at hx
    rcases List.mem_cons.mp h with rfl | h
    · exact List.mem_of_getElem? hx.1
    · exact jx_words_in hx.2 w h
  | _ :: _, [], hx, _, _ => by cases hx
def jx_chk (own : String) (bytes : ByteArray) (ret : Option FieldType) (pc : Nat) (e : jx_I) : Bool := match e with
  | (i, nx, a, b, sw, ws) => decide (decode bytes pc = .ok (i, nx - pc)) && (jx_isSw i || decide (nx = pc + jx_len i)) && jx_chkO i ret pc a b sw && jx_words (jx_need own i a b sw) ws
def jx_mwords (y : MethodName) (bytes : ByteArray) (ml : Nat) (ret : Option FieldType) (stt : Bool) : List Cond := bif stt then [Jvm.Cond.initialized y.cls, Jvm.Cond.code y bytes ml ret, Jvm.Cond.static y] else [Jvm.Cond.initialized y.cls, Jvm.Cond.code y bytes ml ret, Jvm.Cond.instanceMethod y, Jvm.Cond.selects y.cls y y]
def jx_chkH (M : jx_M) : Bool := match M with
  | (own, y, bytes, ml, ret, n, stt, _, ws) => plainName y.cls && decide (own = y.cls) && decide (y.cls ≠ "java/lang/invoke/MethodHandle") && decide (y.cls ≠ "java/lang/invoke/VarHandle") && decide ((parseMethodDescriptor y.desc).map (fun d => d.parameters.length) = some n) && decide (ml ≤ 20) && jx_words (jx_mwords y bytes ml ret stt) ws
def jx_chkC (M : jx_M) : Bool := match M with
  | (own, _, bytes, _, ret, _, _, c, _) => c.all (fun r => r.all (fun q => jx_chk own bytes ret q.1 q.2))
def jx_chkM (k : Nat) : Bool := match jx_meth k with
  | some M => jx_chkH M && jx_chkC M
  | none => false
theorem ji_0 : u_ws RX0 TX0 12 = [205, 207, 209, 211, 213, 215, 217, 219, 221, 223, 225, 227].filterMap (fun i => lw_tbl[i]?) := by decide +kernel
theorem ji_1 : u_ws RX1 TX1 3 = [122, 124, 126].filterMap (fun i => lw_tbl[i]?) := by decide +kernel
theorem ji_2 : u_ws RX2 TX2 10 = [249, 251, 253, 255, 257, 259, 261, 263, 265, 267].filterMap (fun i => lw_tbl[i]?) := by decide +kernel
theorem ji_3 : u_ws RX3 TX3 4 = [108, 110, 112, 114].filterMap (fun i => lw_tbl[i]?) := by decide +kernel
theorem ji_4 : u_ws RX4 TX4 1 = [91].filterMap (fun i => lw_tbl[i]?) := by decide +kernel
theorem ji_5 : u_ws RX5 TX5 4 = [160, 162, 164, 166].filterMap (fun i => lw_tbl[i]?) := by decide +kernel
theorem ji_6 : u_ws RX6 TX6 7 = [279, 281, 283, 285, 287, 289, 291].filterMap (fun i => lw_tbl[i]?) := by decide +kernel
theorem ji_7 : u_ws RX7 TX7 45 = [831, 833, 835, 837, 839, 841, 843, 845, 847, 849, 851, 853, 855, 857, 859, 861, 863, 865, 867, 869, 871, 873, 875, 877, 879, 881, 883, 885, 887, 889, 891, 893, 895, 897, 899, 901, 903, 905, 907, 909, 911, 913, 915, 917, 919].filterMap (fun i => lw_tbl[i]?) := by decide +kernel
theorem ji_mem {l : List Cond} {js : List Nat} (h : l = js.filterMap (fun i => lw_tbl[i]?)) : ∀ w ∈ l, w ∈ lw_tbl := by
  intro w hw
  rw [h] at hw
  obtain ⟨i, -, hi⟩ := List.mem_filterMap.mp hw
  exact List.mem_of_getElem? hi
theorem ji_all {ci : Nat} {C : String} {T : u_T} {N : Nat} (h : jx_get vwCl ci = some (C, T, N)) : (∀ w ∈ u_ws C T N, w ∈ lw_tbl) ∧ (∃ ty : Nat → FieldType, ∀ k, k < N → parseFieldDescriptor (T k).2.2.1 = some (ty k)) ∧ (∀ a, a < N → ∀ b, b < N → a ≠ b → (T a).2.1 ≠ (T b).2.1) ∧ (∀ k, (T k).1 = C) := by
  match ci, h with
  | 0, h => cases h; exact ⟨ji_mem ji_0, ⟨tyX0, tyX0_ok⟩, nmX0, fun k => by unfold TX0; split <;> rfl⟩
  | 1, h => cases h; exact ⟨ji_mem ji_1, ⟨tyX1, tyX1_ok⟩, nmX1, fun k => by unfold TX1; split <;> rfl⟩
  | 2, h => cases h; exact ⟨ji_mem ji_2, ⟨tyX2, tyX2_ok⟩, nmX2, fun k => by unfold TX2; split <;> rfl⟩
  | 3, h => cases h; exact ⟨ji_mem ji_3, ⟨tyX3, tyX3_ok⟩, nmX3, fun k => by unfold TX3; split <;> rfl⟩
  | 4, h => cases h; exact ⟨ji_mem ji_4, ⟨tyX4, tyX4_ok⟩, nmX4, fun k => by unfold TX4; split <;> rfl⟩
  | 5, h => cases h; exact ⟨ji_mem ji_5, ⟨tyX5, tyX5_ok⟩, nmX5, fun k => by unfold TX5; split <;> rfl⟩
  | 6, h => cases h; exact ⟨ji_mem ji_6, ⟨tyX6, tyX6_ok⟩, nmX6, fun k => by unfold TX6; split <;> rfl⟩
  | 7, h => cases h; exact ⟨ji_mem ji_7, ⟨tyX7, tyX7_ok⟩, nmX7, fun k => by unfold TX7; split <;> rfl⟩
  | n + 8, h => cases h
