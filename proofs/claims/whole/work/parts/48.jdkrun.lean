/-! a run of the JDK's methods, with what it asks; the text is the reference 0, its bytes the reference 1 -/
theorem jqd_of {k : Nat} {own : String} {y : MethodName} {b : ByteArray} {ml : Nat} {ret : Option FieldType} {n : Nat} {stt : Bool} {cd : jx_C} {mw : List Nat} (h : jq_meth k = some (own, y, b, ml, ret, n, stt, cd, mw)) : jx_chkH (own, y, b, ml, ret, n, stt, cd, mw) = true ∧ cd.all (fun r => r.all (fun q => jq_chk own b ret q.1 q.2)) = true := by
  have h2 : jq_chkM k = true := by
    match k, h with
    | 0, _ => exact jqd_0
    | 1, _ => exact jqd_1
    | 2, _ => exact jqd_2
    | 3, _ => exact jqd_3
    | 4, _ => exact jqd_4
    | 5, _ => exact jqd_5
    | 6, _ => exact jqd_6
    | 7, _ => exact jqd_7
    | n + 8, h => cases h
  unfold jq_chkM at h2
  rw [h] at h2
  simpa only [Bool.and_eq_true] using h2
def jq_B : List Int32 := [108, 116, 103, 99, 107]
def jq_kind (i : Instr) : Nat := match i with
  | .getstatic _ => 1
  | .getfield _ => 2
  | .invokevirtual _ => 3
  | .invokestatic _ => 4
  | .if_icmp _ _ => 5
  | .ifCond _ _ => 5
  | .ireturn => 6
  | .baload => 7
  | .arraylength => 8
  | i => bif Nat.ble (jx_kind i) 2 || Nat.beq (jx_kind i) 5 then 0 else 9
abbrev jq_R : Type := Value × List Prop × List Bool
def jq_then (o : List Prop) (r : Option jq_R) : Option jq_R := match r with
  | some (v, o2, ds) => some (v, o ++ o2, ds)
  | none => none
def jq_run : Nat → Nat → Nat → Nat → jx_L → List Value → List Bool → Option jq_R
  | 0, _, _, _, _, _, _ => none
  | f + 1, d, k, pc, ls, st, ds => match jx_look (jq_code k) pc with
    | none => none
    | some (i, nx, a, b, sw, _) => match jq_kind i with
      | 0 => (match jx_next i nx a b sw ls st [] with
        | some (o, nx', ls', st', _) => jq_then o (jq_run f d k nx' ls' st' ds)
        | none => none)
      | 1 => jq_run f d k nx ls (.int 1 :: st) ds
      | 2 => (match st with
        | .ref 0 :: r => jq_run f d k nx ls ((bif Nat.beq b 0 then .ref 1 else .int 0) :: r) ds
        | _ => none)
      | 3 => (match jq_meth a with
        | some (_, _, _, ml, _, n, _, _, _) => (match jx_pop n [] st with
          | some (as, .ref 0 :: r) => bif Nat.ble (jx_cats r) 8 then (match d with
            | d1 + 1 => (match jx_args ml (.ref 0 :: as) some with
              | some l => (match jq_run f d1 a 0 l [] ds with
                | some (v, o, ds') => jq_then o (jq_run f d k nx ls (v :: r) ds')
                | none => none)
              | none => none)
            | 0 => none) else none
          | _ => none)
        | none => none)
      | 4 => bif Nat.beq a 9001 then (match d, st with
          | _ + 1, .int y :: .int x :: r => bif Nat.ble (jx_cats r) 8 then jq_run f d k nx ls (.int (if x < y then y else x) :: r) ds else none
          | _, _ => none)
        else bif Nat.beq a 9002 then (match d, st with
          | _ + 1, .int y :: .int x :: r => bif Nat.ble (jx_cats r) 8 then jq_run f d k nx ls (.int (if y < x then y else x) :: r) ds else none
          | _, _ => none)
        else (match jq_meth a with
          | some (_, _, _, ml, _, n, _, _, _) => (match jx_pop n [] st with
            | some (as, r) => bif Nat.ble (jx_cats r) 8 then (match d with
              | d1 + 1 => (match jx_args ml as some with
                | some l => (match jq_run f d1 a 0 l [] ds with
                  | some (v, o, ds') => jq_then o (jq_run f d k nx ls (v :: r) ds')
                  | none => none)
                | none => none)
              | 0 => none) else none
            | _ => none)
          | none => none)
      | 5 => (match jx_br i st with
        | some (q, r) => (match ds with
          | true :: ds' => jq_then [q] (jq_run f d k a ls r ds')
          | false :: ds' => jq_then [¬ q] (jq_run f d k nx ls r ds')
          | [] => none)
        | none => none)
      | 6 => (match st with
        | [.int x] => (match a with
          | 0 => some (.int x, [], ds)
          | 1 => some (.int x, [x = 0 ∨ x = 1], ds)
          | 2 => some (.int x, [x.toInt8.toInt32 = x], ds)
          | _ => none)
        | _ => none)
      | 7 => (match st with
        | .int j :: .ref 1 :: r => jq_then [vp_in j 5] (jq_run f d k nx ls (.int (jq_B.getD j.toNatClampNeg 0) :: r) ds)
        | _ => none)
      | 8 => (match st with
        | .ref 1 :: r => jq_run f d k nx ls (.int 5 :: r) ds
        | _ => none)
      | _ => none
theorem jq_kind0 {i : Instr} (h : jq_kind i = 0) : (jx_kind i ≤ 2 ∨ jx_kind i = 5) ∧ jq_len i = jx_len i := by
  cases i <;> first | exact ⟨Or.inl (Nat.le_of_ble_eq_true rfl), rfl⟩ | exact ⟨Or.inr rfl, rfl⟩ | cases h
theorem jx_all_app : ∀ {a b : List Prop}, jx_all (a ++ b) → jx_all a ∧ jx_all b
  | [], b, h => ⟨trivial, h⟩
  | p :: a, b, h => ⟨⟨h.1, (jx_all_app h.2).1⟩, (jx_all_app h.2).2⟩
theorem jq_then_some {o : List Prop} {r : Option jq_R} {v : Value} {o2 : List Prop} {ds : List Bool} (h : jq_then o r = some (v, o2, ds)) : ∃ o3, r = some (v, o3, ds) ∧ o2 = o ++ o3 := by
  unfold jq_then at h
  split at h
  · cases h; exact ⟨_, rfl, rfl⟩
  · cases h
theorem jq_look_chk {own : String} {b : ByteArray} {ret : Option FieldType} {cd : jx_C} (hc : cd.all (fun r => r.all (fun q => jq_chk own b ret q.1 q.2)) = true) {pc : Nat} {e : jx_I} (h : jx_look cd pc = some e) : jq_chk own b ret pc e = true := by
  unfold jx_look at h
  cases hg : jx_get cd (pc / 16) with
  | none => rw [hg] at h; cases h
  | some r =>
    rw [hg] at h
    have h1 : r ∈ cd := by rw [jx_get_eq] at hg; exact List.mem_of_getElem? hg
    have h2 := List.all_eq_true.mp hc r h1
    exact List.all_eq_true.mp h2 (pc, e) (jx_assoc_in h)
theorem jq_chk_spec {own : String} {b : ByteArray} {ret : Option FieldType} {pc : Nat} {i : Instr} {nx a bb : Nat} {sw : List (Int32 × Nat)} {ws : List Nat} (h : jq_chk own b ret pc (i, nx, a, bb, sw, ws) = true) : nx = pc + jq_len i ∧ decode b pc = .ok (i, jq_len i) ∧ jq_chkO i ret pc a bb sw = true ∧ ∀ w ∈ jq_need own i a bb sw, w ∈ lw_tbl := by
  simp only [jq_chk, Bool.and_eq_true, decide_eq_true_eq] at h
  obtain ⟨⟨⟨h1, h2⟩, h3⟩, h4⟩ := h
  exact ⟨h2, h1, h3, jx_words_in h4⟩
/-- the text, its bytes and the static that the JDK's methods look at: at addresses below B, that nobody writes -/
def jq_K (B sK sV : Nat) (U : State) : Prop := vk_S 1 [5] [jq_B] (fun _ => sK) (fun _ => sV) (B ≤ ·) U U.heap ∧ va_Z "java/lang/String" "COMPACT_STRINGS" "Z" (.int 1) (B ≤ ·) U U.heap
theorem jq_K.kept {B sK sV : Nat} {s U : State} (h : jq_K B sK sV s) (hvm : s.vm.Alike U.vm) (hF : va_F (B ≤ ·) s U) : jq_K B sK sV U := ⟨vk_S.moved hvm (h.1.kept hF.2), va_Z.moved hvm (h.2.kept hF.2)⟩
def jq_ad (sK sV : Nat) (i : Nat) : Nat := match i with
  | 0 => sK
  | _ => sV
section JQ
variable (B sK sV : Nat)
def jq_Qc (v : Value) : Array Value → State → Outcome → State → Prop := fun _ st oc t => oc = .returned (some (jx_xv (jq_ad sK sV) v)) ∧ t.heap = st.heap
def jq_Pc (av : List Value) : Array Value → State → Prop := va_Pc (av.map (jx_xv (jq_ad sK sV))) (jq_K B sK sV)
end JQ
