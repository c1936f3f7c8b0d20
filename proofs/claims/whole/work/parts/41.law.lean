/-! THE LAW'S LOOP, on two worlds and a script -/
def jw_kind (i : Instr) : Nat := match i with
  | .iaload => 1
  | .arraylength => 2
  | i => bif Nat.ble (jx_kind i) 2 || Nat.beq (jx_kind i) 5 then 0 else 3
/-- one step that is no branch, call or return; the script is the reference 0 -/
def jw_one (xs : Nat → Int32) (L : Nat) (pc : Nat) (ls : jx_L) (st : List Value) : Option (List Prop × Nat × jx_L × List Value) := match jx_look jc_law pc with
  | some (i, nx, a, b, sw, _) => (match jw_kind i with
    | 0 => (match jx_next i nx a b sw ls st [] with
      | some (o, nx', ls', st', _) => some (o, nx', ls', st')
      | none => none)
    | 1 => (match st with
      | .int j :: .ref 0 :: r => some ([vp_in j L], nx, ls, .int (xs j.toNatClampNeg) :: r)
      | _ => none)
    | 2 => (match st with
      | .ref 0 :: r => some ([], nx, ls, .int (Int32.ofNat L) :: r)
      | _ => none)
    | _ => none)
  | none => none
def jw_many (xs : Nat → Int32) (L : Nat) : Nat → List Prop → Nat → jx_L → List Value → Option (List Prop × Nat × jx_L × List Value)
  | 0, acc, pc, ls, st => some (acc, pc, ls, st)
  | n + 1, acc, pc, ls, st => match jw_one xs L pc ls st with
    | some ([], pc', ls', st') => jw_many xs L n acc pc' ls' st'
    | some ([q], pc', ls', st') => jw_many xs L n (q :: acc) pc' ls' st'
    | _ => none
theorem jw_kind0 {i : Instr} (h : jw_kind i = 0) : jx_kind i ≤ 2 ∨ jx_kind i = 5 := by
  cases i <;> first | exact Or.inl (Nat.le_of_ble_eq_true rfl) | exact Or.inr rfl | cases h
theorem jw_next_h {i : Instr} (h : jw_kind i = 0) {nx a b : Nat} {sw : List (Int32 × Nat)} {ls ls' : jx_L} {st st' : List Value} {o : List Prop} {nx' : Nat} {h' : jx_H} (hn : jx_next i nx a b sw ls st [] = some (o, nx', ls', st', h')) : h' = [] := by
  rcases jw_kind0 h with z | z
  · unfold jx_next at hn
    split at hn
    · split at hn
      · cases hn; rfl
      · cases hn
    · split at hn
      · cases hn; rfl
      · cases hn
    · have key : ∀ {k : Nat} {v : Value} {r : List Value}, jx_set1 v ls k (fun l => some (([] : List Prop), nx, l, r, ([] : jx_H))) = some (o, nx', ls', st', h') → h' = [] := by
        intro k v r hh
        obtain ⟨l2, e1, -⟩ := jx_set1_spec hh
        cases e1; rfl
      have key2 : ∀ {k : Nat} {v : Value} {r : List Value}, jx_set2 v ls k (fun l => some (([] : List Prop), nx, l, r, ([] : jx_H))) = some (o, nx', ls', st', h') → h' = [] := by
        intro k v r hh
        obtain ⟨l2, e1, -⟩ := jx_set2_spec hh
        cases e1; rfl
      cases i with
      | istore_n k => simp only [jx_store, jx_stI] at hn; split at hn; exact key hn; cases hn
      | istore k => simp only [jx_store, jx_stI] at hn; split at hn; exact key hn; cases hn
      | lstore_n k => simp only [jx_store, jx_stL] at hn; split at hn; exact key2 hn; cases hn
      | lstore k => simp only [jx_store, jx_stL] at hn; split at hn; exact key2 hn; cases hn
      | astore_n k => simp only [jx_store, jx_stA] at hn; split at hn; exact key hn; cases hn
      | astore k => simp only [jx_store, jx_stA] at hn; split at hn; exact key hn; cases hn
      | iinc k n => simp only [jx_store] at hn; split at hn; exact key hn; cases hn
      | _ => cases hn
    all_goals first | omega | cases hn
  · unfold jx_next at hn
    rw [z] at hn
    cases hn; rfl
theorem jw_look {pc : Nat} {e : jx_I} (h : jx_look jc_law pc = some e) : jx_chk R_law code ret pc e = true := by
  unfold jx_look at h
  cases hg : jx_get jc_law (pc / 16) with
  | none => rw [hg] at h; cases h
  | some r =>
    rw [hg] at h
    have h1 : r ∈ jc_law := by rw [jx_get_eq] at hg; exact List.mem_of_getElem? hg
    have h2 := List.all_eq_true.mp jw_chk r h1
    exact List.all_eq_true.mp h2 (pc, e) (jx_assoc_in h)
section LAW
variable (l : Launch) (dC : Nat → ClassId) (dI : Nat → Nat → Nat) (cI cB : ClassId) (KS : State → Prop)
variable (p : Program) (e : Env) (s : State) (m : MethodId) (below : List Frame) (meth : Method) (c : Code) (b L : Nat) (xs : Nat → Int32)
def jw_ad (b B : Nat) (i : Nat) : Nat := match i with
  | 0 => b
  | 1 => B
  | _ => B + 48
/-- a place of the law's body: from there it comes to its end -/
def jw_Sem (H : Heap) (locs : List Loc) (pc : Nat) (ls : jx_L) (st : List Value) : Prop := ∀ la : Array Slot, jx_rel (jw_ad b s.heap.size) 4 ls la → W p l e room_1 s m #[Value.ref b] below meth c H locs 73 1000 (lw_Z below #[Value.ref b] s) (F0 m pc la (st.map (jx_xv (jw_ad b s.heap.size))))
end LAW
section LAW2
variable {l : Launch} {dC : Nat → ClassId} {dI : Nat → Nat → Nat} {cI cB : ClassId} {KS : State → Prop}
variable {p : Program} {e : Env} {s : State} {m : MethodId} {below : List Frame} {meth : Method} {c : Code} {b L : Nat} {xs : Nat → Int32}
theorem jw_stepsA (C0 : lw_At p s m meth c b L xs) {H : Heap} {locs : List Loc} (hS : va_S (s.heap.size ≤ ·) s.heap H locs) {o : List Prop} {pc' : Nat} {ls' : jx_L} {st' : List Value} (ho : jx_all o) (kk : jw_Sem l p e s m below meth c b H locs pc' ls' st') : ∀ (k : Nat) (acc : List Prop) (pc : Nat) (ls : jx_L) (st : List Value), jw_many xs L k acc pc ls st = some (o, pc', ls', st') → jx_all acc ∧ jw_Sem l p e s m below meth c b H locs pc ls st := by
  obtain ⟨g1, g2, g3, g4, g5, hts, hX, hbl, g7, -⟩ := C0
  intro k
  induction k with
  | zero =>
    intro acc pc ls st hx
    simp only [jw_many, Option.some.injEq, Prod.mk.injEq] at hx
    obtain ⟨rfl, rfl, rfl, rfl⟩ := hx
    exact ⟨ho, kk⟩
  | succ k ih =>
    intro acc pc ls st hx
    rw [jw_many] at hx
    have hone : ∃ o1 pc1 ls1 st1 acc1, jw_one xs L pc ls st = some (o1, pc1, ls1, st1) ∧ jw_many xs L k acc1 pc1 ls1 st1 = some (o, pc', ls', st') ∧ (jx_all acc1 → jx_all acc ∧ jx_all o1) := by
      split at hx
      · rename_i h1
        exact ⟨_, _, _, _, _, h1, hx, fun z => ⟨z, trivial⟩⟩
      · rename_i h1
        exact ⟨_, _, _, _, _, h1, hx, fun z => ⟨z.2, z.1, trivial⟩⟩
      · cases hx
    obtain ⟨o1, pc1, ls1, st1, acc1, h1, h2, h3⟩ := hone
    obtain ⟨z1, z2⟩ := ih _ _ _ _ h2
    obtain ⟨z3, z4⟩ := h3 z1
    refine ⟨z3, fun la hrel => ?_⟩
    unfold jw_one at h1
    cases hlk : jx_look jc_law pc with
    | none => rw [hlk] at h1; cases h1
    | some en =>
      obtain ⟨i, nx, a, bb, sw, ws⟩ := en
      rw [hlk] at h1
      dsimp only at h1
      obtain ⟨c1, ⟨len, c2⟩, c3, c4⟩ := jx_chk_spec (jw_look hlk)
      have cw : ∀ w ∈ lw_tbl, goodWord w = true → w.before #[Value.ref b] s = true := fun w hw _ => hts w hw
      split at h1
      · rename_i hkd
        cases hn : jx_next i nx a bb sw ls st [] with
        | none => rw [hn] at h1; cases h1
        | some en2 =>
          obtain ⟨o2, nx2, ls2, st2, h2'⟩ := en2
          rw [hn] at h1
          cases h1
          have hh := jw_next_h hkd hn
          subst hh
          have hk : jx_isSw i = false := by
            cases i <;> first | rfl | cases hkd
          obtain ⟨hnx, hdec⟩ := c1 hk
          unfold jx_next at hn
          split at hn
          · split at hn
            · rename_i hp
              cases hn
              subst hnx
              exact jx_s_pure g1 g2 g5 cw hdec c3 c4 hp z4 (z2 la hrel)
            · cases hn
          · split at hn
            · rename_i hp
              cases hn
              subst hnx
              exact jx_s_load g1 g2 hdec hrel hp (z2 la hrel)
            · cases hn
          · obtain ⟨rfl, -, hst⟩ := jx_s_store (Q := lw_Z below #[Value.ref b] s) (cells := 73) (slots := 1000) (p := p) (l := l) (e := e) (R := room_1) (s := s) (m := m) (args := #[Value.ref b]) (below := below) (meth := meth) (H := H) (locs := locs) g1 g2 hdec c3 hrel hn
            refine hst (fun la' hrel' => ?_)
            rw [← hnx]
            exact z2 la' hrel'
          · rename_i h4; rcases jw_kind0 hkd with z | z <;> omega
          · rename_i h4; rcases jw_kind0 hkd with z | z <;> omega
          · rename_i h5
            cases hn
            cases i with
            | goto off => exact lv_goto g1 g2 hdec (by simpa [jx_chkO] using c3) (z2 la hrel)
            | _ => simp [jx_kind] at h5
          · rename_i h4; rcases jw_kind0 hkd with z | z <;> omega
          · rename_i h4; rcases jw_kind0 hkd with z | z <;> omega
          · cases hn
      · rename_i hkd
        split at h1
        · cases h1
          cases i with
          | iaload =>
            obtain ⟨hnx, hdec⟩ := c1 rfl
            subst hnx
            exact va_sld (A := (s.heap.size ≤ ·)) g1 g2 hX hbl (by show ¬ s.heap.size ≤ b; omega) hS z4.1 hdec (z2 la hrel)
          | _ => first | cases hkd | simp [jw_kind, jx_kind] at hkd
        · cases h1
      · rename_i hkd
        split at h1
        · cases h1
          cases i with
          | arraylength =>
            obtain ⟨hnx, hdec⟩ := c1 rfl
            subst hnx
            exact va_slen (A := (s.heap.size ≤ ·)) g1 g2 hX hbl (by show ¬ s.heap.size ≤ b; omega) hS hdec (z2 la hrel)
          | _ => first | cases hkd | simp [jw_kind, jx_kind] at hkd
        · cases h1
      · cases h1
end LAW2
