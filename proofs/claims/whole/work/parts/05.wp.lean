/-! WHAT A RUN OF THE SMALL MACHINE COMES TO: the least relation that is closed under its steps (as a statement over all such relations) -/
def jx_all : List Prop → Prop
  | [] => True
  | a :: r => a ∧ jx_all r
def jx_code (m : Nat) : jx_C := match jx_meth m with
  | some (_, _, _, _, _, _, _, c, _) => c
  | none => []
/-- one step of the machine at a place of a method -/
def jx_one (c : jx_C) (pc : Nat) (ls : jx_L) (st : List Value) (h : jx_H) : Option jx_R := match jx_look c pc with
  | some (i, nx, a, b, sw, _) => jx_next i nx a b sw ls st h
  | none => none
def jx_bra (c : jx_C) (pc : Nat) (st : List Value) : Option (Prop × List Value × Nat × Nat) := match jx_look c pc with
  | some (i, nx, a, _, _, _) => (match jx_br i st with | some (q, r) => some (q, r, a, nx) | none => none)
  | none => none
def jx_swi (c : jx_C) (pc : Nat) (st : List Value) : Option (Int32 × List Value × Nat × List (Int32 × Nat)) := match jx_look c pc with
  | some (i, _, a, _, sw, _) => bif Nat.beq (jx_kind i) 8 then (match st with | .int x :: r => some (x, r, a, sw) | _ => none) else none
  | none => none
def jx_end (c : jx_C) (pc : Nat) (st : List Value) : Option (List Prop × Option Value) := match jx_look c pc with
  | some (i, _, a, _, _, _) => jx_ret i a st
  | none => none
abbrev jx_K : Type := Nat × jx_L × List Value × Nat
/-- a call: the method, its locals, what stays on the stack, where it goes on -/
def jx_cal (c : jx_C) (pc : Nat) (st : List Value) (h : jx_H) : Option jx_K := match jx_look c pc with
  | some (i, nx, a, _, _, _) => bif Nat.beq (jx_kind i) 9 then (match jx_meth a with
    | some (_, y, _, ml, _, n, stt, _, _) => (match jx_pop n [] st with
      | some (as, r0) => bif stt then (bif Nat.ble (jx_cats r0) 8 then jx_args ml as (fun l => some (a, l, r0, nx)) else none)
        else (match r0 with
          | .ref p :: r => (match jx_get h p with
            | some (.inr (ci, _)) => (match jx_get vwCl ci with
              | some (C, _, _) => bif Nat.ble (jx_cats r) 8 && decide (C = y.cls) then jx_args ml (.ref p :: as) (fun l => some (a, l, r, nx)) else none
              | none => none)
            | _ => none)
          | _ => none)
      | none => none)
    | none => none) else none
  | none => none
abbrev jx_P : Type := Nat → Nat → Nat → jx_L → List Value → jx_H → jx_Q → Prop
def jx_kindC (y : Int32) : Int32 := if y = 108 then 0 else if y = 116 then 1 else if y = 103 then 2 else if y = 99 then 3 else if y = 107 then 4 else -1
/-- of a char alone: the cast cuts -/
def jx_kindOf (x : Int32) : Int32 := jx_kindC (x.toUInt32 % 65536).toInt32
def jx_closed (P : jx_P) : Prop :=
  (∀ d m pc ls st h Q o pc' ls' st' h', 0 < d → jx_one (jx_code m) pc ls st h = some (o, pc', ls', st', h') → jx_all o → P d m pc' ls' st' h' Q → P d m pc ls st h Q) ∧
  (∀ d m pc ls st h Q c r t f, jx_bra (jx_code m) pc st = some (c, r, t, f) → (c → P d m t ls r h Q) → (¬ c → P d m f ls r h Q) → P d m pc ls st h Q) ∧
  (∀ d m pc ls st h Q x r t sw, jx_swi (jx_code m) pc st = some (x, r, t, sw) → jx_sw (fun q => P d m q ls r h Q) x t sw → P d m pc ls st h Q) ∧
  (∀ d m pc ls st h Q o v, jx_end (jx_code m) pc st = some (o, v) → jx_all o → Q v h → P d m pc ls st h Q) ∧
  (∀ d d1 m pc ls st h Q Qc j ls2 r pc2, jx_cal (jx_code m) pc st h = some (j, ls2, r, pc2) → d1 < d → P d1 j 0 ls2 [] h Qc → (∀ v h', Qc v h' → P d m pc2 ls (v.toList ++ r) h' Q) → P d m pc ls st h Q) ∧
  (∀ d x h Q, 8 ≤ d → Q (some (.int (jx_kindOf x))) h → P d jk_X6_kindOf 0 [some (.int x)] [] h Q)
/-- the machine comes from this place to an end that meets Q; at most d calls stand open -/
def jx_W : jx_P := fun d m pc ls st h Q => ∀ P : jx_P, jx_closed P → P d m pc ls st h Q
theorem jx_W_closed : jx_closed jx_W := by
  refine ⟨?_, ?_, ?_, ?_, ?_, ?_⟩
  · intro d m pc ls st h Q o pc' ls' st' h' hd hx ho k P hP
    exact hP.1 d m pc ls st h Q o pc' ls' st' h' hd hx ho (k P hP)
  · intro d m pc ls st h Q c r t f hx ht hf P hP
    exact hP.2.1 d m pc ls st h Q c r t f hx (fun z => ht z P hP) (fun z => hf z P hP)
  · intro d m pc ls st h Q x r t sw hx hs P hP
    refine hP.2.2.1 d m pc ls st h Q x r t sw hx ?_
    clear hx
    induction sw with
    | nil => exact hs P hP
    | cons q sw ih => exact ⟨fun z => hs.1 z P hP, fun z => ih (hs.2 z)⟩
  · intro d m pc ls st h Q o v hx ho hq P hP
    exact hP.2.2.2.1 d m pc ls st h Q o v hx ho hq
  · intro d d1 m pc ls st h Q Qc j ls2 r pc2 hx hd k1 k2 P hP
    exact hP.2.2.2.2.1 d d1 m pc ls st h Q Qc j ls2 r pc2 hx hd (k1 P hP) (fun v h' hq => k2 v h' hq P hP)
  · intro d x h Q hd hq P hP
    exact hP.2.2.2.2.2 d x h Q hd hq
/-- many steps at once; what they ask, the last first -/
def jx_many (c : jx_C) : Nat → List Prop → Nat → jx_L → List Value → jx_H → Option jx_R
  | 0, acc, pc, ls, st, h => some (acc, pc, ls, st, h)
  | n + 1, acc, pc, ls, st, h => match jx_one c pc ls st h with
    | some ([], pc', ls', st', h') => jx_many c n acc pc' ls' st' h'
    | some ([p], pc', ls', st', h') => jx_many c n (p :: acc) pc' ls' st' h'
    | _ => none
theorem jx_many_acc {c : jx_C} : ∀ (k : Nat) (acc : List Prop) (pc : Nat) (ls : jx_L) (st : List Value) (h : jx_H) (o : List Prop) (s : jx_S), jx_many c k acc pc ls st h = some (o, s) → jx_all o → jx_all acc := by
  intro k
  induction k with
  | zero =>
    intro acc pc ls st h o s hx ho
    simp only [jx_many, Option.some.injEq, Prod.mk.injEq] at hx
    rw [hx.1]; exact ho
  | succ k ih =>
    intro acc pc ls st h o s hx ho
    rw [jx_many] at hx
    split at hx
    · exact ih _ _ _ _ _ _ _ hx ho
    · exact (ih _ _ _ _ _ _ _ hx ho).2
    · cases hx
theorem jx_stepsA {d m : Nat} (hd : 0 < d) {Q : jx_Q} {o : List Prop} {pc' : Nat} {ls' : jx_L} {st' : List Value} {h' : jx_H} (ho : jx_all o) (kk : jx_W d m pc' ls' st' h' Q) : ∀ (k : Nat) (acc : List Prop) (pc : Nat) (ls : jx_L) (st : List Value) (h : jx_H), jx_many (jx_code m) k acc pc ls st h = some (o, pc', ls', st', h') → jx_W d m pc ls st h Q := by
  intro k
  induction k with
  | zero =>
    intro acc pc ls st h hx
    simp only [jx_many, Option.some.injEq, Prod.mk.injEq] at hx
    obtain ⟨-, rfl, rfl, rfl, rfl⟩ := hx
    exact kk
  | succ k ih =>
    intro acc pc ls st h hx
    rw [jx_many] at hx
    split at hx
    · rename_i h1
      exact jx_W_closed.1 d m pc ls st h Q _ _ _ _ _ hd h1 trivial (ih _ _ _ _ _ hx)
    · rename_i h1
      exact jx_W_closed.1 d m pc ls st h Q _ _ _ _ _ hd h1 ⟨(jx_many_acc k _ _ _ _ _ _ _ hx ho).1, trivial⟩ (ih _ _ _ _ _ hx)
    · cases hx
theorem jx_steps {d m pc : Nat} {ls : jx_L} {st : List Value} {h : jx_H} {Q : jx_Q} (k : Nat) {o : List Prop} {pc' : Nat} {ls' : jx_L} {st' : List Value} {h' : jx_H} (hx : jx_many (jx_code m) k [] pc ls st h = some (o, pc', ls', st', h')) (ho : jx_all o) (kk : jx_W d m pc' ls' st' h' Q) (hd : 0 < d := by decide) : jx_W d m pc ls st h Q := jx_stepsA hd ho kk k [] pc ls st h hx
theorem jx_if {d m pc : Nat} {ls : jx_L} {st : List Value} {h : jx_H} {Q : jx_Q} {c : Prop} {r : List Value} {t f : Nat} (hx : jx_bra (jx_code m) pc st = some (c, r, t, f)) (ht : c → jx_W d m t ls r h Q) (hf : ¬ c → jx_W d m f ls r h Q) : jx_W d m pc ls st h Q := jx_W_closed.2.1 d m pc ls st h Q c r t f hx ht hf
theorem jx_switch {d m pc : Nat} {ls : jx_L} {st : List Value} {h : jx_H} {Q : jx_Q} {x : Int32} {r : List Value} {t : Nat} {sw : List (Int32 × Nat)} (hx : jx_swi (jx_code m) pc st = some (x, r, t, sw)) (hs : jx_sw (fun q => jx_W d m q ls r h Q) x t sw) : jx_W d m pc ls st h Q := jx_W_closed.2.2.1 d m pc ls st h Q x r t sw hx hs
theorem jx_done {d m pc : Nat} {ls : jx_L} {st : List Value} {h : jx_H} {Q : jx_Q} {o : List Prop} {v : Option Value} (hx : jx_end (jx_code m) pc st = some (o, v)) (ho : jx_all o) (hq : Q v h) : jx_W d m pc ls st h Q := jx_W_closed.2.2.2.1 d m pc ls st h Q o v hx ho hq
theorem jx_call {d m pc : Nat} {ls : jx_L} {st : List Value} {h : jx_H} {Q : jx_Q} (d1 : Nat) {Qc : jx_Q} {j : Nat} {ls2 : jx_L} {r : List Value} {pc2 : Nat} (hx : jx_cal (jx_code m) pc st h = some (j, ls2, r, pc2)) (hd : d1 < d) (k1 : jx_W d1 j 0 ls2 [] h Qc) (k2 : ∀ v h', Qc v h' → jx_W d m pc2 ls (v.toList ++ r) h' Q) : jx_W d m pc ls st h Q := jx_W_closed.2.2.2.2.1 d d1 m pc ls st h Q Qc j ls2 r pc2 hx hd k1 k2
/-- a call whose answer and world are known -/
theorem jx_callE {d m pc : Nat} {ls : jx_L} {st : List Value} {h : jx_H} {Q : jx_Q} (d1 : Nat) {v : Option Value} {h1 : jx_H} {j : Nat} {ls2 : jx_L} {r : List Value} {pc2 : Nat} (hx : jx_cal (jx_code m) pc st h = some (j, ls2, r, pc2)) (hd : d1 < d) (k1 : jx_W d1 j 0 ls2 [] h (fun v' h' => v' = v ∧ h' = h1)) (k2 : jx_W d m pc2 ls (v.toList ++ r) h1 Q) : jx_W d m pc ls st h Q :=
  jx_call d1 hx hd k1 (fun v' h' hq => by obtain ⟨rfl, rfl⟩ := hq; exact k2)
theorem jx_kind_of {x : Int32} {h : jx_H} {Q : jx_Q} (hq : Q (some (.int (jx_kindOf x))) h) : jx_W 8 jk_X6_kindOf 0 [some (.int x)] [] h Q := jx_W_closed.2.2.2.2.2 8 x h Q (Nat.le_refl 8) hq
theorem jx_mono {d m pc : Nat} {ls : jx_L} {st : List Value} {h : jx_H} {Q Q' : jx_Q} (k : jx_W d m pc ls st h Q) (hq : ∀ v h', Q v h' → Q' v h') : jx_W d m pc ls st h Q' := by
  refine k (fun d m pc ls st h Q => ∀ Q' : jx_Q, (∀ v h', Q v h' → Q' v h') → jx_W d m pc ls st h Q') ⟨?_, ?_, ?_, ?_, ?_, ?_⟩ Q' hq
  · intro d m pc ls st h Q o pc' ls' st' h' hd hx ho k Q' hq
    exact jx_W_closed.1 d m pc ls st h Q' o pc' ls' st' h' hd hx ho (k Q' hq)
  · intro d m pc ls st h Q c r t f hx ht hf Q' hq
    exact jx_W_closed.2.1 d m pc ls st h Q' c r t f hx (fun z => ht z Q' hq) (fun z => hf z Q' hq)
  · intro d m pc ls st h Q x r t sw hx hs Q' hq
    refine jx_W_closed.2.2.1 d m pc ls st h Q' x r t sw hx ?_
    clear hx
    induction sw with
    | nil => exact hs Q' hq
    | cons q sw ih => exact ⟨fun z => hs.1 z Q' hq, fun z => ih (hs.2 z)⟩
  · intro d m pc ls st h Q o v hx ho h1 Q' hq
    exact jx_W_closed.2.2.2.1 d m pc ls st h Q' o v hx ho (hq v h h1)
  · intro d d1 m pc ls st h Q Qc j ls2 r pc2 hx hd k1 k2 Q' hq
    exact jx_W_closed.2.2.2.2.1 d d1 m pc ls st h Q' Qc j ls2 r pc2 hx hd (k1 Qc (fun _ _ z => z)) (fun v h' z => k2 v h' z Q' hq)
  · intro d x h Q hd h1 Q' hq
    exact jx_W_closed.2.2.2.2.2 d x h Q' hd (hq _ _ h1)
/-- equal places -/
theorem jx_at {d m pc pc' : Nat} {ls ls' : jx_L} {st st' : List Value} {h h' : jx_H} {Q : jx_Q} (k : jx_W d m pc' ls' st' h' Q) (e1 : pc = pc' := by rfl) (e2 : ls = ls' := by rfl) (e3 : st = st' := by rfl) (e4 : h = h' := by rfl) : jx_W d m pc ls st h Q := by
  subst e1; subst e2; subst e3; subst e4; exact k
theorem jx_getf {d m pc : Nat} {ls : jx_L} {r : List Value} {h : jx_H} {Q : jx_Q} {ix nx a b p : Nat} {sw : List (Int32 × Nat)} {ws : List Nat} {fs : List Value} {v : Value} (hl : jx_look (jx_code m) pc = some (.getfield ix, nx, a, b, sw, ws)) (hp : jx_get h p = some (.inr (a, fs))) (hv : jx_get fs b = some v) (k : jx_W d m nx ls (v :: r) h Q) (hd : 0 < d := by decide) : jx_W d m pc ls (.ref p :: r) h Q := by
  refine jx_W_closed.1 d m pc ls (.ref p :: r) h Q [] nx ls (v :: r) h hd ?_ trivial k
  simp [jx_one, hl, jx_next, jx_kind, jx_read, hp, hv]
theorem jx_alen {d m pc : Nat} {ls : jx_L} {r : List Value} {h : jx_H} {Q : jx_Q} {nx a b p t : Nat} {sw : List (Int32 × Nat)} {ws : List Nat} {l : List Int32} (hl : jx_look (jx_code m) pc = some (.arraylength, nx, a, b, sw, ws)) (hp : jx_get h p = some (.inl (t, l))) (k : jx_W d m nx ls (.int (Int32.ofNat l.length) :: r) h Q) (hd : 0 < d := by decide) : jx_W d m pc ls (.ref p :: r) h Q := by
  refine jx_W_closed.1 d m pc ls (.ref p :: r) h Q [] nx ls (.int (Int32.ofNat l.length) :: r) h hd ?_ trivial k
  simp [jx_one, hl, jx_next, jx_kind, jx_read, hp]
theorem jx_aget {d m pc : Nat} {ls : jx_L} {r : List Value} {h : jx_H} {Q : jx_Q} {nx a b p : Nat} {sw : List (Int32 × Nat)} {ws : List Nat} {l : List Int32} {j : Int32} (hl : jx_look (jx_code m) pc = some (.iaload, nx, a, b, sw, ws)) (hp : jx_get h p = some (.inl (0, l))) (hj : vp_in j l.length) (k : jx_W d m nx ls (.int (l.getD j.toNatClampNeg 0) :: r) h Q) (hd : 0 < d := by decide) : jx_W d m pc ls (.int j :: .ref p :: r) h Q := by
  refine jx_W_closed.1 d m pc ls (.int j :: .ref p :: r) h Q [vp_in j l.length] nx ls (.int (l.getD j.toNatClampNeg 0) :: r) h hd ?_ ⟨hj, trivial⟩ k
  simp [jx_one, hl, jx_next, jx_kind, jx_read, hp]
theorem jx_aset {d m pc : Nat} {ls : jx_L} {r : List Value} {h : jx_H} {Q : jx_Q} {nx a b p : Nat} {sw : List (Int32 × Nat)} {ws : List Nat} {l : List Int32} {j x : Int32} (hl : jx_look (jx_code m) pc = some (.iastore, nx, a, b, sw, ws)) (hp : jx_get h p = some (.inl (0, l))) (hj : vp_in j l.length) (k : jx_W d m nx ls r (h.set p (.inl (0, l.set j.toNatClampNeg x))) Q) (hd : 0 < d := by decide) : jx_W d m pc ls (.int x :: .int j :: .ref p :: r) h Q := by
  refine jx_W_closed.1 d m pc ls (.int x :: .int j :: .ref p :: r) h Q [vp_in j l.length] nx ls r (h.set p (.inl (0, l.set j.toNatClampNeg x))) hd ?_ ⟨hj, trivial⟩ k
  simp [jx_one, hl, jx_next, jx_kind, jx_write, hp]
