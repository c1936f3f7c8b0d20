/-! runs up to the next branch, call or return; rules for worlds that are not written out -/
def jx_run (c : jx_C) : Nat → List Prop → Nat → jx_L → List Value → jx_H → jx_R
  | 0, acc, pc, ls, st, h => (acc, pc, ls, st, h)
  | n + 1, acc, pc, ls, st, h => match jx_one c pc ls st h with
    | some ([], pc', ls', st', h') => jx_run c n acc pc' ls' st' h'
    | some ([p], pc', ls', st', h') => jx_run c n (p :: acc) pc' ls' st' h'
    | _ => (acc, pc, ls, st, h)
theorem jx_run_acc {c : jx_C} : ∀ (k : Nat) (acc : List Prop) (pc : Nat) (ls : jx_L) (st : List Value) (h : jx_H) (o : List Prop) (s : jx_S), jx_run c k acc pc ls st h = (o, s) → jx_all o → jx_all acc := by
  intro k
  induction k with
  | zero =>
    intro acc pc ls st h o s hx ho
    simp only [jx_run, Prod.mk.injEq] at hx
    rw [hx.1]; exact ho
  | succ k ih =>
    intro acc pc ls st h o s hx ho
    rw [jx_run] at hx
    split at hx
    · exact ih _ _ _ _ _ _ _ hx ho
    · exact (ih _ _ _ _ _ _ _ hx ho).2
    · simp only [Prod.mk.injEq] at hx
      rw [hx.1]; exact ho
theorem jx_autoA {d m : Nat} (hd : 0 < d) {Q : jx_Q} {o : List Prop} {pc' : Nat} {ls' : jx_L} {st' : List Value} {h' : jx_H} (ho : jx_all o) (kk : jx_W d m pc' ls' st' h' Q) : ∀ (k : Nat) (acc : List Prop) (pc : Nat) (ls : jx_L) (st : List Value) (h : jx_H), jx_run (jx_code m) k acc pc ls st h = (o, pc', ls', st', h') → jx_W d m pc ls st h Q := by
  intro k
  induction k with
  | zero =>
    intro acc pc ls st h hx
    simp only [jx_run, Prod.mk.injEq] at hx
    obtain ⟨-, rfl, rfl, rfl, rfl⟩ := hx
    exact kk
  | succ k ih =>
    intro acc pc ls st h hx
    rw [jx_run] at hx
    split at hx
    · rename_i h1
      exact jx_W_closed.1 d m pc ls st h Q _ _ _ _ _ hd h1 trivial (ih _ _ _ _ _ hx)
    · rename_i h1
      exact jx_W_closed.1 d m pc ls st h Q _ _ _ _ _ hd h1 ⟨(jx_run_acc k _ _ _ _ _ _ _ hx ho).1, trivial⟩ (ih _ _ _ _ _ hx)
    · simp only [Prod.mk.injEq] at hx
      obtain ⟨-, rfl, rfl, rfl, rfl⟩ := hx
      exact kk
/-- on to the next branch, call or return -/
theorem jx_auto {d m pc : Nat} {ls : jx_L} {st : List Value} {h : jx_H} {Q : jx_Q} {o : List Prop} {pc' : Nat} {ls' : jx_L} {st' : List Value} {h' : jx_H} (hx : jx_run (jx_code m) 60 [] pc ls st h = (o, pc', ls', st', h')) (ho : jx_all o) (kk : jx_W d m pc' ls' st' h' Q) (hd : 0 < d := by decide) : jx_W d m pc ls st h Q := jx_autoA hd ho kk 60 [] pc ls st h hx
/-- an answer and a world that are known -/
abbrev jx_is (r : Option Value) (h : jx_H) : jx_Q := fun v h' => v = r ∧ h' = h
theorem jx_ends {d m pc : Nat} {ls : jx_L} {st : List Value} {h h1 : jx_H} {r : Option Value} {o : List Prop} {v : Option Value} (hx : jx_end (jx_code m) pc st = some (o, v)) (ho : jx_all o) (e1 : v = r := by rfl) (e2 : h = h1 := by rfl) : jx_W d m pc ls st h (jx_is r h1) := jx_done hx ho ⟨e1, e2⟩
theorem jx_deep {d d' m pc : Nat} {ls : jx_L} {st : List Value} {h : jx_H} {Q : jx_Q} (hd : d ≤ d') (k : jx_W d m pc ls st h Q) : jx_W d' m pc ls st h Q := by
  refine k (fun d m pc ls st h Q => ∀ d', d ≤ d' → jx_W d' m pc ls st h Q) ⟨?_, ?_, ?_, ?_, ?_, ?_⟩ d' hd
  · intro d m pc ls st h Q o pc' ls' st' h' h0 hx ho ih d' hd
    exact jx_W_closed.1 d' m pc ls st h Q o pc' ls' st' h' (by omega) hx ho (ih d' hd)
  · intro d m pc ls st h Q c r t f hx ht hf d' hd
    exact jx_W_closed.2.1 d' m pc ls st h Q c r t f hx (fun z => ht z d' hd) (fun z => hf z d' hd)
  · intro d m pc ls st h Q x r t sw hx hs d' hd
    refine jx_W_closed.2.2.1 d' m pc ls st h Q x r t sw hx ?_
    clear hx
    induction sw with
    | nil => exact hs d' hd
    | cons q sw ih => exact ⟨fun z => hs.1 z d' hd, fun z => ih (hs.2 z)⟩
  · intro d m pc ls st h Q o v hx ho hq d' hd
    exact jx_W_closed.2.2.2.1 d' m pc ls st h Q o v hx ho hq
  · intro d d1 m pc ls st h Q Qc j ls2 r pc2 hx hlt k1 k2 d' hd
    exact jx_W_closed.2.2.2.2.1 d' d1 m pc ls st h Q Qc j ls2 r pc2 hx (by omega) (k1 d1 (Nat.le_refl _)) (fun v h' z => k2 v h' z d' hd)
  · intro d x h Q h8 hq d' hd
    exact jx_W_closed.2.2.2.2.2 d' x h Q (by omega) hq
