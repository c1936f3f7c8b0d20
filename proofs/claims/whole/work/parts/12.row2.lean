theorem jx_gs {h : jx_H} {q : Nat} {e0 e : jx_E} (h0 : jx_get h q = some e0) : jx_get (h.set q e) q = some e := by
  have hl := jx_get_lt h0
  rw [jx_get_eq, List.getElem?_set_self hl]
theorem jx_gn {h : jx_H} {p q : Nat} {e : jx_E} (hpq : p ≠ q) : jx_get (h.set q e) p = jx_get h p := by
  rw [jx_get_eq, jx_get_eq, List.getElem?_set_ne (Ne.symm hpq)]
theorem jx_rq {h : jx_H} {p q : Nat} {o : Nat × List Value} {l : Nat × List Int32} (hp : jx_get h p = some (.inr o)) (hq : jx_get h q = some (.inl l)) : p ≠ q := fun e => by rw [e, hq] at hp; cases hp
theorem jr_clear {h : jx_H} {p q : Nat} {l : List Int32} (hl : l.length < 2 ^ 31) (hp : jx_get h p = some (.inr (4, [.ref q]))) (hq : jx_get h q = some (.inl (0, l))) : jx_W 1 jk_X4_clear 0 [some (.ref p), none] [] h (fun v h' => v = none ∧ ∃ l', h' = h.set q (.inl (0, l')) ∧ l'.length = l.length ∧ ∀ k, k < l.length → l'.getD k 0 = 0) := by
  have hpq := jx_rq hp hq
  refine jx_steps 2 rfl trivial ?_
  have loop : ∀ k i, i + k = l.length → ∀ l1 : List Int32, l1.length = l.length → (∀ k, k < i → l1.getD k 0 = 0) → jx_W 1 jk_X4_clear 2 [some (.ref p), some (.int (nI i))] [] (h.set q (.inl (0, l1))) (fun v h' => v = none ∧ ∃ l', h' = h.set q (.inl (0, l')) ∧ l'.length = l.length ∧ ∀ k, k < l.length → l'.getD k 0 = 0) := by
    intro k
    induction k with
    | zero =>
      intro i hi l1 h1 h2
      refine jx_steps 2 rfl trivial ?_
      refine jx_getf rfl ((jx_gn hpq).trans hp) rfl ?_
      refine jx_alen rfl (jx_gs hq) ?_
      refine jx_if rfl (fun _ => ?_) (fun c1 => absurd (nI_le (by omega) (by omega)) c1)
      exact jx_done rfl trivial ⟨rfl, l1, rfl, h1, fun k hk => h2 k (by omega)⟩
    | succ k ih =>
      intro i hi l1 h1 h2
      refine jx_steps 2 rfl trivial ?_
      refine jx_getf rfl ((jx_gn hpq).trans hp) rfl ?_
      refine jx_alen rfl (jx_gs hq) ?_
      refine jx_if rfl (fun c1 => absurd c1 (nI_ge (by omega) (by omega))) (fun _ => ?_)
      refine jx_steps 1 rfl trivial ?_
      refine jx_getf rfl ((jx_gn hpq).trans hp) rfl ?_
      refine jx_steps 2 rfl trivial ?_
      refine jx_aset rfl (jx_gs hq) (vp_in_nI (by omega) (by omega)) ?_
      rw [nI_clamp (by omega), List.set_set]
      refine jx_steps 2 rfl trivial ?_
      rw [nI_1]
      refine ih (i + 1) (by omega) _ (by simpa using h1) (fun k hk => ?_)
      by_cases e : k = i
      · subst e
        simp [List.getD, List.getElem?_set_self (show k < l1.length by omega)]
      · rw [List.getD, List.getElem?_set_ne (Ne.symm e)]
        exact h2 k (by omega)
  have e : h = h.set q (.inl (0, l)) := by
    apply List.ext_getElem?
    intro j
    rw [List.getElem?_set]
    by_cases hj : q = j
    · subst hj
      rw [jx_get_eq] at hq
      rw [if_pos rfl, hq, if_pos (List.getElem?_eq_some_iff.mp hq).1]
    · rw [if_neg hj]
  refine jx_at (loop l.length 0 (by omega) l rfl (fun k hk => absurd hk (Nat.not_lt_zero k))) rfl rfl rfl e
theorem jr_takeFrom {h : jx_H} {p q p2 q2 : Nat} {l l2 : List Int32} (hl : l.length < 2 ^ 31) (hp : jx_get h p = some (.inr (4, [.ref q]))) (hq : jx_get h q = some (.inl (0, l))) (hp2 : jx_get h p2 = some (.inr (4, [.ref q2]))) (hq2 : jx_get h q2 = some (.inl (0, l2))) (hne : q2 ≠ q) (hll : l2.length = l.length) : jx_W 2 jk_X4_takeFrom 0 [some (.ref p), some (.ref p2), none] [] h (jx_is none (h.set q (.inl (0, l2)))) := by
  have hpq := jx_rq hp hq
  have hpq2 := jx_rq hp2 hq
  refine jx_steps 4 rfl trivial ?_
  have loop : ∀ k i, i + k = l.length → ∀ l1 : List Int32, l1.length = l.length → (∀ k, k < i → l1.getD k 0 = l2.getD k 0) → jx_W 2 jk_X4_takeFrom 7 [some (.ref p), some (.ref p2), some (.int (nI i))] [] (h.set q (.inl (0, l1))) (jx_is none (h.set q (.inl (0, l2)))) := by
    intro k
    induction k with
    | zero =>
      intro i hi l1 h1 h2
      refine jx_steps 2 rfl trivial ?_
      refine jx_getf rfl ((jx_gn hpq).trans hp) rfl ?_
      refine jx_alen rfl (jx_gs hq) ?_
      refine jx_if rfl (fun _ => ?_) (fun c1 => absurd (nI_le (by omega) (by omega)) c1)
      have e : l1 = l2 := by
        apply List.ext_getElem (by omega)
        intro j hj1 hj2
        have := h2 j (by omega)
        simpa [List.getD, hj1, hj2] using this
      rw [e]
      exact jx_ends rfl trivial
    | succ k ih =>
      intro i hi l1 h1 h2
      refine jx_steps 2 rfl trivial ?_
      refine jx_getf rfl ((jx_gn hpq).trans hp) rfl ?_
      refine jx_alen rfl (jx_gs hq) ?_
      refine jx_if rfl (fun c1 => absurd c1 (nI_ge (by omega) (by omega))) (fun _ => ?_)
      refine jx_steps 1 rfl trivial ?_
      refine jx_getf rfl ((jx_gn hpq).trans hp) rfl ?_
      refine jx_steps 3 rfl trivial ?_
      have hc : jx_cal (jx_code jk_X4_takeFrom) 23 [.int (nI i), .ref p2, .int (nI i), .ref q] (h.set q (.inl (0, l1))) = some (jk_X4_at, [some (.ref p2), some (.int (nI i))], [.int (nI i), .ref q], 26) := by
        have e := (jx_gn (e := .inl (0, l1)) hpq2).trans hp2
        show (match jx_get (h.set q (.inl (0, l1))) p2 with | some (.inr (ci, _)) => _ | _ => none) = _
        rw [e]; rfl
      refine jx_callE 1 hc (by decide) (jr_at (by omega) ((jx_gn hpq2).trans hp2) ((jx_gn hne).trans hq2)) ?_
      refine jx_at (pc' := 26) (st' := [.int (jp_at l2 (nI i)), .int (nI i), .ref q]) ?_
      refine jx_aset rfl (jx_gs hq) (vp_in_nI (by omega) (by omega)) ?_
      rw [nI_clamp (by omega), List.set_set, jp_at_in (by omega) (by omega)]
      refine jx_steps 2 rfl trivial ?_
      rw [nI_1]
      refine ih (i + 1) (by omega) _ (by simpa using h1) (fun k hk => ?_)
      by_cases e : k = i
      · subst e
        simp [List.getD, List.getElem?_set_self (show k < l1.length by omega)]
      · rw [List.getD, List.getElem?_set_ne (Ne.symm e)]
        exact h2 k (by omega)
  have e : h = h.set q (.inl (0, l)) := by
    apply List.ext_getElem?
    intro j
    rw [List.getElem?_set]
    by_cases hj : q = j
    · subst hj
      rw [jx_get_eq] at hq
      rw [if_pos rfl, hq, if_pos (List.getElem?_eq_some_iff.mp hq).1]
    · rw [if_neg hj]
  refine jx_at (loop l.length 0 (by omega) l rfl (fun k hk => absurd hk (Nat.not_lt_zero k))) rfl rfl rfl e
