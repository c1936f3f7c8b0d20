/-! the reference's firstRow, keepRow -/
def nx_bo (n : Nat) (p : List Nat) : List Int32 := p.map nI ++ List.replicate (6 - n) (-1)
def nx_b0 : List Int32 := List.replicate 6 (-1)
theorem nx_bo_len {n : Nat} {p : List Nat} (hp : p.length = n) (hn : n ≤ 6) : (nx_bo n p).length = 6 := by
  unfold nx_bo; simp; omega
theorem nx_bo_get {n : Nat} {p : List Nat} (hp : p.length = n) {k : Nat} (hk : k < 6) : (nx_bo n p).getD k 0 = if k < n then nI (p.getD k 0) else -1 := by
  unfold nx_bo
  by_cases e : k < n
  · rw [if_pos e, ← nx_map_get, List.getD, List.getD, List.getElem?_append_left (by simp; omega)]
  · rw [if_neg e, List.getD, List.getElem?_append_right (by simp; omega), List.getElem?_replicate, if_pos (by simp; omega)]
    rfl
theorem nx_b0_get {k : Nat} (hk : k < 6) : nx_b0.getD k 0 = -1 := by
  unfold nx_b0
  rw [List.getD, List.getElem?_replicate, if_pos hk]
  rfl
section
variable {v : Nat → Int32} {a : Nat → List Int32} {w u : Int64}
theorem jm_firstRow (l12 : (a 12).length = 6) (l13 : (a 13).length = 6) : jx_W 1 jk_X7_firstRow 0 [some (.ref 0), none] [] (jM v a w u) (jx_is none (jM v (jup (jup a 12 ((List.range 6).map nI)) 13 nx_b0) w u)) := by
  refine jx_steps 2 rfl trivial ?_
  have hw : ∀ i, i < 6 → ¬ (6 : Int32) ≤ nI i := by decide
  have loop : ∀ k i, i + k = 6 → ∀ s t : List Int32, s.length = 6 → t.length = 6 → (∀ j, j < i → s.getD j 0 = nI j) → (∀ j, j < i → t.getD j 0 = -1) → jx_W 1 jk_X7_firstRow 2 [some (.ref 0), some (.int (nI i))] [] (jM v (jup (jup a 12 s) 13 t) w u) (jx_is none (jM v (jup (jup a 12 ((List.range 6).map nI)) 13 nx_b0) w u)) := by
    intro k
    induction k with
    | zero =>
      intro i hi s t h1 h2 h3 h4
      have e : i = 6 := by omega
      subst e
      refine jx_auto rfl trivial ?_
      refine jx_if rfl (fun _ => ?_) (fun c1 => absurd (by decide) c1)
      refine jx_ends rfl trivial rfl ?_
      rw [jl_ext6 h1 (l' := (List.range 6).map nI) rfl (fun k hk => by
        rw [h3 k hk, nx_map_get, List.getD, List.getElem?_range hk]; rfl), jl_ext6 h2 (l' := nx_b0) rfl (fun k hk => by rw [h4 k hk, nx_b0_get hk])]
    | succ k ih =>
      intro i hi s t h1 h2 h3 h4
      refine jx_auto rfl trivial ?_
      refine jx_if rfl (fun c1 => absurd c1 (hw i (by omega))) (fun _ => ?_)
      refine jx_steps 5 rfl ⟨by show vp_in (nI i) s.length; exact vp_in_nI (by omega) (by omega), trivial⟩ ?_
      refine jx_at (h' := jM v (jup (jup a 12 (s.set i (nI i))) 13 t) w u) ?_ rfl rfl rfl (by rw [nI_clamp (by omega)]; rfl)
      refine jx_steps 5 rfl ⟨by show vp_in (nI i) t.length; exact vp_in_nI (by omega) (by omega), trivial⟩ ?_
      rw [nI_clamp (by omega)]
      refine jx_steps 2 rfl trivial ?_
      rw [nI_1]
      refine jx_at (ih (i + 1) (by omega) (s.set i (nI i)) (t.set i (-1)) (by simpa using h1) (by simpa using h2) (fun j hj => ?_) (fun j hj => ?_)) rfl rfl rfl rfl
      · by_cases e : j = i
        · rw [e, jl_getset (by omega)]
        · rw [jl_getne e]; exact h3 j (by omega)
      · by_cases e : j = i
        · rw [e, jl_getset (by omega)]
        · rw [jl_getne e]; exact h4 j (by omega)
  refine jx_at (loop 6 0 (by omega) (a 12) (a 13) l12 l13 (fun j hj => absurd hj (Nat.not_lt_zero j)) (fun j hj => absurd hj (Nat.not_lt_zero j))) rfl rfl rfl ?_
  rfl
theorem jm_keepRow {n : Nat} (hn : n ≤ 6) {p : List Nat} (hp : p.length = n) {b : List Int32} (hb : b.length = 6) (hb2 : ∀ k, n ≤ k → k < 6 → b.getD k 0 = -1) : jx_W 1 jk_X7_keepRow 0 [some (.ref 0), some (.int (nI n)), none] [] (jM v (jup (jup a 12 ((nx_ro n p).map nI)) 13 b) w u) (jx_is none (jM v (jup (jup a 12 ((nx_ro n p).map nI)) 13 (nx_bo n p)) w u)) := by
  have hr : (nx_ro n p).length = 6 := by unfold nx_ro; simp; omega
  refine jx_steps 2 rfl trivial ?_
  have loop : ∀ k i, i + k = n → ∀ s : List Int32, s.length = 6 → (∀ j, j < i → s.getD j 0 = nI (p.getD j 0)) → (∀ j, n ≤ j → j < 6 → s.getD j 0 = -1) → jx_W 1 jk_X7_keepRow 2 [some (.ref 0), some (.int (nI n)), some (.int (nI i))] [] (jM v (jup (jup a 12 ((nx_ro n p).map nI)) 13 s) w u) (jx_is none (jM v (jup (jup a 12 ((nx_ro n p).map nI)) 13 (nx_bo n p)) w u)) := by
    intro k
    induction k with
    | zero =>
      intro i hi s h1 h2 h3
      have e : i = n := by omega
      subst e
      refine jx_auto rfl trivial ?_
      refine jx_if rfl (fun _ => ?_) (fun c1 => absurd (nI_le (Nat.le_refl i) (by omega)) c1)
      refine jx_ends rfl trivial rfl ?_
      rw [jl_ext6 h1 (nx_bo_len hp hn) (fun k hk => by
        rw [nx_bo_get hp hk]
        by_cases e : k < i
        · rw [if_pos e, h2 k e]
        · rw [if_neg e, h3 k (by omega) hk])]
    | succ k ih =>
      intro i hi s h1 h2 h3
      refine jx_auto rfl trivial ?_
      refine jx_if rfl (fun c1 => absurd c1 (nI_ge (by omega) (by omega))) (fun _ => ?_)
      refine jx_steps 8 rfl ⟨by show vp_in (nI i) s.length; exact vp_in_nI (by omega) (by omega), by show vp_in (nI i) ((nx_ro n p).map nI).length; rw [List.length_map]; exact vp_in_nI (by omega) (by omega), trivial⟩ ?_
      have e1 : (jup (jup a 12 ((nx_ro n p).map nI)) 13 s 12).getD (nI i).toNatClampNeg 0 = nI (p.getD i 0) := by
        show ((nx_ro n p).map nI).getD (nI i).toNatClampNeg 0 = _
        rw [nI_clamp (by omega), nx_map_get, nx_ro_get hp (by omega)]
      rw [e1, nI_clamp (by omega)]
      refine jx_steps 2 rfl trivial ?_
      rw [nI_1]
      refine jx_at (ih (i + 1) (by omega) (s.set i (nI (p.getD i 0))) (by simpa using h1) (fun j hj => ?_) (fun j hj hj6 => ?_)) rfl rfl rfl rfl
      · by_cases e : j = i
        · rw [e, jl_getset (by omega)]
        · rw [jl_getne e]; exact h2 j (by omega)
      · rw [jl_getne (by omega)]; exact h3 j hj hj6
  exact loop n 0 (by omega) b hb (fun j hj => absurd hj (Nat.not_lt_zero j)) hb2
end
