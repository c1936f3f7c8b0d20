/-! the reference copies its rows: image and restore -/
def jcp (b : Nat → List Int32) (D S i : Nat) : Nat → List Int32 := jup b D ((b D).set i ((b S).getD i 0))
section
variable {v : Nat → Int32} {a : Nat → List Int32} {w u : Int64}
theorem jm_image2 {b0 : Nat → List Int32} (l : (b0 18).length = 4) (k4 : (b0 2).length = 4) : jx_W 2 jk_X7_image 147 [some (.ref 0), some (.int (nI 0))] [] (jM v b0 w u) (fun r h' => r = some (.int (v 5)) ∧ h' = jM v (jup b0 18 (b0 2)) w u) := by
  have hw : ∀ i, i < 4 → ¬ (4 : Int32) ≤ nI i := by decide
  have loop : ∀ k i, i + k = 4 → ∀ s : List Int32, s.length = 4 → (∀ j, j < i → s.getD j 0 = (b0 2).getD j 0) → jx_W 2 jk_X7_image 147 [some (.ref 0), some (.int (nI i))] [] (jM v (jup b0 18 s) w u) (fun r h' => r = some (.int (v 5)) ∧ h' = jM v (jup b0 18 (b0 2)) w u) := by
    intro k
    induction k with
    | zero =>
      intro i hi s h1 h2
      have e : i = 4 := by omega
      subst e
      have es : s = b0 2 := by
        apply List.ext_getElem (by omega)
        intro n n1 n2
        have := h2 n (by omega)
        simpa [List.getD, n1, n2] using this
      subst es
      refine jx_auto rfl trivial ?_
      refine jx_if rfl (fun _ => ?_) (fun c1 => absurd (by decide) c1)
      refine jx_auto rfl trivial ?_
      exact jx_done rfl trivial ⟨rfl, rfl⟩
    | succ k ih =>
      intro i hi s h1 h2
      refine jx_auto rfl trivial ?_
      refine jx_if rfl (fun c1 => absurd c1 (hw i (by omega))) (fun _ => ?_)
      refine jx_steps 8 rfl ⟨by show vp_in (nI i) s.length; exact vp_in_nI (by omega) (by omega), by show vp_in (nI i) (b0 2).length; exact vp_in_nI (by omega) (by omega), trivial⟩ ?_
      rw [nI_clamp (by omega)]
      refine jx_steps 2 rfl trivial ?_
      rw [nI_1]
      refine jx_at (ih (i + 1) (by omega) (s.set i ((b0 2).getD i 0)) (by simpa using h1) (fun j hj => ?_)) rfl rfl rfl rfl
      by_cases e : j = i
      · rw [e, jl_getset (by omega)]
      · rw [jl_getne e]; exact h2 j (by omega)
  refine jx_at (loop 4 0 (by omega) (b0 18) l (fun j hj => absurd hj (Nat.not_lt_zero j))) rfl rfl rfl ?_
  rfl
theorem jm_image1 (l16 : (a 16).length = 6) (k0 : (a 0).length = 6) (l17 : (a 17).length = 6) (k1 : (a 1).length = 6) (l19 : (a 19).length = 6) (k4 : (a 4).length = 6) (l20 : (a 20).length = 6) (k5 : (a 5).length = 6) (l21 : (a 21).length = 6) (k6 : (a 6).length = 6) (l22 : (a 22).length = 6) (k7 : (a 7).length = 6) (l23 : (a 23).length = 6) (k8 : (a 8).length = 6) (l18 : (a 18).length = 4) (k2 : (a 2).length = 4) : jx_W 2 jk_X7_image 49 [some (.ref 0), some (.int (nI 0))] [] (jM v a w u) (fun r h' => r = some (.int (v 5)) ∧ ∃ b, h' = jM v b w u ∧ (∀ j, (j ≠ 16 ∧ j ≠ 17 ∧ j ≠ 19 ∧ j ≠ 20 ∧ j ≠ 21 ∧ j ≠ 22 ∧ j ≠ 23 ∧ j ≠ 18) → b j = a j) ∧ b 16 = a 0 ∧ b 17 = a 1 ∧ b 19 = a 4 ∧ b 20 = a 5 ∧ b 21 = a 6 ∧ b 22 = a 7 ∧ b 23 = a 8 ∧ b 18 = a 2) := by
  have hw : ∀ i, i < 6 → ¬ (6 : Int32) ≤ nI i := by decide
  have loop : ∀ k i, i + k = 6 → ∀ b : Nat → List Int32, (∀ j, (j ≠ 16 ∧ j ≠ 17 ∧ j ≠ 19 ∧ j ≠ 20 ∧ j ≠ 21 ∧ j ≠ 22 ∧ j ≠ 23) → b j = a j) → (b 16).length = 6 → (b 17).length = 6 → (b 19).length = 6 → (b 20).length = 6 → (b 21).length = 6 → (b 22).length = 6 → (b 23).length = 6 → (∀ j, j < i → (b 16).getD j 0 = (a 0).getD j 0) → (∀ j, j < i → (b 17).getD j 0 = (a 1).getD j 0) → (∀ j, j < i → (b 19).getD j 0 = (a 4).getD j 0) → (∀ j, j < i → (b 20).getD j 0 = (a 5).getD j 0) → (∀ j, j < i → (b 21).getD j 0 = (a 6).getD j 0) → (∀ j, j < i → (b 22).getD j 0 = (a 7).getD j 0) → (∀ j, j < i → (b 23).getD j 0 = (a 8).getD j 0) → jx_W 2 jk_X7_image 49 [some (.ref 0), some (.int (nI i))] [] (jM v b w u) (fun r h' => r = some (.int (v 5)) ∧ ∃ b, h' = jM v b w u ∧ (∀ j, (j ≠ 16 ∧ j ≠ 17 ∧ j ≠ 19 ∧ j ≠ 20 ∧ j ≠ 21 ∧ j ≠ 22 ∧ j ≠ 23 ∧ j ≠ 18) → b j = a j) ∧ b 16 = a 0 ∧ b 17 = a 1 ∧ b 19 = a 4 ∧ b 20 = a 5 ∧ b 21 = a 6 ∧ b 22 = a 7 ∧ b 23 = a 8 ∧ b 18 = a 2) := by
    intro k
    induction k with
    | zero =>
      intro i hi b hb m16 m17 m19 m20 m21 m22 m23 g16 g17 g19 g20 g21 g22 g23
      have e : i = 6 := by omega
      subst e
      refine jx_auto rfl trivial ?_
      refine jx_if rfl (fun _ => ?_) (fun c1 => absurd (by decide) c1)
      refine jx_steps 2 rfl trivial ?_
      refine jx_mono (jx_at (jm_image2 (b0 := b) (by rw [hb 18 (by decide)]; exact l18) (by rw [hb 2 (by decide)]; exact k2))) (fun r h' hq => ?_)
      obtain ⟨rfl, rfl⟩ := hq
      refine ⟨rfl, _, rfl, fun j hj => ?_, jl_ext6 (l := b 16) (l' := a 0) m16 k0 g16, jl_ext6 (l := b 17) (l' := a 1) m17 k1 g17, jl_ext6 (l := b 19) (l' := a 4) m19 k4 g19, jl_ext6 (l := b 20) (l' := a 5) m20 k5 g20, jl_ext6 (l := b 21) (l' := a 6) m21 k6 g21, jl_ext6 (l := b 22) (l' := a 7) m22 k7 g22, jl_ext6 (l := b 23) (l' := a 8) m23 k8 g23, ?_⟩
      · rw [jup_n _ _ (by omega), hb j (by omega)]
      · show b 2 = a 2
        exact hb 2 (by decide)
    | succ k ih =>
      intro i hi b hb m16 m17 m19 m20 m21 m22 m23 g16 g17 g19 g20 g21 g22 g23
      refine jx_auto rfl trivial ?_
      refine jx_if rfl (fun c1 => absurd c1 (hw i (by omega))) (fun _ => ?_)
      refine jx_steps 8 rfl ⟨by show vp_in (nI i) (b 16).length; exact vp_in_nI (by omega) (by omega), by show vp_in (nI i) (b 0).length; rw [hb 0 (by decide)]; exact vp_in_nI (by omega) (by omega), trivial⟩ ?_
      rw [nI_clamp (by omega)]
      refine jx_at (h' := jM v (jcp (b) 16 0 i) w u) ?_ rfl rfl rfl rfl
      refine jx_steps 8 rfl ⟨by show vp_in (nI i) (b 17).length; exact vp_in_nI (by omega) (by omega), by show vp_in (nI i) (b 1).length; rw [hb 1 (by decide)]; exact vp_in_nI (by omega) (by omega), trivial⟩ ?_
      rw [nI_clamp (by omega)]
      refine jx_at (h' := jM v (jcp (jcp (b) 16 0 i) 17 1 i) w u) ?_ rfl rfl rfl rfl
      refine jx_steps 8 rfl ⟨by show vp_in (nI i) (b 19).length; exact vp_in_nI (by omega) (by omega), by show vp_in (nI i) (b 4).length; rw [hb 4 (by decide)]; exact vp_in_nI (by omega) (by omega), trivial⟩ ?_
      rw [nI_clamp (by omega)]
      refine jx_at (h' := jM v (jcp (jcp (jcp (b) 16 0 i) 17 1 i) 19 4 i) w u) ?_ rfl rfl rfl rfl
      refine jx_steps 8 rfl ⟨by show vp_in (nI i) (b 20).length; exact vp_in_nI (by omega) (by omega), by show vp_in (nI i) (b 5).length; rw [hb 5 (by decide)]; exact vp_in_nI (by omega) (by omega), trivial⟩ ?_
      rw [nI_clamp (by omega)]
      refine jx_at (h' := jM v (jcp (jcp (jcp (jcp (b) 16 0 i) 17 1 i) 19 4 i) 20 5 i) w u) ?_ rfl rfl rfl rfl
      refine jx_steps 8 rfl ⟨by show vp_in (nI i) (b 21).length; exact vp_in_nI (by omega) (by omega), by show vp_in (nI i) (b 6).length; rw [hb 6 (by decide)]; exact vp_in_nI (by omega) (by omega), trivial⟩ ?_
      rw [nI_clamp (by omega)]
      refine jx_at (h' := jM v (jcp (jcp (jcp (jcp (jcp (b) 16 0 i) 17 1 i) 19 4 i) 20 5 i) 21 6 i) w u) ?_ rfl rfl rfl rfl
      refine jx_steps 8 rfl ⟨by show vp_in (nI i) (b 22).length; exact vp_in_nI (by omega) (by omega), by show vp_in (nI i) (b 7).length; rw [hb 7 (by decide)]; exact vp_in_nI (by omega) (by omega), trivial⟩ ?_
      rw [nI_clamp (by omega)]
      refine jx_at (h' := jM v (jcp (jcp (jcp (jcp (jcp (jcp (b) 16 0 i) 17 1 i) 19 4 i) 20 5 i) 21 6 i) 22 7 i) w u) ?_ rfl rfl rfl rfl
      refine jx_steps 8 rfl ⟨by show vp_in (nI i) (b 23).length; exact vp_in_nI (by omega) (by omega), by show vp_in (nI i) (b 8).length; rw [hb 8 (by decide)]; exact vp_in_nI (by omega) (by omega), trivial⟩ ?_
      rw [nI_clamp (by omega)]
      refine jx_at (h' := jM v (jcp (jcp (jcp (jcp (jcp (jcp (jcp (b) 16 0 i) 17 1 i) 19 4 i) 20 5 i) 21 6 i) 22 7 i) 23 8 i) w u) ?_ rfl rfl rfl rfl
      refine jx_steps 2 rfl trivial ?_
      rw [nI_1]
      refine ih (i + 1) (by omega) (jcp (jcp (jcp (jcp (jcp (jcp (jcp (b) 16 0 i) 17 1 i) 19 4 i) 20 5 i) 21 6 i) 22 7 i) 23 8 i) (fun j hj => ?_) (List.length_set.trans m16) (List.length_set.trans m17) (List.length_set.trans m19) (List.length_set.trans m20) (List.length_set.trans m21) (List.length_set.trans m22) (List.length_set.trans m23) (fun j hj => ?_) (fun j hj => ?_) (fun j hj => ?_) (fun j hj => ?_) (fun j hj => ?_) (fun j hj => ?_) (fun j hj => ?_)
      · show jup _ _ _ j = _
        unfold jcp
        rw [jup_n _ _ (by omega), jup_n _ _ (by omega), jup_n _ _ (by omega), jup_n _ _ (by omega), jup_n _ _ (by omega), jup_n _ _ (by omega), jup_n _ _ (by omega)]
        exact hb j hj
      · show ((b 16).set i ((b 0).getD i 0)).getD j 0 = _
        by_cases e : j = i
        · rw [e, jl_getset (by omega), hb 0 (by decide)]
        · rw [jl_getne e]; exact g16 j (by omega)
      · show ((b 17).set i ((b 1).getD i 0)).getD j 0 = _
        by_cases e : j = i
        · rw [e, jl_getset (by omega), hb 1 (by decide)]
        · rw [jl_getne e]; exact g17 j (by omega)
      · show ((b 19).set i ((b 4).getD i 0)).getD j 0 = _
        by_cases e : j = i
        · rw [e, jl_getset (by omega), hb 4 (by decide)]
        · rw [jl_getne e]; exact g19 j (by omega)
      · show ((b 20).set i ((b 5).getD i 0)).getD j 0 = _
        by_cases e : j = i
        · rw [e, jl_getset (by omega), hb 5 (by decide)]
        · rw [jl_getne e]; exact g20 j (by omega)
      · show ((b 21).set i ((b 6).getD i 0)).getD j 0 = _
        by_cases e : j = i
        · rw [e, jl_getset (by omega), hb 6 (by decide)]
        · rw [jl_getne e]; exact g21 j (by omega)
      · show ((b 22).set i ((b 7).getD i 0)).getD j 0 = _
        by_cases e : j = i
        · rw [e, jl_getset (by omega), hb 7 (by decide)]
        · rw [jl_getne e]; exact g22 j (by omega)
      · show ((b 23).set i ((b 8).getD i 0)).getD j 0 = _
        by_cases e : j = i
        · rw [e, jl_getset (by omega), hb 8 (by decide)]
        · rw [jl_getne e]; exact g23 j (by omega)
  exact loop 6 0 (by omega) a (fun _ _ => rfl) l16 l17 l19 l20 l21 l22 l23 (fun j hj => absurd hj (Nat.not_lt_zero j)) (fun j hj => absurd hj (Nat.not_lt_zero j)) (fun j hj => absurd hj (Nat.not_lt_zero j)) (fun j hj => absurd hj (Nat.not_lt_zero j)) (fun j hj => absurd hj (Nat.not_lt_zero j)) (fun j hj => absurd hj (Nat.not_lt_zero j)) (fun j hj => absurd hj (Nat.not_lt_zero j))
theorem jm_restore2 {b0 : Nat → List Int32} (l : (b0 2).length = 4) (k4 : (b0 18).length = 4) : jx_W 2 jk_X7_restore 145 [some (.ref 0), some (.int (nI 0))] [] (jM v b0 w u) (fun r h' => r = some (.int (v 5)) ∧ h' = jM v (jup b0 2 (b0 18)) w u) := by
  have hw : ∀ i, i < 4 → ¬ (4 : Int32) ≤ nI i := by decide
  have loop : ∀ k i, i + k = 4 → ∀ s : List Int32, s.length = 4 → (∀ j, j < i → s.getD j 0 = (b0 18).getD j 0) → jx_W 2 jk_X7_restore 145 [some (.ref 0), some (.int (nI i))] [] (jM v (jup b0 2 s) w u) (fun r h' => r = some (.int (v 5)) ∧ h' = jM v (jup b0 2 (b0 18)) w u) := by
    intro k
    induction k with
    | zero =>
      intro i hi s h1 h2
      have e : i = 4 := by omega
      subst e
      have es : s = b0 18 := by
        apply List.ext_getElem (by omega)
        intro n n1 n2
        have := h2 n (by omega)
        simpa [List.getD, n1, n2] using this
      subst es
      refine jx_auto rfl trivial ?_
      refine jx_if rfl (fun _ => ?_) (fun c1 => absurd (by decide) c1)
      refine jx_auto rfl trivial ?_
      exact jx_done rfl trivial ⟨rfl, rfl⟩
    | succ k ih =>
      intro i hi s h1 h2
      refine jx_auto rfl trivial ?_
      refine jx_if rfl (fun c1 => absurd c1 (hw i (by omega))) (fun _ => ?_)
      refine jx_steps 8 rfl ⟨by show vp_in (nI i) s.length; exact vp_in_nI (by omega) (by omega), by show vp_in (nI i) (b0 18).length; exact vp_in_nI (by omega) (by omega), trivial⟩ ?_
      rw [nI_clamp (by omega)]
      refine jx_steps 2 rfl trivial ?_
      rw [nI_1]
      refine jx_at (ih (i + 1) (by omega) (s.set i ((b0 18).getD i 0)) (by simpa using h1) (fun j hj => ?_)) rfl rfl rfl rfl
      by_cases e : j = i
      · rw [e, jl_getset (by omega)]
      · rw [jl_getne e]; exact h2 j (by omega)
  refine jx_at (loop 4 0 (by omega) (b0 2) l (fun j hj => absurd hj (Nat.not_lt_zero j))) rfl rfl rfl ?_
  rfl
theorem jm_restore1 (l0 : (a 0).length = 6) (k16 : (a 16).length = 6) (l1 : (a 1).length = 6) (k17 : (a 17).length = 6) (l4 : (a 4).length = 6) (k19 : (a 19).length = 6) (l5 : (a 5).length = 6) (k20 : (a 20).length = 6) (l6 : (a 6).length = 6) (k21 : (a 21).length = 6) (l7 : (a 7).length = 6) (k22 : (a 22).length = 6) (l8 : (a 8).length = 6) (k23 : (a 23).length = 6) (l2 : (a 2).length = 4) (k18 : (a 18).length = 4) : jx_W 2 jk_X7_restore 47 [some (.ref 0), some (.int (nI 0))] [] (jM v a w u) (fun r h' => r = some (.int (v 5)) ∧ ∃ b, h' = jM v b w u ∧ (∀ j, (j ≠ 0 ∧ j ≠ 1 ∧ j ≠ 4 ∧ j ≠ 5 ∧ j ≠ 6 ∧ j ≠ 7 ∧ j ≠ 8 ∧ j ≠ 2) → b j = a j) ∧ b 0 = a 16 ∧ b 1 = a 17 ∧ b 4 = a 19 ∧ b 5 = a 20 ∧ b 6 = a 21 ∧ b 7 = a 22 ∧ b 8 = a 23 ∧ b 2 = a 18) := by
  have hw : ∀ i, i < 6 → ¬ (6 : Int32) ≤ nI i := by decide
  have loop : ∀ k i, i + k = 6 → ∀ b : Nat → List Int32, (∀ j, (j ≠ 0 ∧ j ≠ 1 ∧ j ≠ 4 ∧ j ≠ 5 ∧ j ≠ 6 ∧ j ≠ 7 ∧ j ≠ 8) → b j = a j) → (b 0).length = 6 → (b 1).length = 6 → (b 4).length = 6 → (b 5).length = 6 → (b 6).length = 6 → (b 7).length = 6 → (b 8).length = 6 → (∀ j, j < i → (b 0).getD j 0 = (a 16).getD j 0) → (∀ j, j < i → (b 1).getD j 0 = (a 17).getD j 0) → (∀ j, j < i → (b 4).getD j 0 = (a 19).getD j 0) → (∀ j, j < i → (b 5).getD j 0 = (a 20).getD j 0) → (∀ j, j < i → (b 6).getD j 0 = (a 21).getD j 0) → (∀ j, j < i → (b 7).getD j 0 = (a 22).getD j 0) → (∀ j, j < i → (b 8).getD j 0 = (a 23).getD j 0) → jx_W 2 jk_X7_restore 47 [some (.ref 0), some (.int (nI i))] [] (jM v b w u) (fun r h' => r = some (.int (v 5)) ∧ ∃ b, h' = jM v b w u ∧ (∀ j, (j ≠ 0 ∧ j ≠ 1 ∧ j ≠ 4 ∧ j ≠ 5 ∧ j ≠ 6 ∧ j ≠ 7 ∧ j ≠ 8 ∧ j ≠ 2) → b j = a j) ∧ b 0 = a 16 ∧ b 1 = a 17 ∧ b 4 = a 19 ∧ b 5 = a 20 ∧ b 6 = a 21 ∧ b 7 = a 22 ∧ b 8 = a 23 ∧ b 2 = a 18) := by
    intro k
    induction k with
    | zero =>
      intro i hi b hb m0 m1 m4 m5 m6 m7 m8 g0 g1 g4 g5 g6 g7 g8
      have e : i = 6 := by omega
      subst e
      refine jx_auto rfl trivial ?_
      refine jx_if rfl (fun _ => ?_) (fun c1 => absurd (by decide) c1)
      refine jx_steps 2 rfl trivial ?_
      refine jx_mono (jx_at (jm_restore2 (b0 := b) (by rw [hb 2 (by decide)]; exact l2) (by rw [hb 18 (by decide)]; exact k18))) (fun r h' hq => ?_)
      obtain ⟨rfl, rfl⟩ := hq
      refine ⟨rfl, _, rfl, fun j hj => ?_, jl_ext6 (l := b 0) (l' := a 16) m0 k16 g0, jl_ext6 (l := b 1) (l' := a 17) m1 k17 g1, jl_ext6 (l := b 4) (l' := a 19) m4 k19 g4, jl_ext6 (l := b 5) (l' := a 20) m5 k20 g5, jl_ext6 (l := b 6) (l' := a 21) m6 k21 g6, jl_ext6 (l := b 7) (l' := a 22) m7 k22 g7, jl_ext6 (l := b 8) (l' := a 23) m8 k23 g8, ?_⟩
      · rw [jup_n _ _ (by omega), hb j (by omega)]
      · show b 18 = a 18
        exact hb 18 (by decide)
    | succ k ih =>
      intro i hi b hb m0 m1 m4 m5 m6 m7 m8 g0 g1 g4 g5 g6 g7 g8
      refine jx_auto rfl trivial ?_
      refine jx_if rfl (fun c1 => absurd c1 (hw i (by omega))) (fun _ => ?_)
      refine jx_steps 8 rfl ⟨by show vp_in (nI i) (b 0).length; exact vp_in_nI (by omega) (by omega), by show vp_in (nI i) (b 16).length; rw [hb 16 (by decide)]; exact vp_in_nI (by omega) (by omega), trivial⟩ ?_
      rw [nI_clamp (by omega)]
      refine jx_at (h' := jM v (jcp (b) 0 16 i) w u) ?_ rfl rfl rfl rfl
      refine jx_steps 8 rfl ⟨by show vp_in (nI i) (b 1).length; exact vp_in_nI (by omega) (by omega), by show vp_in (nI i) (b 17).length; rw [hb 17 (by decide)]; exact vp_in_nI (by omega) (by omega), trivial⟩ ?_
      rw [nI_clamp (by omega)]
      refine jx_at (h' := jM v (jcp (jcp (b) 0 16 i) 1 17 i) w u) ?_ rfl rfl rfl rfl
      refine jx_steps 8 rfl ⟨by show vp_in (nI i) (b 4).length; exact vp_in_nI (by omega) (by omega), by show vp_in (nI i) (b 19).length; rw [hb 19 (by decide)]; exact vp_in_nI (by omega) (by omega), trivial⟩ ?_
      rw [nI_clamp (by omega)]
      refine jx_at (h' := jM v (jcp (jcp (jcp (b) 0 16 i) 1 17 i) 4 19 i) w u) ?_ rfl rfl rfl rfl
      refine jx_steps 8 rfl ⟨by show vp_in (nI i) (b 5).length; exact vp_in_nI (by omega) (by omega), by show vp_in (nI i) (b 20).length; rw [hb 20 (by decide)]; exact vp_in_nI (by omega) (by omega), trivial⟩ ?_
      rw [nI_clamp (by omega)]
      refine jx_at (h' := jM v (jcp (jcp (jcp (jcp (b) 0 16 i) 1 17 i) 4 19 i) 5 20 i) w u) ?_ rfl rfl rfl rfl
      refine jx_steps 8 rfl ⟨by show vp_in (nI i) (b 6).length; exact vp_in_nI (by omega) (by omega), by show vp_in (nI i) (b 21).length; rw [hb 21 (by decide)]; exact vp_in_nI (by omega) (by omega), trivial⟩ ?_
      rw [nI_clamp (by omega)]
      refine jx_at (h' := jM v (jcp (jcp (jcp (jcp (jcp (b) 0 16 i) 1 17 i) 4 19 i) 5 20 i) 6 21 i) w u) ?_ rfl rfl rfl rfl
      refine jx_steps 8 rfl ⟨by show vp_in (nI i) (b 7).length; exact vp_in_nI (by omega) (by omega), by show vp_in (nI i) (b 22).length; rw [hb 22 (by decide)]; exact vp_in_nI (by omega) (by omega), trivial⟩ ?_
      rw [nI_clamp (by omega)]
      refine jx_at (h' := jM v (jcp (jcp (jcp (jcp (jcp (jcp (b) 0 16 i) 1 17 i) 4 19 i) 5 20 i) 6 21 i) 7 22 i) w u) ?_ rfl rfl rfl rfl
      refine jx_steps 8 rfl ⟨by show vp_in (nI i) (b 8).length; exact vp_in_nI (by omega) (by omega), by show vp_in (nI i) (b 23).length; rw [hb 23 (by decide)]; exact vp_in_nI (by omega) (by omega), trivial⟩ ?_
      rw [nI_clamp (by omega)]
      refine jx_at (h' := jM v (jcp (jcp (jcp (jcp (jcp (jcp (jcp (b) 0 16 i) 1 17 i) 4 19 i) 5 20 i) 6 21 i) 7 22 i) 8 23 i) w u) ?_ rfl rfl rfl rfl
      refine jx_steps 2 rfl trivial ?_
      rw [nI_1]
      refine ih (i + 1) (by omega) (jcp (jcp (jcp (jcp (jcp (jcp (jcp (b) 0 16 i) 1 17 i) 4 19 i) 5 20 i) 6 21 i) 7 22 i) 8 23 i) (fun j hj => ?_) (List.length_set.trans m0) (List.length_set.trans m1) (List.length_set.trans m4) (List.length_set.trans m5) (List.length_set.trans m6) (List.length_set.trans m7) (List.length_set.trans m8) (fun j hj => ?_) (fun j hj => ?_) (fun j hj => ?_) (fun j hj => ?_) (fun j hj => ?_) (fun j hj => ?_) (fun j hj => ?_)
      · show jup _ _ _ j = _
        unfold jcp
        rw [jup_n _ _ (by omega), jup_n _ _ (by omega), jup_n _ _ (by omega), jup_n _ _ (by omega), jup_n _ _ (by omega), jup_n _ _ (by omega), jup_n _ _ (by omega)]
        exact hb j hj
      · show ((b 0).set i ((b 16).getD i 0)).getD j 0 = _
        by_cases e : j = i
        · rw [e, jl_getset (by omega), hb 16 (by decide)]
        · rw [jl_getne e]; exact g0 j (by omega)
      · show ((b 1).set i ((b 17).getD i 0)).getD j 0 = _
        by_cases e : j = i
        · rw [e, jl_getset (by omega), hb 17 (by decide)]
        · rw [jl_getne e]; exact g1 j (by omega)
      · show ((b 4).set i ((b 19).getD i 0)).getD j 0 = _
        by_cases e : j = i
        · rw [e, jl_getset (by omega), hb 19 (by decide)]
        · rw [jl_getne e]; exact g4 j (by omega)
      · show ((b 5).set i ((b 20).getD i 0)).getD j 0 = _
        by_cases e : j = i
        · rw [e, jl_getset (by omega), hb 20 (by decide)]
        · rw [jl_getne e]; exact g5 j (by omega)
      · show ((b 6).set i ((b 21).getD i 0)).getD j 0 = _
        by_cases e : j = i
        · rw [e, jl_getset (by omega), hb 21 (by decide)]
        · rw [jl_getne e]; exact g6 j (by omega)
      · show ((b 7).set i ((b 22).getD i 0)).getD j 0 = _
        by_cases e : j = i
        · rw [e, jl_getset (by omega), hb 22 (by decide)]
        · rw [jl_getne e]; exact g7 j (by omega)
      · show ((b 8).set i ((b 23).getD i 0)).getD j 0 = _
        by_cases e : j = i
        · rw [e, jl_getset (by omega), hb 23 (by decide)]
        · rw [jl_getne e]; exact g8 j (by omega)
  exact loop 6 0 (by omega) a (fun _ _ => rfl) l0 l1 l4 l5 l6 l7 l8 (fun j hj => absurd hj (Nat.not_lt_zero j)) (fun j hj => absurd hj (Nat.not_lt_zero j)) (fun j hj => absurd hj (Nat.not_lt_zero j)) (fun j hj => absurd hj (Nat.not_lt_zero j)) (fun j hj => absurd hj (Nat.not_lt_zero j)) (fun j hj => absurd hj (Nat.not_lt_zero j)) (fun j hj => absurd hj (Nat.not_lt_zero j))
end
