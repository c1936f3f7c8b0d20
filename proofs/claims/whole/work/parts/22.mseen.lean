section
variable {v : Nat → Int32} {a : Nat → List Int32} {w u : Int64} {G : jG}
theorem jl_ext6 {l l' : List Int32} (h : l.length = 6) (h' : l'.length = 6) (e : ∀ k, k < 6 → l.getD k 0 = l'.getD k 0) : l = l' := by
  apply List.ext_getElem (by omega)
  intro j h1 h2
  have := e j (by omega)
  simpa [List.getD, h1, h2] using this
theorem jm_save (h4 : (a 4).length = 6) (h11 : (a 11).length = 6) : jx_W 1 jk_X7_save 0 [some (.ref 0), none] [] (jM v a w u) (jx_is none (jM v (jup a 11 (a 4)) w u)) := by
  refine jx_steps 2 rfl trivial ?_
  have hw : ∀ i, i < 6 → ¬ (6 : Int32) ≤ nI i := by decide
  have loop : ∀ k i, i + k = 6 → ∀ s : List Int32, s.length = 6 → (∀ j, j < i → s.getD j 0 = (a 4).getD j 0) → jx_W 1 jk_X7_save 2 [some (.ref 0), some (.int (nI i))] [] (jM v (jup a 11 s) w u) (jx_is none (jM v (jup a 11 (a 4)) w u)) := by
    intro k
    induction k with
    | zero =>
      intro i hi s h1 h2
      have e : i = 6 := by omega
      subst e
      refine jx_auto rfl trivial ?_
      refine jx_if rfl (fun _ => ?_) (fun c1 => absurd (by decide) c1)
      refine jx_ends rfl trivial rfl ?_
      rw [jl_ext6 h1 h4 h2]
    | succ k ih =>
      intro i hi s h1 h2
      refine jx_auto rfl trivial ?_
      refine jx_if rfl (fun c1 => absurd c1 (hw i (by omega))) (fun _ => ?_)
      refine jx_steps 7 rfl ⟨?_, trivial⟩ ?_
      · show vp_in (nI i) (a 4).length
        exact vp_in_nI (by omega) (by omega)
      have e1 : (jup a 11 s 4).getD (nI i).toNatClampNeg 0 = (a 4).getD i 0 := by
        show (a 4).getD (nI i).toNatClampNeg 0 = _
        rw [nI_clamp (by omega)]
      rw [e1]
      refine jx_steps 1 rfl ⟨?_, trivial⟩ ?_
      · show vp_in (nI i) s.length
        exact vp_in_nI (by omega) (by omega)
      rw [nI_clamp (by omega)]
      refine jx_steps 2 rfl trivial ?_
      rw [nI_1]
      refine jx_at (ih (i + 1) (by omega) (s.set i ((a 4).getD i 0)) (by simpa using h1) (fun j hj => ?_)) rfl rfl rfl rfl
      by_cases e : j = i
      · rw [e, jl_getset (by omega)]
      · rw [jl_getne e]; exact h2 j (by omega)
  refine jx_at (loop 6 0 (by omega) (a 11) h11 (fun j hj => absurd hj (Nat.not_lt_zero j))) rfl rfl rfl ?_
  rfl
theorem jm_load (h4 : (a 4).length = 6) (h11 : (a 11).length = 6) : jx_W 1 jk_X7_load 0 [some (.ref 0), none] [] (jM v a w u) (jx_is none (jM v (jup a 4 (a 11)) w u)) := by
  refine jx_steps 2 rfl trivial ?_
  have hw : ∀ i, i < 6 → ¬ (6 : Int32) ≤ nI i := by decide
  have loop : ∀ k i, i + k = 6 → ∀ s : List Int32, s.length = 6 → (∀ j, j < i → s.getD j 0 = (a 11).getD j 0) → jx_W 1 jk_X7_load 2 [some (.ref 0), some (.int (nI i))] [] (jM v (jup a 4 s) w u) (jx_is none (jM v (jup a 4 (a 11)) w u)) := by
    intro k
    induction k with
    | zero =>
      intro i hi s h1 h2
      have e : i = 6 := by omega
      subst e
      refine jx_auto rfl trivial ?_
      refine jx_if rfl (fun _ => ?_) (fun c1 => absurd (by decide) c1)
      refine jx_ends rfl trivial rfl ?_
      rw [jl_ext6 h1 h11 h2]
    | succ k ih =>
      intro i hi s h1 h2
      refine jx_auto rfl trivial ?_
      refine jx_if rfl (fun c1 => absurd c1 (hw i (by omega))) (fun _ => ?_)
      refine jx_steps 7 rfl ⟨?_, trivial⟩ ?_
      · show vp_in (nI i) (a 11).length
        exact vp_in_nI (by omega) (by omega)
      have e1 : (jup a 4 s 11).getD (nI i).toNatClampNeg 0 = (a 11).getD i 0 := by
        show (a 11).getD (nI i).toNatClampNeg 0 = _
        rw [nI_clamp (by omega)]
      rw [e1]
      refine jx_steps 1 rfl ⟨?_, trivial⟩ ?_
      · show vp_in (nI i) s.length
        exact vp_in_nI (by omega) (by omega)
      rw [nI_clamp (by omega)]
      refine jx_steps 2 rfl trivial ?_
      rw [nI_1]
      refine jx_at (ih (i + 1) (by omega) (s.set i ((a 11).getD i 0)) (by simpa using h1) (fun j hj => ?_)) rfl rfl rfl rfl
      by_cases e : j = i
      · rw [e, jl_getset (by omega)]
      · rw [jl_getne e]; exact h2 j (by omega)
  refine jx_at (loop 6 0 (by omega) (a 4) h4 (fun j hj => absurd hj (Nat.not_lt_zero j))) rfl rfl rfl ?_
  rfl
theorem jm_inCovert (h : jMG v a G) {c : Int32} : jx_W 1 jk_X7_inCovert 0 [some (.ref 0), some (.int c), none, none] [] (jM v a w u) (jx_is (some (.int (jb_set (fun l => decide (gco G l = c)) (glg G)))) (jM v a w u)) := by
  have ho := h.ok
  have hn := h.lens
  refine jx_steps 4 rfl trivial ?_
  have loop : ∀ k i, i + k = glg G → jx_W 1 jk_X7_inCovert 4 [some (.ref 0), some (.int c), some (.int (jb_set (fun l => decide (gco G l = c)) i)), some (.int (nI i))] [] (jM v a w u) (jx_is (some (.int (jb_set (fun l => decide (gco G l = c)) (glg G)))) (jM v a w u)) := by
    intro k
    induction k with
    | zero =>
      intro i hi
      have e : i = glg G := by omega
      refine jx_auto rfl trivial ?_
      refine jx_if rfl (fun _ => ?_) (fun c1 => absurd (jc_end h.laughs (by omega) (by omega)) c1)
      refine jx_auto rfl trivial ?_
      exact jx_ends rfl trivial (by rw [e])
    | succ k ih =>
      intro i hi
      have e1 : (a 4).getD (nI i).toNatClampNeg 0 = gco G i := by rw [nI_clamp (by omega)]; exact h.co (by omega)
      refine jx_auto rfl trivial ?_
      refine jx_if rfl (fun c1 => absurd c1 (jc_on h.laughs (by omega) (by omega))) (fun _ => ?_)
      refine jx_auto rfl ⟨vp_in_nI (by omega) (by omega), trivial⟩ ?_
      rw [e1]
      refine jx_if rfl (fun c1 => ?_) (fun c1 => ?_)
      · refine jx_steps 5 rfl trivial ?_
        rw [nI_1]
        refine jx_at (ih (i + 1) (by omega)) rfl ?_
        rw [jb_set, if_neg (by simpa using c1)]
        dsimp only
        rw [Int32.or_zero]
      · refine jx_steps 8 rfl trivial ?_
        rw [nI_1]
        refine jx_at (ih (i + 1) (by omega)) rfl ?_
        rw [jb_set, if_pos (by simpa using c1)]
  exact loop (glg G) 0 (by omega)
theorem jm_inCoverts (h : jMG v a G) : jx_W 1 jk_X7_inCoverts 0 [some (.ref 0), none, none] [] (jM v a w u) (jx_is (some (.int (nI (sp_cnt (fun l => decide (gco G l ≠ -1)) (glg G))))) (jM v a w u)) := by
  have ho := h.ok
  have hn := h.lens
  refine jx_steps 4 rfl trivial ?_
  have loop : ∀ k i, i + k = glg G → jx_W 1 jk_X7_inCoverts 4 [some (.ref 0), some (.int (nI (sp_cnt (fun l => decide (gco G l ≠ -1)) i))), some (.int (nI i))] [] (jM v a w u) (jx_is (some (.int (nI (sp_cnt (fun l => decide (gco G l ≠ -1)) (glg G))))) (jM v a w u)) := by
    intro k
    induction k with
    | zero =>
      intro i hi
      have e : i = glg G := by omega
      refine jx_auto rfl trivial ?_
      refine jx_if rfl (fun _ => ?_) (fun c1 => absurd (jc_end h.laughs (by omega) (by omega)) c1)
      refine jx_auto rfl trivial ?_
      exact jx_ends rfl trivial (by rw [e])
    | succ k ih =>
      intro i hi
      have e1 : (a 4).getD (nI i).toNatClampNeg 0 = gco G i := by rw [nI_clamp (by omega)]; exact h.co (by omega)
      refine jx_auto rfl trivial ?_
      refine jx_if rfl (fun c1 => absurd c1 (jc_on h.laughs (by omega) (by omega))) (fun _ => ?_)
      refine jx_auto rfl ⟨vp_in_nI (by omega) (by omega), trivial⟩ ?_
      rw [e1]
      refine jx_if rfl (fun c1 => ?_) (fun c1 => ?_)
      · refine jx_steps 5 rfl trivial ?_
        dsimp only
        rw [nI_1, nI_1]
        refine jx_at (ih (i + 1) (by omega)) rfl ?_
        rw [sp_cnt, if_pos (by simpa using c1)]
      · have c1 : gco G i = -1 := by simpa using c1
        refine jx_steps 6 rfl trivial ?_
        rw [nI_1]
        refine jx_at (ih (i + 1) (by omega)) rfl ?_
        rw [sp_cnt, if_neg (by simp [c1])]
        dsimp only
        rw [Int32.add_zero]
  exact loop (glg G) 0 (by omega)
theorem jm_leastLost (h : jMG v a G) : jx_W 1 jk_X7_leastLost 0 [some (.ref 0), none] [] (jM v a w u) (jx_is (some (.int (sp_opt (sp_ff (fun l => decide (gco G l = -1)) 0 (glg G))))) (jM v a w u)) := by
  have ho := h.ok
  have hn := h.lens
  refine jx_steps 2 rfl trivial ?_
  have loop : ∀ k i, i + k = glg G → jx_W 1 jk_X7_leastLost 2 [some (.ref 0), some (.int (nI i))] [] (jM v a w u) (jx_is (some (.int (sp_opt (sp_ff (fun l => decide (gco G l = -1)) i k)))) (jM v a w u)) := by
    intro k
    induction k with
    | zero =>
      intro i hi
      have e : i = glg G := by omega
      refine jx_auto rfl trivial ?_
      refine jx_if rfl (fun _ => ?_) (fun c1 => absurd (jc_end h.laughs (by omega) (by omega)) c1)
      refine jx_auto rfl trivial ?_
      refine jx_if rfl (fun c1 => absurd (by rw [h.laughs, e]) c1) (fun _ => ?_)
      refine jx_auto rfl trivial ?_
      exact jx_ends rfl trivial
    | succ k ih =>
      intro i hi
      have e1 : (a 4).getD (nI i).toNatClampNeg 0 = gco G i := by rw [nI_clamp (by omega)]; exact h.co (by omega)
      refine jx_auto rfl trivial ?_
      refine jx_if rfl (fun c1 => absurd c1 (jc_on h.laughs (by omega) (by omega))) (fun _ => ?_)
      refine jx_auto rfl ⟨vp_in_nI (by omega) (by omega), trivial⟩ ?_
      rw [e1]
      refine jx_if rfl (fun c1 => ?_) (fun c1 => ?_)
      · refine jx_auto rfl trivial ?_
        refine jx_if rfl (fun _ => ?_) (fun c2 => absurd (fun z => ?_) c2)
        · refine jx_auto rfl trivial ?_
          refine jx_ends rfl trivial ?_
          rw [sp_ff, if_pos (by simpa using c1)]; rfl
        · rw [h.laughs] at z
          have := (nI_eq (by omega) (by omega)).mp z
          omega
      · refine jx_steps 2 rfl trivial ?_
        rw [nI_1, sp_ff, if_neg (by simpa using c1)]
        exact ih (i + 1) (by omega)
  exact loop (glg G) 0 (by omega)
theorem jm_covertsOf (h : jMG v a G) {l : Nat} (hl : l < glg G) : jx_W 4 jk_X7_covertsOf 0 [some (.ref 0), some (.int (nI l)), none, none, none, none] [] (jM v a w u) (jx_is (some (.int (sp_poss G l))) (jM v a w u)) := by
  have ho := h.ok
  have hn := h.lens
  refine jx_steps 4 rfl trivial ?_
  have loop : ∀ k i, i + k = gcv G → ∀ z1 z2 : Option Value, jx_W 4 jk_X7_covertsOf 4 [some (.ref 0), some (.int (nI l)), some (.int (jb_set (fun c => sp_seen G l c) i)), some (.int (nI i)), z1, z2] [] (jM v a w u) (jx_is (some (.int (sp_poss G l))) (jM v a w u)) := by
    intro k
    induction k with
    | zero =>
      intro i hi z1 z2
      have e : i = gcv G := by omega
      refine jx_auto rfl trivial ?_
      refine jx_if rfl (fun _ => ?_) (fun c1 => absurd (jc_end h.coverts (by omega) (by omega)) c1)
      refine jx_auto rfl trivial ?_
      exact jx_ends rfl trivial (by rw [sp_poss, e])
    | succ k ih =>
      intro i hi z1 z2
      have inner : ∀ k2 j, j + k2 = gsn G → jx_W 4 jk_X7_covertsOf 18 [some (.ref 0), some (.int (nI l)), some (.int (jb_set (fun c => sp_seen G l c) i)), some (.int (nI i)), some (.int (if sp_seenN G l i j = true then 1 else 0)), some (.int (nI j))] [] (jM v a w u) (jx_is (some (.int (sp_poss G l))) (jM v a w u)) := by
        intro k2
        induction k2 with
        | zero =>
          intro j hj
          have e : j = gsn G := by omega
          refine jx_auto rfl trivial ?_
          refine jx_if rfl (fun _ => ?_) (fun c1 => absurd (jc_end h.seen (by omega) (by omega)) c1)
          have es : sp_seenN G l i j = sp_seen G l i := by rw [sp_seen, e]
          rw [es]
          refine jx_auto rfl trivial ?_
          refine jx_if rfl (fun c1 => ?_) (fun c1 => ?_)
          · have c1 : ¬ sp_seen G l i = true := fun z => by rw [if_pos z] at c1; cases c1
            refine jx_steps 5 rfl trivial ?_
            rw [nI_1]
            refine jx_at (ih (i + 1) (by omega) (some (.int (if sp_seen G l i = true then 1 else 0))) (some (.int (nI j)))) rfl ?_
            rw [jb_set, if_neg c1, if_neg c1]
            dsimp only
            rw [Int32.or_zero]
          · have c1 : sp_seen G l i = true := by
              by_cases q : sp_seen G l i = true
              · exact q
              · exact absurd (if_neg q) c1
            refine jx_steps 8 rfl trivial ?_
            rw [nI_1]
            refine jx_at (ih (i + 1) (by omega) (some (.int (if sp_seen G l i = true then 1 else 0))) (some (.int (nI j)))) rfl ?_
            rw [jb_set, if_pos c1, if_pos c1]
        | succ k2 ih2 =>
          intro j hj
          have hjl : j < gsn G := by omega
          have e1 : (a 6).getD (nI j).toNatClampNeg 0 = gsl G j := by rw [nI_clamp (by omega)]; exact h.sl hjl
          have e2 : (a 7).getD (nI j).toNatClampNeg 0 = gsw G j := by rw [nI_clamp (by omega)]; exact h.sw hjl
          have e3 : (a 8).getD (nI j).toNatClampNeg 0 = gsp G j := by rw [nI_clamp (by omega)]; exact h.sp hjl
          have tail : ∀ y : Int32, y = (if sp_seenN G l i (j + 1) = true then 1 else 0) → ∀ z : Option Value, jx_W 4 jk_X7_covertsOf 71 [some (.ref 0), some (.int (nI l)), some (.int (jb_set (fun c => sp_seen G l c) i)), some (.int (nI i)), z, some (.int (nI j))] [.int y] (jM v a w u) (jx_is (some (.int (sp_poss G l))) (jM v a w u)) := by
            intro y ey z
            subst ey
            refine jx_steps 3 rfl trivial ?_
            rw [nI_1]
            exact ih2 (j + 1) (by omega)
          have no : sp_seenN G l i (j + 1) = false → ∀ z : Option Value, jx_W 4 jk_X7_covertsOf 70 [some (.ref 0), some (.int (nI l)), some (.int (jb_set (fun c => sp_seen G l c) i)), some (.int (nI i)), z, some (.int (nI j))] [] (jM v a w u) (jx_is (some (.int (sp_poss G l))) (jM v a w u)) := by
            intro e z
            refine jx_steps 1 rfl trivial ?_
            exact tail 0 (by rw [e]; rfl) z
          have yes : sp_seenN G l i (j + 1) = true → ∀ z : Option Value, jx_W 4 jk_X7_covertsOf 66 [some (.ref 0), some (.int (nI l)), some (.int (jb_set (fun c => sp_seen G l c) i)), some (.int (nI i)), z, some (.int (nI j))] [] (jM v a w u) (jx_is (some (.int (sp_poss G l))) (jM v a w u)) := by
            intro e z
            refine jx_steps 2 rfl trivial ?_
            exact tail 1 (by rw [e]; rfl) z
          refine jx_auto rfl trivial ?_
          refine jx_if rfl (fun c1 => absurd c1 (jc_on h.seen (by omega) (by omega))) (fun _ => ?_)
          refine jx_auto rfl trivial ?_
          cases hq : sp_seenN G l i j with
          | false =>
            refine jx_if rfl (fun _ => ?_) (fun c1 => absurd rfl c1)
            exact no (by rw [sp_seenN, hq]; rfl) _
          | true =>
            refine jx_if rfl (fun c1 => absurd c1 (by decide)) (fun _ => ?_)
            refine jx_auto rfl ⟨vp_in_nI (by omega) (by omega), trivial⟩ ?_
            rw [e1]
            refine jx_if rfl (fun c1 => ?_) (fun c1 => ?_)
            · exact yes (by rw [sp_seenN, hq]; simp [c1]) _
            · have c1 : gsl G j = nI l := by simpa using c1
              refine jx_auto rfl ⟨vp_in_nI (by omega) (by omega), trivial⟩ ?_
              rw [e2]
              refine jx_callE 3 rfl (by decide) (jm_pegFrom h hl) ?_
              refine jx_auto rfl ⟨vp_in_nI (by omega) (by omega), trivial⟩ ?_
              rw [e3]
              refine jx_if rfl (fun c2 => ?_) (fun c2 => ?_)
              · exact no (by rw [sp_seenN, hq]; simp [c1, c2]) _
              · have c2 : sp_peg G l (nI i) (gsw G j) = gsp G j := by simpa using c2
                exact yes (by rw [sp_seenN, hq]; simp [c2]) _
      refine jx_auto rfl trivial ?_
      refine jx_if rfl (fun c1 => absurd c1 (jc_on h.coverts (by omega) (by omega))) (fun _ => ?_)
      refine jx_steps 4 rfl trivial ?_
      exact inner (gsn G) 0 (by omega)
  exact loop (gcv G) 0 (by omega) none none
theorem jm_worstBy (h : jMG v a G) {l : Nat} (hl : l < glg G) {x : Int32} : jx_W 4 jk_X7_worstBy 0 [some (.ref 0), some (.int (nI l)), some (.int (sp_poss G l)), some (.int x), none, none, none, none] [] (jM v a w u) (jx_is (some (.int (nI (sp_worst G l x (gcv G))))) (jM v a w u)) := by
  have ho := h.ok
  have hposs : jms (sp_poss G l) (fun c => decide (c < gcv G) && sp_seen G l c) := jms_set _ (by omega)
  refine jx_steps 4 rfl trivial ?_
  have loop : ∀ k i, i + k = gcv G → ∀ z1 z2 : Option Value, jx_W 4 jk_X7_worstBy 6 [some (.ref 0), some (.int (nI l)), some (.int (sp_poss G l)), some (.int x), some (.int (nI (sp_worst G l x i))), some (.int (nI i)), z1, z2] [] (jM v a w u) (jx_is (some (.int (nI (sp_worst G l x (gcv G))))) (jM v a w u)) := by
    intro k
    induction k with
    | zero =>
      intro i hi z1 z2
      have e : i = gcv G := by omega
      refine jx_auto rfl trivial ?_
      refine jx_if rfl (fun _ => ?_) (fun c1 => absurd (jc_end h.coverts (by omega) (by omega)) c1)
      refine jx_auto rfl trivial ?_
      exact jx_ends rfl trivial (by rw [e])
    | succ k ih =>
      intro i hi z1 z2
      have hic : i < gcv G := by omega
      have inner : ∀ k2 j, j + k2 = gcv G → jx_W 4 jk_X7_worstBy 21 [some (.ref 0), some (.int (nI l)), some (.int (sp_poss G l)), some (.int x), some (.int (nI (sp_worst G l x i))), some (.int (nI i)), some (.int (nI (if sp_seen G l i = true then sp_left G l x (sp_peg G l (nI i) x) j else 0))), some (.int (nI j))] [] (jM v a w u) (jx_is (some (.int (nI (sp_worst G l x (gcv G))))) (jM v a w u)) := by
        intro k2
        induction k2 with
        | zero =>
          intro j hj
          have e : j = gcv G := by omega
          subst e
          have h1 := sp_worst_le (G := G) l x i
          have h2 := sp_left_le (G := G) l x (sp_peg G l (nI i) x) (gcv G)
          have h3 : (if sp_seen G l i = true then sp_left G l x (sp_peg G l (nI i) x) (gcv G) else 0) ≤ gcv G := by split <;> omega
          have ew : sp_worst G l x (i + 1) = max (sp_worst G l x i) (if sp_seen G l i = true then sp_left G l x (sp_peg G l (nI i) x) (gcv G) else 0) := by
            rw [sp_worst]; split
            · rfl
            · omega
          generalize (if sp_seen G l i = true then sp_left G l x (sp_peg G l (nI i) x) (gcv G) else 0) = q at h3 ew ⊢
          refine jx_auto rfl trivial ?_
          refine jx_if rfl (fun _ => ?_) (fun c1 => absurd (jc_end h.coverts (by omega) (by omega)) c1)
          refine jx_auto rfl trivial ?_
          refine jx_if rfl (fun c1 => ?_) (fun c1 => ?_)
          · have : ¬ sp_worst G l x i < q := fun z => absurd c1 (nI_ge z (by omega))
            refine jx_steps 4 rfl trivial ?_
            rw [nI_1]
            refine jx_at (ih (i + 1) (by omega) (some (.int (nI q))) (some (.int (nI (gcv G))))) rfl ?_
            rw [ew, Nat.max_eq_left (by omega)]
          · have : sp_worst G l x i < q := by
              rcases Nat.lt_or_ge (sp_worst G l x i) q with z | z
              · exact z
              · exact absurd (nI_le z (by omega)) c1
            refine jx_steps 5 rfl trivial ?_
            rw [nI_1]
            refine jx_at (ih (i + 1) (by omega) (some (.int (nI q))) (some (.int (nI (gcv G))))) rfl ?_
            rw [ew, Nat.max_eq_right (by omega)]
        | succ k2 ih2 =>
          intro j hj
          have hjc : j < gcv G := by omega
          have es : sp_left G l x (sp_peg G l (nI i) x) (j + 1) = if (sp_seen G l j && decide (sp_peg G l (nI j) x = sp_peg G l (nI i) x)) = true then sp_left G l x (sp_peg G l (nI i) x) j + 1 else sp_left G l x (sp_peg G l (nI i) x) j := rfl
          have tail : ∀ y n : Nat, (if sp_seen G l i = true then sp_left G l x (sp_peg G l (nI i) x) (j + 1) else 0) = n + y → jx_W 4 jk_X7_worstBy 74 [some (.ref 0), some (.int (nI l)), some (.int (sp_poss G l)), some (.int x), some (.int (nI (sp_worst G l x i))), some (.int (nI i)), some (.int (nI n)), some (.int (nI j))] [.int (nI y), .int (nI n)] (jM v a w u) (jx_is (some (.int (nI (sp_worst G l x (gcv G))))) (jM v a w u)) := by
            intro y n e
            refine jx_steps 4 rfl trivial ?_
            dsimp only
            rw [nI_1, nI_add, ← e]
            exact ih2 (j + 1) (by omega)
          have no : ∀ n : Nat, (if sp_seen G l i = true then sp_left G l x (sp_peg G l (nI i) x) (j + 1) else 0) = n → jx_W 4 jk_X7_worstBy 73 [some (.ref 0), some (.int (nI l)), some (.int (sp_poss G l)), some (.int x), some (.int (nI (sp_worst G l x i))), some (.int (nI i)), some (.int (nI n)), some (.int (nI j))] [.int (nI n)] (jM v a w u) (jx_is (some (.int (nI (sp_worst G l x (gcv G))))) (jM v a w u)) := by
            intro n e
            refine jx_steps 1 rfl trivial ?_
            exact tail 0 n (by rw [e]; rfl)
          refine jx_auto rfl trivial ?_
          refine jx_if rfl (fun c1 => absurd c1 (jc_on h.coverts (by omega) (by omega))) (fun _ => ?_)
          refine jx_auto rfl trivial ?_
          refine jx_callE 1 rfl (by decide) (jm_isIn hposs (show i < 6 by omega)) ?_
          have hi1 : (decide (i < gcv G) && sp_seen G l i) = sp_seen G l i := by simp [hic]
          have hj1 : (decide (j < gcv G) && sp_seen G l j) = sp_seen G l j := by simp [hjc]
          rw [hi1]
          cases hsi : sp_seen G l i with
          | false =>
            rw [hsi] at no
            refine jx_if rfl (fun _ => ?_) (fun c1 => absurd rfl c1)
            exact no 0 rfl
          | true =>
            rw [hsi] at no tail
            refine jx_if rfl (fun c1 => absurd c1 (by decide)) (fun _ => ?_)
            refine jx_auto rfl trivial ?_
            refine jx_callE 1 rfl (by decide) (jm_isIn hposs (show j < 6 by omega)) ?_
            rw [hj1]
            cases hsj : sp_seen G l j with
            | false =>
              refine jx_if rfl (fun _ => ?_) (fun c1 => absurd rfl c1)
              refine no (sp_left G l x (sp_peg G l (nI i) x) j) ?_
              rw [if_pos rfl, es, hsj]; rfl
            | true =>
              refine jx_if rfl (fun c1 => absurd c1 (by decide)) (fun _ => ?_)
              refine jx_auto rfl trivial ?_
              refine jx_callE 3 rfl (by decide) (jm_pegFrom h hl) ?_
              refine jx_auto rfl trivial ?_
              refine jx_callE 3 rfl (by decide) (jm_pegFrom h hl) ?_
              refine jx_if rfl (fun c2 => ?_) (fun c2 => ?_)
              · refine no (sp_left G l x (sp_peg G l (nI i) x) j) ?_
                have : ¬ sp_peg G l (nI j) x = sp_peg G l (nI i) x := fun z => c2 z.symm
                rw [if_pos rfl, es, hsj]; simp [this]
              · have c2 : sp_peg G l (nI i) x = sp_peg G l (nI j) x := by simpa using c2
                refine jx_steps 2 rfl trivial ?_
                refine tail 1 (sp_left G l x (sp_peg G l (nI i) x) j) ?_
                rw [if_pos rfl, es, hsj]; simp [c2]
      refine jx_auto rfl trivial ?_
      refine jx_if rfl (fun c1 => absurd c1 (jc_on h.coverts (by omega) (by omega))) (fun _ => ?_)
      refine jx_steps 4 rfl trivial ?_
      refine jx_at (inner (gcv G) 0 (by omega)) rfl ?_
      have : (if sp_seen G l i = true then sp_left G l x (sp_peg G l (nI i) x) 0 else 0) = 0 := by split <;> rfl
      rw [this]; rfl
  exact loop (gcv G) 0 (by omega) none none
theorem jm_hearFor (h : jMG v a G) {l : Nat} (hl : l < glg G) : jx_W 5 jk_X7_hearFor 0 [some (.ref 0), some (.int (nI l)), none, none, none, none, none] [] (jM v a w u) (jx_is (some (.int (sp_hear G l))) (jM v a w u)) := by
  have ho := h.ok
  refine jx_auto rfl trivial ?_
  refine jx_callE 4 rfl (by decide) (jm_covertsOf h hl) ?_
  refine jx_steps 7 rfl trivial ?_
  have hw : ∀ i, i < 3 → ¬ (3 : Int32) ≤ nI i := by decide
  -- the least so far: far, then what it was
  have loop : ∀ k i, i + k = 3 → ∀ (ls : Int32) (z : Option Value), ((i = 0 ∨ sp_poss G l = 0) ∧ ls = 268435456 ∨ (0 < i ∧ ¬ sp_poss G l = 0) ∧ ls = nI (sp_hearN G l i).2) → jx_W 5 jk_X7_hearFor 15 [some (.ref 0), some (.int (nI l)), some (.int (sp_poss G l)), some (.int (if sp_poss G l = 0 then -1 else (sp_hearN G l i).1)), some (.int ls), some (.int (nI i)), z] [] (jM v a w u) (jx_is (some (.int (sp_hear G l))) (jM v a w u)) := by
    intro k
    induction k with
    | zero =>
      intro i hi ls z hls
      have e : i = 3 := by omega
      subst e
      refine jx_auto rfl trivial ?_
      refine jx_if rfl (fun _ => ?_) (fun c1 => absurd (by decide) c1)
      refine jx_auto rfl trivial ?_
      exact jx_ends rfl trivial
    | succ k ih =>
      intro i hi ls z hls
      refine jx_auto rfl trivial ?_
      refine jx_if rfl (fun c1 => absurd c1 (hw i (by omega))) (fun _ => ?_)
      refine jx_auto rfl trivial ?_
      refine jx_if rfl (fun c0 => ?_) (fun c0 => ?_)
      · refine jx_auto rfl trivial ?_
        refine jx_ends rfl trivial ?_
        rw [sp_hear, if_pos c0, if_pos c0]
      · have h1 := sp_worst_le (G := G) l (nI i - 1) (gcv G)
        have h2 := sp_hearN_le (G := G) l ho.2.1 i
        refine jx_auto rfl trivial ?_
        refine jx_callE 4 rfl (by decide) (jm_worstBy h hl) ?_
        have hcmp : ls ≤ nI (sp_worst G l (nI i - 1) (gcv G)) ↔ ¬ sp_worst G l (nI i - 1) (gcv G) < (sp_hearN G l i).2 := by
          rcases hls with ⟨q, e⟩ | ⟨q, e⟩
          · have q : i = 0 := q.resolve_right c0
            subst q
            have hlt : sp_worst G l (nI 0 - 1) (gcv G) < (sp_hearN G l 0).2 := by show _ < 5; omega
            have hf : ∀ n, n ≤ 4 → ¬ (268435456 : Int32) ≤ nI n := by decide
            constructor
            · intro z; rw [e] at z; exact absurd z (hf _ (by omega))
            · intro z; exact absurd hlt z
          · rw [e, nI_leI (by omega) (by omega)]; omega
        refine jx_auto rfl trivial ?_
        refine jx_if rfl (fun c1 => ?_) (fun c1 => ?_)
        · have c1' := hcmp.mp c1
          refine jx_auto rfl trivial ?_
          refine jx_if rfl (fun _ => ?_) (fun c2 => absurd c1 c2)
          refine jx_steps 4 rfl trivial ?_
          rw [nI_1]
          refine jx_at (ih (i + 1) (by omega) ls (some (.int (nI (sp_worst G l (nI i - 1) (gcv G))))) ?_) rfl ?_
          · rcases hls with ⟨q, e⟩ | ⟨q, e⟩
            · have q : i = 0 := q.resolve_right c0
              subst q
              have hlt : sp_worst G l (nI 0 - 1) (gcv G) < (sp_hearN G l 0).2 := by show _ < 5; omega
              exact absurd hlt c1'
            · exact Or.inr ⟨⟨by omega, c0⟩, by rw [e, sp_hearN, if_neg c1']⟩
          · rw [if_neg c0, if_neg c0, sp_hearN, if_neg c1']
        · have c1' : sp_worst G l (nI i - 1) (gcv G) < (sp_hearN G l i).2 := by
            rcases Nat.lt_or_ge (sp_worst G l (nI i - 1) (gcv G)) (sp_hearN G l i).2 with z | z
            · exact z
            · exact absurd (hcmp.mpr (by omega)) c1
          refine jx_auto rfl trivial ?_
          refine jx_if rfl (fun c2 => absurd c2 c1) (fun _ => ?_)
          refine jx_steps 5 rfl trivial ?_
          rw [nI_1]
          refine jx_at (ih (i + 1) (by omega) (nI (sp_worst G l (nI i - 1) (gcv G))) (some (.int (nI (sp_worst G l (nI i - 1) (gcv G))))) ?_) rfl ?_
          · exact Or.inr ⟨⟨by omega, c0⟩, by rw [sp_hearN, if_pos c1']⟩
          · rw [if_neg c0, sp_hearN, if_pos c1']
  refine jx_at (loop 3 0 (by omega) 268435456 none (Or.inl ⟨Or.inl rfl, rfl⟩)) rfl ?_
  have : (if sp_poss G l = 0 then (-1 : Int32) else -1) = -1 := by split <;> rfl
  show _ = [_, _, _, some (Value.int (if sp_poss G l = 0 then (-1 : Int32) else -1)), _, _, _]
  rw [this]; rfl
end
