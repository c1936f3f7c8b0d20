section
variable {v : Nat → Int32} {a : Nat → List Int32} {w : Int64} {G : jG}
theorem jc_end {y : Int32} {i n : Nat} (e : y = nI n) (hi : n ≤ i) (h : i < 2 ^ 31) : y ≤ nI i := by rw [e]; exact nI_le hi h
theorem jc_on {y : Int32} {i n : Nat} (e : y = nI n) (hi : i < n) (h : n < 2 ^ 31) : ¬ y ≤ nI i := by rw [e]; exact nI_ge hi h
theorem jl_pegFrom_in (h : jLG v a G) {l c : Nat} (hl : l < glg G) (hc : c < gcv G) {x : Int32} : jx_W 3 jk_X0_pegFrom 0 [some (.ref 6), some (.int (nI l)), some (.int (nI c)), some (.int x), none] [] (jL v a w) (jx_is (some (.int (sp_peg G l (nI c) x))) (jL v a w)) := by
  have ho := h.ok
  have z := jl_pegFrom (w := w) h hl (c := nI c) (x := x)
  rwa [sp_pegA, if_pos ⟨nI_pos' (by omega), nI_lt hc (by omega)⟩] at z
theorem jl_heightFrom_in (h : jLG v a G) {l c : Nat} (hl : l < glg G) (hc : c < gcv G) : jx_W 2 jk_X0_heightFrom 0 [some (.ref 6), some (.int (nI l)), some (.int (nI c)), none] [] (jL v a w) (jx_is (some (.int (sp_height G l c))) (jL v a w)) := by
  have ho := h.ok
  have z := jl_heightFrom (w := w) h hl (c := nI c)
  rwa [if_pos ⟨nI_pos' (by omega), nI_lt hc (by omega)⟩, nI_clamp (by omega)] at z
theorem jl_laughsIn (h : jLG v a G) {P c : Int32} {co : Nat → Int32} (hP : jpk P co (glg G)) : jx_W 2 jk_X0_laughsIn 0 [some (.ref 6), some (.int P), some (.int c), none, none] [] (jL v a w) (jx_is (some (.int (jb_set (fun l => decide (co l = c)) (glg G)))) (jL v a w)) := by
  have ho := h.ok
  refine jx_steps 4 rfl trivial ?_
  have loop : ∀ k i, i + k = glg G → jx_W 2 jk_X0_laughsIn 5 [some (.ref 6), some (.int P), some (.int c), some (.int (jb_set (fun l => decide (co l = c)) i)), some (.int (nI i))] [] (jL v a w) (jx_is (some (.int (jb_set (fun l => decide (co l = c)) (glg G)))) (jL v a w)) := by
    intro k
    induction k with
    | zero =>
      intro i hi
      have e : i = glg G := by omega
      refine jx_auto rfl trivial ?_
      refine jx_if rfl (fun _ => ?_) (fun c1 => absurd (jc_end h.laughs (by omega) (by omega)) c1)
      refine jx_auto rfl trivial ?_
      exact jx_ends rfl trivial (by rw [e])
    | succ k ih =>
      intro i hi
      have hpl := jp_pl_of hP ho.2.2.1 (show i < glg G by omega)
      refine jx_auto rfl trivial ?_
      refine jx_if rfl (fun c1 => absurd c1 (jc_on h.laughs (by omega) (by omega))) (fun _ => ?_)
      refine jx_auto rfl trivial ?_
      refine jx_callE 1 rfl (by decide) jl_placeIn ?_
      refine jx_auto rfl trivial ?_
      refine jx_if rfl (fun c1 => ?_) (fun c1 => ?_)
      · refine jx_steps 2 rfl trivial ?_
        rw [nI_1]
        refine jx_at (ih (i + 1) (by omega)) rfl ?_
        rw [jb_set, if_neg (by rw [hpl] at c1; simpa using c1)]
      · refine jx_steps 8 rfl trivial ?_
        rw [nI_1]
        refine jx_at (ih (i + 1) (by omega)) rfl ?_
        rw [jb_set, if_pos (by rw [hpl] at c1; simpa using c1)]
  exact loop (glg G) 0 (by omega)
/-- how many below n it holds of -/
def sp_cnt (p : Nat → Bool) : Nat → Nat
  | 0 => 0
  | n + 1 => if p n = true then sp_cnt p n + 1 else sp_cnt p n
theorem sp_cnt_le (p : Nat → Bool) : ∀ n, sp_cnt p n ≤ n
  | 0 => Nat.le_refl 0
  | n + 1 => by
    have := sp_cnt_le p n
    rw [sp_cnt]; split <;> omega
theorem jl_inCoverts (h : jLG v a G) {P : Int32} {co : Nat → Int32} (hP : jpk P co (glg G)) : jx_W 2 jk_X0_inCoverts 0 [some (.ref 6), some (.int P), none, none] [] (jL v a w) (jx_is (some (.int (nI (sp_cnt (fun l => decide (co l ≠ -1)) (glg G))))) (jL v a w)) := by
  have ho := h.ok
  refine jx_steps 4 rfl trivial ?_
  have loop : ∀ k i, i + k = glg G → jx_W 2 jk_X0_inCoverts 4 [some (.ref 6), some (.int P), some (.int (nI (sp_cnt (fun l => decide (co l ≠ -1)) i))), some (.int (nI i))] [] (jL v a w) (jx_is (some (.int (nI (sp_cnt (fun l => decide (co l ≠ -1)) (glg G))))) (jL v a w)) := by
    intro k
    induction k with
    | zero =>
      intro i hi
      have e : i = glg G := by omega
      refine jx_auto rfl trivial ?_
      refine jx_if rfl (fun _ => ?_) (fun c1 => absurd (jc_end h.laughs (by omega) (by omega)) c1)
      refine jx_auto rfl trivial ?_
      exact jx_ends rfl trivial (by rw [e])
    | succ k ih =>
      intro i hi
      have hpl := jp_pl_of hP ho.2.2.1 (show i < glg G by omega)
      refine jx_auto rfl trivial ?_
      refine jx_if rfl (fun c1 => absurd c1 (jc_on h.laughs (by omega) (by omega))) (fun _ => ?_)
      refine jx_auto rfl trivial ?_
      refine jx_callE 1 rfl (by decide) jl_placeIn ?_
      refine jx_auto rfl trivial ?_
      refine jx_if rfl (fun c1 => ?_) (fun c1 => ?_)
      · refine jx_steps 2 rfl trivial ?_
        rw [nI_1]
        refine jx_at (ih (i + 1) (by omega)) rfl ?_
        rw [sp_cnt, if_neg (by rw [hpl] at c1; simpa using c1)]
      · refine jx_steps 3 rfl trivial ?_
        rw [nI_1, nI_1]
        refine jx_at (ih (i + 1) (by omega)) rfl ?_
        rw [sp_cnt, if_pos (by rw [hpl] at c1; simpa using c1)]
  exact loop (glg G) 0 (by omega)
/-- the first from i on, k of them, that it holds of -/
def sp_ff (p : Nat → Bool) : Nat → Nat → Option Nat
  | _, 0 => none
  | i, k + 1 => if p i = true then some i else sp_ff p (i + 1) k
theorem jl_leastInNone (h : jLG v a G) {P : Int32} {co : Nat → Int32} (hP : jpk P co (glg G)) : jx_W 2 jk_X0_leastInNone 0 [some (.ref 6), some (.int P), none] [] (jL v a w) (jx_is (some (.int (sp_opt (sp_ff (fun l => decide (co l = -1)) 0 (glg G))))) (jL v a w)) := by
  have ho := h.ok
  refine jx_steps 2 rfl trivial ?_
  have loop : ∀ k i, i + k = glg G → jx_W 2 jk_X0_leastInNone 2 [some (.ref 6), some (.int P), some (.int (nI i))] [] (jL v a w) (jx_is (some (.int (sp_opt (sp_ff (fun l => decide (co l = -1)) i k)))) (jL v a w)) := by
    intro k
    induction k with
    | zero =>
      intro i hi
      refine jx_auto rfl trivial ?_
      refine jx_if rfl (fun _ => ?_) (fun c1 => absurd (jc_end h.laughs (by omega) (by omega)) c1)
      refine jx_auto rfl trivial ?_
      exact jx_ends rfl trivial
    | succ k ih =>
      intro i hi
      have hpl := jp_pl_of hP ho.2.2.1 (show i < glg G by omega)
      refine jx_auto rfl trivial ?_
      refine jx_if rfl (fun c1 => absurd c1 (jc_on h.laughs (by omega) (by omega))) (fun _ => ?_)
      refine jx_auto rfl trivial ?_
      refine jx_callE 1 rfl (by decide) jl_placeIn ?_
      refine jx_auto rfl trivial ?_
      refine jx_if rfl (fun c1 => ?_) (fun c1 => ?_)
      · refine jx_steps 2 rfl trivial ?_
        rw [nI_1, sp_ff, if_neg (by rw [hpl] at c1; simpa using c1)]
        exact ih (i + 1) (by omega)
      · refine jx_auto rfl trivial ?_
        refine jx_ends rfl trivial ?_
        rw [sp_ff, if_pos (by rw [hpl] at c1; simpa using c1)]
        rfl
  exact loop (glg G) 0 (by omega)
theorem sp_had_cand {r p : Int32} {c : Nat} {x : Int32} : ∀ {n b : Nat}, sp_hadN G r p c x n = some b → b < n ∧ sp_candB G r p c x b = true
  | 0, b, h => by cases h
  | n + 1, b, h => by
    rw [sp_hadN] at h
    cases ho : sp_hadN G r p c x n with
    | none =>
      rw [ho] at h
      dsimp only at h
      split at h
      · cases h; exact ⟨by omega, by assumption⟩
      · cases h
    | some b0 =>
      rw [ho] at h
      dsimp only at h
      split at h
      · rename_i hb
        rw [Bool.and_eq_true] at hb
        cases h; exact ⟨by omega, hb.1⟩
      · cases h
        obtain ⟨h1, h2⟩ := sp_had_cand ho
        exact ⟨by omega, h2⟩
theorem sp_candB_iff {r p : Int32} {c : Nat} {x : Int32} {l : Nat} : sp_candB G r p c x l = true ↔ gco G l = nI c ∧ sp_peg G l (nI c) x = p ∧ 0 < sp_height G l c ∧ sp_height G l c ≤ r := by
  simp [sp_candB, and_assoc]
/-- the greatest height so far -/
def sp_gr (G : jG) (c : Nat) (o : Option Nat) : Int32 := match o with
  | none => 0
  | some b => sp_height G b c
theorem jl_hadAt (h : jLG v a G) {co : Nat → Int32} {c : Nat} (hc : c < gcv G) {p r x : Int32} : jx_W 4 jk_X0_hadAt 0 [some (.ref 6), some (.int p), some (.int r), some (.int (jb_set (fun l => decide (co l = nI c)) (glg G))), some (.int (nI c)), some (.int x), none, none, none, none] [] (jL v a w) (jx_is (some (.int (sp_opt (sp_hadN (gst G 5 co) r p c x (glg G))))) (jL v a w)) := by
  have ho := h.ok
  refine jx_steps 6 rfl trivial ?_
  have loop : ∀ k i, i + k = glg G → ∀ z : Option Value, jx_W 4 jk_X0_hadAt 9 [some (.ref 6), some (.int p), some (.int r), some (.int (jb_set (fun l => decide (co l = nI c)) (glg G))), some (.int (nI c)), some (.int x), some (.int (sp_opt (sp_hadN (gst G 5 co) r p c x i))), some (.int (sp_gr G c (sp_hadN (gst G 5 co) r p c x i))), some (.int (nI i)), z] [] (jL v a w) (jx_is (some (.int (sp_opt (sp_hadN (gst G 5 co) r p c x (glg G))))) (jL v a w)) := by
    intro k
    induction k with
    | zero =>
      intro i hi z
      have e : i = glg G := by omega
      refine jx_auto rfl trivial ?_
      refine jx_if rfl (fun _ => ?_) (fun c1 => absurd (jc_end h.laughs (by omega) (by omega)) c1)
      refine jx_auto rfl trivial ?_
      exact jx_ends rfl trivial (by rw [e])
    | succ k ih =>
      intro i hi z
      have hil : i < glg G := by omega
      have stay : sp_hadN (gst G 5 co) r p c x (i + 1) = sp_hadN (gst G 5 co) r p c x i → ∀ z, jx_W 4 jk_X0_hadAt 72 [some (.ref 6), some (.int p), some (.int r), some (.int (jb_set (fun l => decide (co l = nI c)) (glg G))), some (.int (nI c)), some (.int x), some (.int (sp_opt (sp_hadN (gst G 5 co) r p c x i))), some (.int (sp_gr G c (sp_hadN (gst G 5 co) r p c x i))), some (.int (nI i)), z] [] (jL v a w) (jx_is (some (.int (sp_opt (sp_hadN (gst G 5 co) r p c x (glg G))))) (jL v a w)) := by
        intro e z
        refine jx_steps 2 rfl trivial ?_
        rw [nI_1, ← e]
        exact ih (i + 1) (by omega) z
      have no : ¬ sp_candB (gst G 5 co) r p c x i = true → sp_hadN (gst G 5 co) r p c x (i + 1) = sp_hadN (gst G 5 co) r p c x i := by
        intro hb
        have hb : sp_candB (gst G 5 co) r p c x i = false := by simpa using hb
        rw [sp_hadN]
        cases sp_hadN (gst G 5 co) r p c x i with
        | none => simp [hb]
        | some b => simp [hb]
      have hin := jb_in (fun l => decide (co l = nI c)) ho.2.2.1 hil
      refine jx_auto rfl trivial ?_
      refine jx_if rfl (fun c1 => absurd c1 (jc_on h.laughs (by omega) (by omega))) (fun _ => ?_)
      refine jx_auto rfl trivial ?_
      dsimp only
      rw [hin]
      refine jx_if rfl (fun c1 => ?_) (fun c1 => ?_)
      · refine stay (no (fun hb => ?_)) z
        have := (sp_candB_iff.mp hb).1
        have e2 : co i = nI c := this
        rw [if_pos (by simpa using e2)] at c1
        cases c1
      · have hco : co i = nI c := by
          by_cases q : co i = nI c
          · exact q
          · exact absurd (if_neg (by simpa using q)) c1
        refine jx_auto rfl trivial ?_
        refine jx_callE 3 rfl (by decide) (jl_pegFrom_in h hil hc) ?_
        refine jx_auto rfl trivial ?_
        refine jx_if rfl (fun c2 => ?_) (fun c2 => ?_)
        · exact stay (no (fun hb => c2 (sp_candB_iff.mp hb).2.1)) z
        · have c2 : sp_peg G i (nI c) x = p := by simpa using c2
          refine jx_auto rfl trivial ?_
          refine jx_callE 2 rfl (by decide) (jl_heightFrom_in h hil hc) ?_
          refine jx_auto rfl trivial ?_
          refine jx_if rfl (fun c3 => ?_) (fun c3 => ?_)
          · refine stay ?_ _
            rw [sp_hadN]
            cases hq : sp_hadN (gst G 5 co) r p c x i with
            | none =>
              rw [hq] at c3
              have hb : ¬ sp_candB (gst G 5 co) r p c x i = true := fun hb => absurd (sp_candB_iff.mp hb).2.2.1 (Int32.not_lt.mpr c3)
              simp [hb]
            | some b =>
              rw [hq] at c3
              have hb : ¬ sp_height (gst G 5 co) b c < sp_height (gst G 5 co) i c := Int32.not_lt.mpr c3
              simp [hb]
          · refine jx_auto rfl trivial ?_
            refine jx_if rfl (fun c4 => ?_) (fun c4 => ?_)
            · exact stay (no (fun hb => absurd (sp_candB_iff.mp hb).2.2.2 (Int32.not_le.mpr c4))) _
            · have c3 := Int32.not_le.mp c3
              have hnew : sp_hadN (gst G 5 co) r p c x (i + 1) = some i := by
                rw [sp_hadN]
                cases hq : sp_hadN (gst G 5 co) r p c x i with
                | none =>
                  rw [hq] at c3
                  have hb : sp_candB (gst G 5 co) r p c x i = true := sp_candB_iff.mpr ⟨hco, c2, c3, Int32.not_lt.mp c4⟩
                  simp [hb]
                | some b =>
                  rw [hq] at c3
                  have hbp := (sp_candB_iff.mp (sp_had_cand hq).2).2.2.1
                  have h0 : 0 < sp_height (gst G 5 co) i c := Int32.lt_trans hbp c3
                  have hb : sp_candB (gst G 5 co) r p c x i = true := sp_candB_iff.mpr ⟨hco, c2, h0, Int32.not_lt.mp c4⟩
                  have h3 : sp_height (gst G 5 co) b c < sp_height (gst G 5 co) i c := c3
                  simp [hb, h3]
              refine jx_steps 6 rfl trivial ?_
              rw [nI_1]
              refine jx_at (ih (i + 1) (by omega) (some (.int (sp_height G i c)))) rfl ?_
              rw [hnew]; rfl
  exact loop (glg G) 0 (by omega) none
end
