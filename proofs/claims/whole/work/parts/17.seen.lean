/-! likely; what is seen; hear -/
def sp_seenN (G : jG) (l c : Nat) : Nat → Bool
  | 0 => true
  | k + 1 => sp_seenN G l c k && (decide (¬ gsl G k = nI l) || decide (sp_peg G l (nI c) (gsw G k) = gsp G k))
def sp_seen (G : jG) (l c : Nat) : Bool := sp_seenN G l c (gsn G)
def sp_poss (G : jG) (l : Nat) : Int32 := jb_set (fun c => sp_seen G l c) (gcv G)
/-- how many of the possible coverts are left by a peg -/
def sp_left (G : jG) (l : Nat) (x pg : Int32) (n : Nat) : Nat := sp_cnt (fun c => sp_seen G l c && decide (sp_peg G l (nI c) x = pg)) n
def sp_worst (G : jG) (l : Nat) (x : Int32) : Nat → Nat
  | 0 => 0
  | n + 1 => if sp_seen G l n = true then max (sp_worst G l x n) (sp_left G l x (sp_peg G l (nI n) x) (gcv G)) else sp_worst G l x n
/-- hear: the best wind so far (1 more), and how many it leaves at worst -/
def sp_hearN (G : jG) (l : Nat) : Nat → Int32 × Nat
  | 0 => (-1, 5)
  | k + 1 => if sp_worst G l (nI k - 1) (gcv G) < (sp_hearN G l k).2 then (nI k, sp_worst G l (nI k - 1) (gcv G)) else sp_hearN G l k
def sp_hear (G : jG) (l : Nat) : Int32 := if sp_poss G l = 0 then -1 else (sp_hearN G l 3).1
/-- how likely: of the three winds -/
def sp_lik (G : jG) (l : Nat) (x : Int32) : Bool := match sp_ff (fun c => decide (gco G l = nI c)) 0 (gcv G) with
  | none => false
  | some c => sp_taken G c x (gpg G) l
def sp_likely (G : jG) (l : Nat) : Nat := sp_cnt (fun k => sp_lik G l (nI k - 1)) 3
section
variable {v : Nat → Int32} {a : Nat → List Int32} {w : Int64} {G : jG}
theorem jl_isAsSeen (h : jLG v a G) {l c : Nat} (hl : l < glg G) (hc : c < gcv G) : jx_W 4 jk_X0_isAsSeen 0 [some (.ref 6), some (.int (nI l)), some (.int (nI c)), none, none] [] (jL v a w) (jx_is (some (.int (if sp_seen G l c = true then 1 else 0))) (jL v a w)) := by
  have ho := h.ok
  have hn := h.lens
  refine jx_steps 4 rfl trivial ?_
  have loop : ∀ k i, i + k = gsn G → jx_W 4 jk_X0_isAsSeen 5 [some (.ref 6), some (.int (nI l)), some (.int (nI c)), some (.int (if sp_seenN G l c i = true then 1 else 0)), some (.int (nI i))] [] (jL v a w) (jx_is (some (.int (if sp_seen G l c = true then 1 else 0))) (jL v a w)) := by
    intro k
    induction k with
    | zero =>
      intro i hi
      have e : i = gsn G := by omega
      refine jx_auto rfl trivial ?_
      refine jx_if rfl (fun _ => ?_) (fun c1 => absurd (jc_end h.seen (by omega) (by omega)) c1)
      refine jx_auto rfl trivial ?_
      refine jx_ends rfl ⟨?_, trivial⟩ (by rw [sp_seen, e])
      split <;> simp
    | succ k ih =>
      intro i hi
      have hil : i < gsn G := by omega
      refine jx_auto rfl trivial ?_
      refine jx_if rfl (fun c1 => absurd c1 (jc_on h.seen (by omega) (by omega))) (fun _ => ?_)
      refine jx_auto rfl trivial ?_
      refine jx_callE 1 rfl (by decide) (jr_at (by omega) rfl rfl) ?_
      have e1 := h.atSl hil
      have e2 := h.atSw hil
      have e3 := h.atSp hil
      refine jx_auto rfl trivial ?_
      refine jx_if rfl (fun c1 => ?_) (fun c1 => ?_)
      · have c1 : ¬ gsl G i = nI l := by rw [e1] at c1; exact c1
        refine jx_steps 2 rfl trivial ?_
        rw [nI_1]
        refine jx_at (ih (i + 1) (by omega)) rfl ?_
        rw [sp_seenN]
        simp [c1]
      · have c1 : gsl G i = nI l := by rw [e1] at c1; simpa using c1
        refine jx_auto rfl trivial ?_
        refine jx_callE 1 rfl (by decide) (jr_at (by omega) rfl rfl) ?_
        refine jx_callE 3 rfl (by decide) (jl_pegFrom_in h hl hc) ?_
        refine jx_auto rfl trivial ?_
        refine jx_callE 1 rfl (by decide) (jr_at (by omega) rfl rfl) ?_
        refine jx_if rfl (fun c2 => ?_) (fun c2 => ?_)
        · have c2 : ¬ sp_peg G l (nI c) (gsw G i) = gsp G i := by rw [e2, e3] at c2; exact c2
          refine jx_steps 5 rfl trivial ?_
          rw [nI_1]
          refine jx_at (ih (i + 1) (by omega)) rfl ?_
          have : sp_seenN G l c (i + 1) = false := by rw [sp_seenN]; simp [c1, c2]
          rw [this]
          cases sp_seenN G l c i <;> rfl
        · have c2 : sp_peg G l (nI c) (gsw G i) = gsp G i := by rw [e2, e3] at c2; simpa using c2
          refine jx_steps 6 rfl trivial ?_
          rw [nI_1]
          refine jx_at (ih (i + 1) (by omega)) rfl ?_
          have : sp_seenN G l c (i + 1) = sp_seenN G l c i := by rw [sp_seenN]; simp [c2]
          rw [this]
          cases sp_seenN G l c i <;> rfl
  exact loop (gsn G) 0 (by omega)
theorem jl_covertsPossible (h : jLG v a G) {l : Nat} (hl : l < glg G) : jx_W 5 jk_X0_covertsPossible 0 [some (.ref 6), some (.int (nI l)), none, none] [] (jL v a w) (jx_is (some (.int (sp_poss G l))) (jL v a w)) := by
  have ho := h.ok
  refine jx_steps 4 rfl trivial ?_
  have loop : ∀ k i, i + k = gcv G → jx_W 5 jk_X0_covertsPossible 4 [some (.ref 6), some (.int (nI l)), some (.int (jb_set (fun c => sp_seen G l c) i)), some (.int (nI i))] [] (jL v a w) (jx_is (some (.int (sp_poss G l))) (jL v a w)) := by
    intro k
    induction k with
    | zero =>
      intro i hi
      have e : i = gcv G := by omega
      refine jx_auto rfl trivial ?_
      refine jx_if rfl (fun _ => ?_) (fun c1 => absurd (jc_end h.coverts (by omega) (by omega)) c1)
      refine jx_auto rfl trivial ?_
      exact jx_ends rfl trivial (by rw [sp_poss, e])
    | succ k ih =>
      intro i hi
      refine jx_auto rfl trivial ?_
      refine jx_if rfl (fun c1 => absurd c1 (jc_on h.coverts (by omega) (by omega))) (fun _ => ?_)
      refine jx_auto rfl trivial ?_
      refine jx_callE 4 rfl (by decide) (jl_isAsSeen h hl (show i < gcv G by omega)) ?_
      refine jx_if rfl (fun c1 => ?_) (fun c1 => ?_)
      · have c1 : ¬ sp_seen G l i = true := fun z => by rw [if_pos z] at c1; cases c1
        refine jx_steps 2 rfl trivial ?_
        rw [nI_1]
        refine jx_at (ih (i + 1) (by omega)) rfl ?_
        rw [jb_set, if_neg c1]
      · have c1 : sp_seen G l i = true := by
          by_cases q : sp_seen G l i = true
          · exact q
          · exact absurd (if_neg q) c1
        refine jx_steps 8 rfl trivial ?_
        rw [nI_1]
        refine jx_at (ih (i + 1) (by omega)) rfl ?_
        rw [jb_set, if_pos c1]
  exact loop (gcv G) 0 (by omega)
theorem jl_leftBy (h : jLG v a G) {l : Nat} (hl : l < glg G) {x pg : Int32} : jx_W 4 jk_X0_leftBy 0 [some (.ref 6), some (.int (nI l)), some (.int x), some (.int (sp_poss G l)), some (.int pg), none, none] [] (jL v a w) (jx_is (some (.int (nI (sp_left G l x pg (gcv G))))) (jL v a w)) := by
  have ho := h.ok
  refine jx_steps 4 rfl trivial ?_
  have loop : ∀ k i, i + k = gcv G → jx_W 4 jk_X0_leftBy 6 [some (.ref 6), some (.int (nI l)), some (.int x), some (.int (sp_poss G l)), some (.int pg), some (.int (nI (sp_left G l x pg i))), some (.int (nI i))] [] (jL v a w) (jx_is (some (.int (nI (sp_left G l x pg (gcv G))))) (jL v a w)) := by
    intro k
    induction k with
    | zero =>
      intro i hi
      have e : i = gcv G := by omega
      refine jx_auto rfl trivial ?_
      refine jx_if rfl (fun _ => ?_) (fun c1 => absurd (jc_end h.coverts (by omega) (by omega)) c1)
      refine jx_auto rfl trivial ?_
      exact jx_ends rfl trivial (by rw [e])
    | succ k ih =>
      intro i hi
      have hin := jb_in (fun c => sp_seen G l c) (show gcv G ≤ 6 by omega) (show i < gcv G by omega)
      have hs : sp_left G l x pg (i + 1) = if (sp_seen G l i && decide (sp_peg G l (nI i) x = pg)) = true then sp_left G l x pg i + 1 else sp_left G l x pg i := rfl
      refine jx_auto rfl trivial ?_
      refine jx_if rfl (fun c1 => absurd c1 (jc_on h.coverts (by omega) (by omega))) (fun _ => ?_)
      refine jx_auto rfl trivial ?_
      dsimp only
      rw [sp_poss, hin, ← sp_poss]
      refine jx_if rfl (fun c1 => ?_) (fun c1 => ?_)
      · have c1 : ¬ sp_seen G l i = true := fun z => by rw [if_pos z] at c1; cases c1
        refine jx_steps 2 rfl trivial ?_
        rw [nI_1]
        refine jx_at (ih (i + 1) (by omega)) rfl ?_
        rw [hs, if_neg (by simp [c1])]
      · have c1 : sp_seen G l i = true := by
          by_cases q : sp_seen G l i = true
          · exact q
          · exact absurd (if_neg q) c1
        refine jx_auto rfl trivial ?_
        refine jx_callE 3 rfl (by decide) (jl_pegFrom_in h hl (show i < gcv G by omega)) ?_
        refine jx_auto rfl trivial ?_
        refine jx_if rfl (fun c2 => ?_) (fun c2 => ?_)
        · refine jx_steps 2 rfl trivial ?_
          rw [nI_1]
          refine jx_at (ih (i + 1) (by omega)) rfl ?_
          rw [hs, if_neg (by simp [c2])]
        · have c2 : sp_peg G l (nI i) x = pg := by simpa using c2
          refine jx_steps 3 rfl trivial ?_
          rw [nI_1, nI_1]
          refine jx_at (ih (i + 1) (by omega)) rfl ?_
          rw [hs, if_pos (by simp [c1, c2])]
  exact loop (gcv G) 0 (by omega)
theorem sp_left_le (l : Nat) (x pg : Int32) (n : Nat) : sp_left G l x pg n ≤ n := sp_cnt_le _ n
theorem sp_worst_le (l : Nat) (x : Int32) : ∀ n, sp_worst G l x n ≤ gcv G
  | 0 => Nat.zero_le _
  | n + 1 => by
    have h1 := sp_worst_le l x n
    have h2 := sp_left_le (G := G) l x (sp_peg G l (nI n) x) (gcv G)
    rw [sp_worst]; split <;> omega
theorem nI_max {a b : Nat} (ha : a < 2 ^ 31) (hb : b < 2 ^ 31) : (if nI a < nI b then nI b else nI a) = nI (max a b) := by
  by_cases h : a < b
  · rw [if_pos (nI_lt h hb), Nat.max_eq_right (by omega)]
  · rw [if_neg (nI_nlt (by omega) ha), Nat.max_eq_left (by omega)]
theorem jl_leftAtWorst (h : jLG v a G) {l : Nat} (hl : l < glg G) {x : Int32} : jx_W 5 jk_X0_leftAtWorst 0 [some (.ref 6), some (.int (nI l)), some (.int x), some (.int (sp_poss G l)), none, none] [] (jL v a w) (jx_is (some (.int (nI (sp_worst G l x (gcv G))))) (jL v a w)) := by
  have ho := h.ok
  refine jx_steps 4 rfl trivial ?_
  have loop : ∀ k i, i + k = gcv G → jx_W 5 jk_X0_leftAtWorst 6 [some (.ref 6), some (.int (nI l)), some (.int x), some (.int (sp_poss G l)), some (.int (nI (sp_worst G l x i))), some (.int (nI i))] [] (jL v a w) (jx_is (some (.int (nI (sp_worst G l x (gcv G))))) (jL v a w)) := by
    intro k
    induction k with
    | zero =>
      intro i hi
      have e : i = gcv G := by omega
      refine jx_auto rfl trivial ?_
      refine jx_if rfl (fun _ => ?_) (fun c1 => absurd (jc_end h.coverts (by omega) (by omega)) c1)
      refine jx_auto rfl trivial ?_
      exact jx_ends rfl trivial (by rw [e])
    | succ k ih =>
      intro i hi
      have hin := jb_in (fun c => sp_seen G l c) (show gcv G ≤ 6 by omega) (show i < gcv G by omega)
      refine jx_auto rfl trivial ?_
      refine jx_if rfl (fun c1 => absurd c1 (jc_on h.coverts (by omega) (by omega))) (fun _ => ?_)
      refine jx_auto rfl trivial ?_
      dsimp only
      rw [sp_poss, hin, ← sp_poss]
      refine jx_if rfl (fun c1 => ?_) (fun c1 => ?_)
      · have c1 : ¬ sp_seen G l i = true := fun z => by rw [if_pos z] at c1; cases c1
        refine jx_steps 2 rfl trivial ?_
        rw [nI_1]
        refine jx_at (ih (i + 1) (by omega)) rfl ?_
        rw [sp_worst, if_neg c1]
      · have c1 : sp_seen G l i = true := by
          by_cases q : sp_seen G l i = true
          · exact q
          · exact absurd (if_neg q) c1
        refine jx_auto rfl trivial ?_
        refine jx_callE 3 rfl (by decide) (jl_pegFrom_in h hl (show i < gcv G by omega)) ?_
        refine jx_callE 4 rfl (by decide) (jl_leftBy h hl) ?_
        refine jx_steps 4 rfl trivial ?_
        have h1 := sp_worst_le (G := G) l x i
        have h2 := sp_left_le (G := G) l x (sp_peg G l (nI i) x) (gcv G)
        rw [nI_1, nI_max (by omega) (by omega)]
        refine jx_at (ih (i + 1) (by omega)) rfl ?_
        rw [sp_worst, if_pos c1]
  exact loop (gcv G) 0 (by omega)
theorem sp_hearN_le (l : Nat) (hc : gcv G ≤ 4) : ∀ k, (sp_hearN G l k).2 ≤ 5
  | 0 => Nat.le_refl 5
  | k + 1 => by
    have h1 := sp_hearN_le l hc k
    have h2 := sp_worst_le (G := G) l (nI k - 1) (gcv G)
    rw [sp_hearN]; split
    · show sp_worst G l (nI k - 1) (gcv G) ≤ 5; omega
    · exact h1
theorem jl_hear (h : jLG v a G) {l : Nat} (hl : l < glg G) : jx_W 6 jk_X0_hear 0 [some (.ref 6), some (.int (nI l)), none, none, none, none, none] [] (jL v a w) (jx_is (some (.int (sp_hear G l))) (jL v a w)) := by
  have ho := h.ok
  refine jx_auto rfl trivial ?_
  refine jx_callE 5 rfl (by decide) (jl_covertsPossible h hl) ?_
  refine jx_steps 7 rfl trivial ?_
  have loop : ∀ k i, i + k = 3 → ∀ z : Option Value, jx_W 6 jk_X0_hear 14 [some (.ref 6), some (.int (nI l)), some (.int (sp_poss G l)), some (.int (if sp_poss G l = 0 then -1 else (sp_hearN G l i).1)), some (.int (if sp_poss G l = 0 then 5 else nI (sp_hearN G l i).2)), some (.int (nI i - 1)), z] [] (jL v a w) (jx_is (some (.int (sp_hear G l))) (jL v a w)) := by
    intro k
    induction k with
    | zero =>
      intro i hi z
      have e : i = 3 := by omega
      subst e
      have fin : jx_W 6 jk_X0_hear 56 [some (.ref 6), some (.int (nI l)), some (.int (sp_poss G l)), some (.int (if sp_poss G l = 0 then -1 else (sp_hearN G l 3).1)), some (.int (if sp_poss G l = 0 then 5 else nI (sp_hearN G l 3).2)), some (.int (nI 3 - 1)), z] [] (jL v a w) (jx_is (some (.int (sp_hear G l))) (jL v a w)) := by
        refine jx_auto rfl trivial ?_
        exact jx_ends rfl trivial
      refine jx_auto rfl trivial ?_
      refine jx_if rfl (fun _ => fin) (fun _ => ?_)
      refine jx_auto rfl trivial ?_
      exact jx_if rfl (fun _ => fin) (fun c1 => absurd (by decide) c1)
    | succ k ih =>
      intro i hi z
      refine jx_auto rfl trivial ?_
      refine jx_if rfl (fun c1 => ?_) (fun c0 => ?_)
      · refine jx_auto rfl trivial ?_
        refine jx_ends rfl trivial ?_
        rw [sp_hear, if_pos c1, if_pos c1]
      · rw [if_neg c0, if_neg c0]
        have hw : ∀ i, i < 3 → ¬ (1 : Int32) < nI i - 1 := by decide
        refine jx_auto rfl trivial ?_
        refine jx_if rfl (fun c1 => absurd c1 (hw i (by omega))) (fun _ => ?_)
        refine jx_auto rfl trivial ?_
        refine jx_callE 5 rfl (by decide) (jl_leftAtWorst h hl) ?_
        refine jx_auto rfl trivial ?_
        have h1 := sp_worst_le (G := G) l (nI i - 1) (gcv G)
        have h2 := sp_hearN_le (G := G) l ho.2.1 i
        have e0 : ∀ i, i < 3 → nI i - 1 + 1 = nI (i + 1) - 1 := by decide
        have e1 : ∀ i, i < 3 → nI i - 1 + 1 = nI i := by decide
        refine jx_if rfl (fun c1 => ?_) (fun c1 => ?_)
        · refine jx_steps 2 rfl trivial ?_
          rw [e0 i (by omega)]
          refine jx_at (ih (i + 1) (by omega) (some (.int (nI (sp_worst G l (nI i - 1) (gcv G)))))) rfl ?_
          have : ¬ sp_worst G l (nI i - 1) (gcv G) < (sp_hearN G l i).2 := fun z => absurd c1 (nI_ge z (by omega))
          rw [if_neg c0, if_neg c0, sp_hearN, if_neg this]
        · refine jx_steps 8 rfl trivial ?_
          dsimp only
          rw [e0 i (by omega)]
          refine jx_at (ih (i + 1) (by omega) (some (.int (nI (sp_worst G l (nI i - 1) (gcv G)))))) rfl ?_
          have : sp_worst G l (nI i - 1) (gcv G) < (sp_hearN G l i).2 := by
            rcases Nat.lt_or_ge (sp_worst G l (nI i - 1) (gcv G)) (sp_hearN G l i).2 with q | q
            · exact q
            · exact absurd (nI_le q (by omega)) c1
          rw [if_neg c0, if_neg c0, sp_hearN, if_pos this, nI_pred]
  refine jx_at (loop 3 0 (by omega) none) rfl ?_
  have : (if sp_poss G l = 0 then (-1 : Int32) else -1) = -1 := by split <;> rfl
  have e5 : (if sp_poss G l = 0 then (5 : Int32) else nI 5) = 5 := by split <;> rfl
  show _ = [_, _, _, some (Value.int (if sp_poss G l = 0 then (-1 : Int32) else -1)), some (Value.int (if sp_poss G l = 0 then (5 : Int32) else nI 5)), _, _]
  rw [this, e5]; rfl
end
