/-! LaughDrive's small methods -/
section
variable {v : Nat → Int32} {a : Nat → List Int32} {w : Int64} {G : jG}
theorem jl_isWind {h : jx_H} {x : Int32} : jx_W 1 jk_X6_isWind 0 [some (.int x)] [] h (jx_is (some (.int (if -1 ≤ x ∧ x ≤ 1 then 1 else 0))) h) := by
  refine jx_auto rfl trivial ?_
  refine jx_if rfl (fun c1 => ?_) (fun c1 => ?_)
  · refine jx_auto rfl trivial ?_
    refine jx_ends rfl ⟨Or.inl rfl, trivial⟩ ?_
    rw [if_neg (fun z => absurd c1 (Int32.not_lt.mpr z.1))]
  · refine jx_auto rfl trivial ?_
    refine jx_if rfl (fun c2 => ?_) (fun c2 => ?_)
    · refine jx_auto rfl trivial ?_
      refine jx_ends rfl ⟨Or.inl rfl, trivial⟩ ?_
      rw [if_neg (fun z => absurd c2 (Int32.not_lt.mpr z.2))]
    · refine jx_auto rfl trivial ?_
      refine jx_ends rfl ⟨Or.inr rfl, trivial⟩ ?_
      rw [if_pos ⟨Int32.not_lt.mp c1, Int32.not_lt.mp c2⟩]
/-- how great, or a place of a row of n -/
def sp_row (k n : Int32) : Int32 := if k = 0 ∨ (10 ≤ k ∧ k < 10 + n) then 1 else 0
theorem jl_isHow {h : jx_H} {x n : Int32} : jx_W 1 jk_X6_isHowGreatOrOfRow 0 [some (.int x), some (.int n)] [] h (jx_is (some (.int (sp_row x n))) h) := by
  refine jx_auto rfl trivial ?_
  refine jx_if rfl (fun c1 => ?_) (fun c1 => ?_)
  · refine jx_auto rfl trivial ?_
    refine jx_ends rfl ⟨Or.inr rfl, trivial⟩ ?_
    rw [sp_row, if_pos (Or.inl c1)]
  · refine jx_auto rfl trivial ?_
    refine jx_if rfl (fun c2 => ?_) (fun c2 => ?_)
    · refine jx_auto rfl trivial ?_
      refine jx_ends rfl ⟨Or.inl rfl, trivial⟩ ?_
      rw [sp_row, if_neg]
      rintro (z | z)
      · exact c1 z
      · exact absurd c2 (Int32.not_lt.mpr z.1)
    · refine jx_auto rfl trivial ?_
      refine jx_if rfl (fun c3 => ?_) (fun c3 => ?_)
      · refine jx_auto rfl trivial ?_
        refine jx_ends rfl ⟨Or.inl rfl, trivial⟩ ?_
        rw [sp_row, if_neg]
        rintro (z | z)
        · exact c1 z
        · exact absurd z.2 (Int32.not_lt.mpr c3)
      · refine jx_auto rfl trivial ?_
        refine jx_ends rfl ⟨Or.inr rfl, trivial⟩ ?_
        rw [sp_row, if_pos (Or.inr ⟨Int32.not_lt.mp c2, Int32.not_le.mp c3⟩)]
/-- a laugh of kind k is such a one as j asks -/
def sp_such (k j : Int32) : Int32 := if j = 0 ∨ j = k ∨ (j = 2 ∧ k = 4) then 1 else 0
theorem jl_isSuch {h : jx_H} {k j : Int32} : jx_W 1 jk_X6_isSuch 0 [some (.int k), some (.int j)] [] h (jx_is (some (.int (sp_such k j))) h) := by
  refine jx_auto rfl trivial ?_
  refine jx_if rfl (fun c1 => ?_) (fun c1 => ?_)
  · refine jx_auto rfl trivial ?_
    refine jx_ends rfl ⟨Or.inr rfl, trivial⟩ ?_
    rw [sp_such, if_pos (Or.inl c1)]
  · refine jx_auto rfl trivial ?_
    refine jx_if rfl (fun c2 => ?_) (fun c2 => ?_)
    · refine jx_auto rfl trivial ?_
      refine jx_ends rfl ⟨Or.inr rfl, trivial⟩ ?_
      rw [sp_such, if_pos (Or.inr (Or.inl c2))]
    · refine jx_auto rfl trivial ?_
      refine jx_if rfl (fun c3 => ?_) (fun c3 => ?_)
      · refine jx_auto rfl trivial ?_
        refine jx_ends rfl ⟨Or.inl rfl, trivial⟩ ?_
        rw [sp_such, if_neg]
        rintro (z | z | z)
        · exact c1 z
        · exact c2 z
        · exact c3 z.1
      · refine jx_auto rfl trivial ?_
        refine jx_if rfl (fun c4 => ?_) (fun c4 => ?_)
        · refine jx_auto rfl trivial ?_
          refine jx_ends rfl ⟨Or.inl rfl, trivial⟩ ?_
          rw [sp_such, if_neg]
          rintro (z | z | z)
          · exact c1 z
          · exact c2 z
          · exact c4 z.2
        · refine jx_auto rfl trivial ?_
          refine jx_ends rfl ⟨Or.inr rfl, trivial⟩ ?_
          rw [sp_such, if_pos (Or.inr (Or.inr ⟨Decidable.not_not.mp c3, Decidable.not_not.mp c4⟩))]
/-- a digit laid into a row -/
theorem jl_digit1 {k : Nat} {x : Int32} (hk : k < (a 1).length) (hl : (a 1).length < 2 ^ 31) : jx_W 2 jk_X6_changeDigit 0 [some (.ref 7), some (.int (nI k)), some (.int x), none] [] (jL v a w) (jx_is (some (.int (if 0 ≤ x ∧ x ≤ 9 then (a 1).getD k 0 else -102))) (if 0 ≤ x ∧ x ≤ 9 then jL v (jup a 1 ((a 1).set k x)) w else jL v a w)) := by
  refine jx_auto rfl trivial ?_
  refine jx_if rfl (fun c1 => ?_) (fun c1 => ?_)
  · have hn : ¬ (0 ≤ x ∧ x ≤ 9) := fun z => absurd c1 (Int32.not_lt.mpr z.1)
    rw [if_neg hn, if_neg hn]
    refine jx_auto rfl trivial ?_
    exact jx_ends rfl trivial
  · refine jx_auto rfl trivial ?_
    refine jx_if rfl (fun c2 => ?_) (fun c2 => ?_)
    · have hn : ¬ (0 ≤ x ∧ x ≤ 9) := fun z => absurd c2 (Int32.not_lt.mpr z.2)
      rw [if_neg hn, if_neg hn]
      refine jx_auto rfl trivial ?_
      exact jx_ends rfl trivial
    · have hy : 0 ≤ x ∧ x ≤ 9 := ⟨Int32.not_lt.mp c1, Int32.not_lt.mp c2⟩
      rw [if_pos hy, if_pos hy]
      refine jx_auto rfl trivial ?_
      refine jx_callE 1 rfl (by decide) (jr_at (q := 8) hl rfl rfl) ?_
      refine jx_auto rfl trivial ?_
      refine jx_callE 1 rfl (by decide) (jr_set_in (q := 8) hk hl rfl rfl) ?_
      refine jx_auto rfl trivial ?_
      exact jx_ends rfl trivial (by rw [jp_at_in hk hl])
theorem jl_digit3 {k : Nat} {x : Int32} (hk : k < (a 3).length) (hl : (a 3).length < 2 ^ 31) : jx_W 2 jk_X6_changeDigit 0 [some (.ref 11), some (.int (nI k)), some (.int x), none] [] (jL v a w) (jx_is (some (.int (if 0 ≤ x ∧ x ≤ 9 then (a 3).getD k 0 else -102))) (if 0 ≤ x ∧ x ≤ 9 then jL v (jup a 3 ((a 3).set k x)) w else jL v a w)) := by
  refine jx_auto rfl trivial ?_
  refine jx_if rfl (fun c1 => ?_) (fun c1 => ?_)
  · have hn : ¬ (0 ≤ x ∧ x ≤ 9) := fun z => absurd c1 (Int32.not_lt.mpr z.1)
    rw [if_neg hn, if_neg hn]
    refine jx_auto rfl trivial ?_
    exact jx_ends rfl trivial
  · refine jx_auto rfl trivial ?_
    refine jx_if rfl (fun c2 => ?_) (fun c2 => ?_)
    · have hn : ¬ (0 ≤ x ∧ x ≤ 9) := fun z => absurd c2 (Int32.not_lt.mpr z.2)
      rw [if_neg hn, if_neg hn]
      refine jx_auto rfl trivial ?_
      exact jx_ends rfl trivial
    · have hy : 0 ≤ x ∧ x ≤ 9 := ⟨Int32.not_lt.mp c1, Int32.not_lt.mp c2⟩
      rw [if_pos hy, if_pos hy]
      refine jx_auto rfl trivial ?_
      refine jx_callE 1 rfl (by decide) (jr_at (q := 12) hl rfl rfl) ?_
      refine jx_auto rfl trivial ?_
      refine jx_callE 1 rfl (by decide) (jr_set_in (q := 12) hk hl rfl rfl) ?_
      refine jx_auto rfl trivial ?_
      exact jx_ends rfl trivial (by rw [jp_at_in hk hl])
theorem jl_digit5 {k : Nat} {x : Int32} (hk : k < (a 5).length) (hl : (a 5).length < 2 ^ 31) : jx_W 2 jk_X6_changeDigit 0 [some (.ref 15), some (.int (nI k)), some (.int x), none] [] (jL v a w) (jx_is (some (.int (if 0 ≤ x ∧ x ≤ 9 then (a 5).getD k 0 else -102))) (if 0 ≤ x ∧ x ≤ 9 then jL v (jup a 5 ((a 5).set k x)) w else jL v a w)) := by
  refine jx_auto rfl trivial ?_
  refine jx_if rfl (fun c1 => ?_) (fun c1 => ?_)
  · have hn : ¬ (0 ≤ x ∧ x ≤ 9) := fun z => absurd c1 (Int32.not_lt.mpr z.1)
    rw [if_neg hn, if_neg hn]
    refine jx_auto rfl trivial ?_
    exact jx_ends rfl trivial
  · refine jx_auto rfl trivial ?_
    refine jx_if rfl (fun c2 => ?_) (fun c2 => ?_)
    · have hn : ¬ (0 ≤ x ∧ x ≤ 9) := fun z => absurd c2 (Int32.not_lt.mpr z.2)
      rw [if_neg hn, if_neg hn]
      refine jx_auto rfl trivial ?_
      exact jx_ends rfl trivial
    · have hy : 0 ≤ x ∧ x ≤ 9 := ⟨Int32.not_lt.mp c1, Int32.not_lt.mp c2⟩
      rw [if_pos hy, if_pos hy]
      refine jx_auto rfl trivial ?_
      refine jx_callE 1 rfl (by decide) (jr_at (q := 16) hl rfl rfl) ?_
      refine jx_auto rfl trivial ?_
      refine jx_callE 1 rfl (by decide) (jr_set_in (q := 16) hk hl rfl rfl) ?_
      refine jx_auto rfl trivial ?_
      exact jx_ends rfl trivial (by rw [jp_at_in hk hl])
theorem jl_seenFull : jx_W 1 jk_X5_isFull 0 [some (.ref 17)] [] (jL v a w) (jx_is (some (.int (if v 14 < 6 then 0 else 1))) (jL v a w)) := by
  refine jx_auto rfl trivial ?_
  refine jx_if rfl (fun c1 => ?_) (fun c1 => ?_)
  · refine jx_auto rfl trivial ?_
    refine jx_ends rfl ⟨Or.inl rfl, trivial⟩ ?_
    rw [if_pos c1]
  · refine jx_auto rfl trivial ?_
    refine jx_ends rfl ⟨Or.inr rfl, trivial⟩ ?_
    rw [if_neg c1]
theorem jl_seenClear : jx_W 1 jk_X5_clear 0 [some (.ref 17), none] [] (jL v a w) (jx_is (some (.int (v 14))) (jL (jup v 14 0) a w)) := by
  refine jx_auto rfl trivial ?_
  exact jx_ends rfl trivial
theorem jl_seenAdd {n : Nat} (hn : n < 6) (hv : v 14 = nI n) (h6 : (a 6).length = 6) (h7 : (a 7).length = 6) (h8 : (a 8).length = 6) {x y z : Int32} : jx_W 2 jk_X5_add 0 [some (.ref 17), some (.int x), some (.int y), some (.int z)] [] (jL v a w) (jx_is (some (.int (nI (n + 1)))) (jL (jup v 14 (nI (n + 1))) (jup (jup (jup a 6 ((a 6).set n x)) 7 ((a 7).set n y)) 8 ((a 8).set n z)) w)) := by
  refine jx_auto rfl trivial ?_
  rw [hv]
  refine jx_callE 1 rfl (by decide) (jr_set_in (k := n) (q := 19) (l := a 6) (by omega) (by omega) rfl rfl) ?_
  refine jx_at (pc' := 12) (h' := jL v (jup a 6 ((a 6).set n x)) w) ?_
  refine jx_auto rfl trivial ?_
  rw [hv]
  refine jx_callE 1 rfl (by decide) (jr_set_in (k := n) (q := 21) (l := a 7) (by omega) (by omega) rfl rfl) ?_
  refine jx_auto rfl trivial ?_
  rw [hv]
  refine jx_callE 1 rfl (by decide) (jr_set_in (k := n) (q := 23) (l := a 8) (by omega) (by omega) rfl rfl) ?_
  refine jx_auto rfl trivial ?_
  rw [hv]
  dsimp only
  rw [nI_1]
  exact jx_ends rfl trivial
end
