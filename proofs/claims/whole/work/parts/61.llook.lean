/-! what is looked at: LaughDrive's peg, covert, laugh, as, over -/
def an_peg (G : jG) (p : Nat) (k : Int32) : Int32 := if k = 0 then grc G p else if k = 1 then gbg G p else -102
def an_cov (G : jG) (c : Nat) (k : Int32) : Int32 := if k = 0 then gfe G c else if k = 1 then jb_set (fun l => decide (gco G l = nI c)) (glg G) else -102
def an_high (G : jG) (l : Nat) : Int32 := if 0 ≤ gco G l ∧ gco G l < nI (gcv G) then sp_height G l (gco G l).toNatClampNeg else -1
def an_laugh (G : jG) (l : Nat) (k : Int32) : Int32 := if k = 0 then gkd G l else if k = 1 then gco G l else if k = 2 then ghi G l else if k = 3 then an_high G l else if k = 4 then nI (sp_likely G l) else if k = 5 then sp_poss G l else if k = 6 then sp_hear G l else -102
def an_as (G : jG) (l : Nat) (k : Int32) : Int32 := if 0 ≤ k ∧ k ≤ 4 then (if sp_such (gkd G l) k = 0 then -1 else nI l) else -102
def an_over (G : jG) (l : Nat) (x : Int32) : Int32 := if -1 ≤ x ∧ x ≤ 1 then sp_pegA G l (gco G l) x else -102
section
variable {v : Nat → Int32} {a : Nat → List Int32} {w : Int64} {G : jG}
theorem jl_peg (h : jLG v a G) {x k : Int32} : jx_W 4 jk_X6_peg 0 [some (.ref 0), some (.int x), some (.int k)] [] (jL v a w) (jx_is (some (.int (if sp_has (gpg G) x = 0 then -101 else an_peg G x.toNatClampNeg k))) (jL v a w)) := by
  have ho := h.ok
  have hn := h.lens
  refine jx_auto rfl trivial ?_
  refine jx_callE 1 rfl (by decide) (jl_hasPeg h) ?_
  refine jx_if rfl (fun c1 => ?_) (fun c1 => ?_)
  · rw [if_neg c1]
    obtain ⟨p, hp, rfl⟩ := sp_has_ex c1
    rw [nI_clamp (by omega)]
    refine jx_auto rfl trivial ?_
    refine jx_switch rfl ⟨fun e => ?_, fun e1 => ⟨fun e => ?_, fun e2 => ?_⟩⟩
    · refine jx_auto rfl trivial ?_
      refine jx_callE 1 rfl (by decide) (jr_at (q := 8) (by omega) rfl rfl) ?_
      refine jx_auto rfl trivial ?_
      exact jx_ends rfl trivial (by rw [h.atReach hp, an_peg, if_pos e])
    · refine jx_auto rfl trivial ?_
      refine jx_callE 1 rfl (by decide) (jr_at (q := 10) (by omega) rfl rfl) ?_
      refine jx_auto rfl trivial ?_
      exact jx_ends rfl trivial (by rw [h.atBag hp, an_peg, if_neg e1, if_pos e])
    · refine jx_auto rfl trivial ?_
      exact jx_ends rfl trivial (by rw [an_peg, if_neg e1, if_neg e2])
  · rw [if_pos (Decidable.not_not.mp c1)]
    refine jx_auto rfl trivial ?_
    exact jx_ends rfl trivial
theorem jl_covert (h : jLG v a G) {x k : Int32} : jx_W 4 jk_X6_covert 0 [some (.ref 0), some (.int x), some (.int k)] [] (jL v a w) (jx_is (some (.int (if sp_has (gcv G) x = 0 then -101 else an_cov G x.toNatClampNeg k))) (jL v a w)) := by
  have ho := h.ok
  have hn := h.lens
  refine jx_auto rfl trivial ?_
  refine jx_callE 1 rfl (by decide) (jl_hasCovert h) ?_
  refine jx_if rfl (fun c1 => ?_) (fun c1 => ?_)
  · rw [if_neg c1]
    obtain ⟨p, hp, rfl⟩ := sp_has_ex c1
    rw [nI_clamp (by omega)]
    refine jx_auto rfl trivial ?_
    refine jx_switch rfl ⟨fun e => ?_, fun e1 => ⟨fun e => ?_, fun e2 => ?_⟩⟩
    · refine jx_auto rfl trivial ?_
      refine jx_callE 1 rfl (by decide) (jr_at (q := 12) (by omega) rfl rfl) ?_
      refine jx_auto rfl trivial ?_
      exact jx_ends rfl trivial (by rw [h.atFeed hp, an_cov, if_pos e])
    · refine jx_auto rfl trivial ?_
      refine jx_callE 2 rfl (by decide) (jl_laughsIn h h.places) ?_
      refine jx_auto rfl trivial ?_
      exact jx_ends rfl trivial (by rw [an_cov, if_neg e1, if_pos e])
    · refine jx_auto rfl trivial ?_
      exact jx_ends rfl trivial (by rw [an_cov, if_neg e1, if_neg e2])
  · rw [if_pos (Decidable.not_not.mp c1)]
    refine jx_auto rfl trivial ?_
    exact jx_ends rfl trivial
theorem jl_laugh (h : jLG v a G) {x k : Int32} : jx_W 8 jk_X6_laugh 0 [some (.ref 0), some (.int x), some (.int k)] [] (jL v a w) (jx_is (some (.int (if sp_has (glg G) x = 0 then -101 else an_laugh G x.toNatClampNeg k))) (jL v a w)) := by
  have ho := h.ok
  have hn := h.lens
  refine jx_auto rfl trivial ?_
  refine jx_callE 1 rfl (by decide) (jl_hasLaugh h) ?_
  refine jx_if rfl (fun c1 => ?_) (fun c1 => ?_)
  · rw [if_neg c1]
    obtain ⟨p, hp, rfl⟩ := sp_has_ex c1
    rw [nI_clamp (by omega)]
    refine jx_auto rfl trivial ?_
    refine jx_switch rfl ⟨fun e => ?_, fun e0 => ⟨fun e => ?_, fun e1 => ⟨fun e => ?_, fun e2 => ⟨fun e => ?_, fun e3 => ⟨fun e => ?_, fun e4 => ⟨fun e => ?_, fun e5 => ⟨fun e => ?_, fun e6 => ?_⟩⟩⟩⟩⟩⟩⟩
    · refine jx_auto rfl trivial ?_
      refine jx_callE 1 rfl (by decide) (jr_at (q := 14) (by omega) rfl rfl) ?_
      refine jx_auto rfl trivial ?_
      exact jx_ends rfl trivial (by rw [h.atKind hp, an_laugh, if_pos e])
    · refine jx_auto rfl trivial ?_
      refine jx_callE 2 rfl (by decide) (jl_placeOf h hp) ?_
      refine jx_auto rfl trivial ?_
      exact jx_ends rfl trivial (by rw [an_laugh, if_neg e0, if_pos e])
    · refine jx_auto rfl trivial ?_
      refine jx_callE 1 rfl (by decide) (jr_at (q := 16) (by omega) rfl rfl) ?_
      refine jx_auto rfl trivial ?_
      exact jx_ends rfl trivial (by rw [h.atHigh hp, an_laugh, if_neg e0, if_neg e1, if_pos e])
    · refine jx_auto rfl trivial ?_
      refine jx_callE 2 rfl (by decide) (jl_placeOf h hp) ?_
      refine jx_auto rfl trivial ?_
      refine jx_callE 2 rfl (by decide) (jl_heightFrom h hp) ?_
      refine jx_auto rfl trivial ?_
      exact jx_ends rfl trivial (by rw [an_laugh, if_neg e0, if_neg e1, if_neg e2, if_pos e]; rfl)
    · refine jx_auto rfl trivial ?_
      refine jx_callE 5 rfl (by decide) (jl_likely h hp) ?_
      refine jx_auto rfl trivial ?_
      exact jx_ends rfl trivial (by rw [an_laugh, if_neg e0, if_neg e1, if_neg e2, if_neg e3, if_pos e])
    · refine jx_auto rfl trivial ?_
      refine jx_callE 5 rfl (by decide) (jl_covertsPossible h hp) ?_
      refine jx_auto rfl trivial ?_
      exact jx_ends rfl trivial (by rw [an_laugh, if_neg e0, if_neg e1, if_neg e2, if_neg e3, if_neg e4, if_pos e])
    · refine jx_auto rfl trivial ?_
      refine jx_callE 6 rfl (by decide) (jl_hear h hp) ?_
      refine jx_auto rfl trivial ?_
      exact jx_ends rfl trivial (by rw [an_laugh, if_neg e0, if_neg e1, if_neg e2, if_neg e3, if_neg e4, if_neg e5, if_pos e])
    · refine jx_auto rfl trivial ?_
      exact jx_ends rfl trivial (by rw [an_laugh, if_neg e0, if_neg e1, if_neg e2, if_neg e3, if_neg e4, if_neg e5, if_neg e6])
  · rw [if_pos (Decidable.not_not.mp c1)]
    refine jx_auto rfl trivial ?_
    exact jx_ends rfl trivial
theorem jl_as (h : jLG v a G) {x k : Int32} : jx_W 4 jk_X6_as 0 [some (.ref 0), some (.int x), some (.int k)] [] (jL v a w) (jx_is (some (.int (if sp_has (glg G) x = 0 then -101 else an_as G x.toNatClampNeg k))) (jL v a w)) := by
  have ho := h.ok
  have hn := h.lens
  refine jx_auto rfl trivial ?_
  refine jx_callE 1 rfl (by decide) (jl_hasLaugh h) ?_
  refine jx_if rfl (fun c1 => ?_) (fun c1 => ?_)
  · rw [if_neg c1]
    obtain ⟨p, hp, rfl⟩ := sp_has_ex c1
    rw [nI_clamp (by omega)]
    refine jx_auto rfl trivial ?_
    refine jx_if rfl (fun c2 => ?_) (fun c2 => ?_)
    · refine jx_auto rfl trivial ?_
      exact jx_ends rfl trivial (by rw [an_as, if_neg (fun z => absurd c2 (Int32.not_lt.mpr z.1))])
    · refine jx_auto rfl trivial ?_
      refine jx_if rfl (fun c3 => ?_) (fun c3 => ?_)
      · refine jx_auto rfl trivial ?_
        refine jx_callE 1 rfl (by decide) (jr_at (q := 14) (by omega) rfl rfl) ?_
        refine jx_auto rfl trivial ?_
        rw [h.atKind hp]
        refine jx_callE 1 rfl (by decide) jl_isSuch ?_
        refine jx_if rfl (fun c4 => ?_) (fun c4 => ?_)
        · refine jx_auto rfl trivial ?_
          exact jx_ends rfl trivial (by rw [an_as, if_pos ⟨Int32.not_lt.mp c2, c3⟩, if_pos c4])
        · refine jx_auto rfl trivial ?_
          exact jx_ends rfl trivial (by rw [an_as, if_pos ⟨Int32.not_lt.mp c2, c3⟩, if_neg c4])
      · refine jx_auto rfl trivial ?_
        exact jx_ends rfl trivial (by rw [an_as, if_neg (fun z => c3 z.2)])
  · rw [if_pos (Decidable.not_not.mp c1)]
    refine jx_auto rfl trivial ?_
    exact jx_ends rfl trivial
theorem jl_over (h : jLG v a G) {x k : Int32} : jx_W 5 jk_X6_over 0 [some (.ref 0), some (.int x), some (.int k)] [] (jL v a w) (jx_is (some (.int (if sp_has (glg G) x = 0 then -101 else an_over G x.toNatClampNeg k))) (jL v a w)) := by
  have ho := h.ok
  have hn := h.lens
  refine jx_auto rfl trivial ?_
  refine jx_callE 1 rfl (by decide) (jl_hasLaugh h) ?_
  refine jx_if rfl (fun c1 => ?_) (fun c1 => ?_)
  · rw [if_neg c1]
    obtain ⟨p, hp, rfl⟩ := sp_has_ex c1
    rw [nI_clamp (by omega)]
    refine jx_auto rfl trivial ?_
    refine jx_callE 1 rfl (by decide) jl_isWind ?_
    refine jx_if rfl (fun c2 => ?_) (fun c2 => ?_)
    · refine jx_auto rfl trivial ?_
      refine jx_ends rfl trivial ?_
      rw [an_over, if_neg (fun z => by rw [if_pos z] at c2; cases c2)]
    · have hw : -1 ≤ k ∧ k ≤ 1 := by
        by_cases z : -1 ≤ k ∧ k ≤ 1
        · exact z
        · exact absurd (if_neg z) c2
      refine jx_auto rfl trivial ?_
      refine jx_callE 2 rfl (by decide) (jl_placeOf h hp) ?_
      refine jx_auto rfl trivial ?_
      refine jx_callE 3 rfl (by decide) (jl_pegFrom h hp) ?_
      refine jx_auto rfl trivial ?_
      exact jx_ends rfl trivial (by rw [an_over, if_pos hw])
  · rw [if_pos (Decidable.not_not.mp c1)]
    refine jx_auto rfl trivial ?_
    exact jx_ends rfl trivial
end
