/-! image and restore: what they leave -/
def jkV (v : Nat → Int32) : Nat → Int32 := jup (jup (jup (jup v 21 (v 14)) 18 (v 11)) 19 (v 12)) 20 (v 13)
def jkA (a : Nat → List Int32) : Nat → List Int32 := jup (jup (jup (jup (jup (jup (jup a 9 (a 1)) 10 (a 2)) 11 (a 3)) 13 (a 5)) 14 (a 6)) 15 (a 7)) 16 (a 8)
def jnV (v : Nat → Int32) : Nat → Int32 := jup (jup (jup (jup v 14 (v 21)) 11 (v 18)) 12 (v 19)) 13 (v 20)
def jnA (a : Nat → List Int32) : Nat → List Int32 := jup (jup (jup (jup (jup (jup (jup a 1 (a 9)) 2 (a 10)) 3 (a 11)) 5 (a 13)) 6 (a 14)) 7 (a 15)) 8 (a 16)
/-- the kept rows' sizes -/
def jkL (a : Nat → List Int32) : Prop := (a 9).length = 6 ∧ (a 10).length = 6 ∧ (a 11).length = 4 ∧ (a 13).length = 6 ∧ (a 14).length = 6 ∧ (a 15).length = 6 ∧ (a 16).length = 6
section
variable {v : Nat → Int32} {a : Nat → List Int32} {w u : Int64} {G : jG}
theorem jl_image (h : jLG v a G) (hk : jkL a) : jx_W 5 jk_X6_image 0 [some (.ref 0)] [] (jL v a w) (jx_is (some (.int (if 0 < glg G then gno G 1 else -103))) (if 0 < glg G then jL (jup (jkV v) 0 1) (jkA a) w else jL v a w)) := by
  have hn := h.lens
  unfold jkL at hk
  refine jx_auto rfl trivial ?_
  refine jx_callE 1 rfl (by decide) (jl_isThere h) ?_
  by_cases h0 : 0 < glg G
  · rw [if_pos h0, if_pos h0, if_pos h0]
    refine jx_if rfl (fun _ => ?_) (fun c6 => absurd (show ¬ (1 : Int32) = 0 by decide) c6)
    refine jx_auto rfl trivial ?_
    refine jx_callE 4 rfl (by decide) (jl_takeK (by omega) (by omega) (by omega) (by omega) (by omega) (by omega) (by omega) (by omega) (by omega) (by omega) (by omega) (by omega) (by omega) (by omega)) ?_
    refine jx_auto rfl ⟨Or.inr rfl, trivial⟩ ?_
    refine jx_ends rfl trivial ?_ rfl
    rw [← h.drives]; rfl
  · rw [if_neg h0, if_neg h0, if_neg h0]
    refine jx_if rfl (fun c6 => absurd rfl c6) (fun _ => ?_)
    refine jx_auto rfl trivial ?_
    exact jx_ends rfl trivial
theorem jl_restore (h : jLG v a G) (hk : jkL a) : jx_W 5 jk_X6_restore 0 [some (.ref 0)] [] (jL v a w) (jx_is (some (.int (if v 0 = 0 then -103 else v 20))) (if v 0 = 0 then jL v a w else jL (jnV v) (jnA a) w)) := by
  have hn := h.lens
  unfold jkL at hk
  refine jx_auto rfl trivial ?_
  refine jx_if rfl (fun c1 => ?_) (fun c1 => ?_)
  · rw [if_neg c1, if_neg c1]
    refine jx_auto rfl trivial ?_
    refine jx_callE 4 rfl (by decide) (jl_takeN (by omega) (by omega) (by omega) (by omega) (by omega) (by omega) (by omega) (by omega) (by omega) (by omega) (by omega) (by omega) (by omega) (by omega)) ?_
    refine jx_auto rfl trivial ?_
    exact jx_ends rfl trivial
  · have c1 := Decidable.not_not.mp c1
    rw [if_pos c1, if_pos c1]
    refine jx_auto rfl trivial ?_
    exact jx_ends rfl trivial
end
