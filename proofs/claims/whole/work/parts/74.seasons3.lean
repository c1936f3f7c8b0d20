/-! seasons, both sides -/
def an_seasons (G : jG) (x y z : Int32) : Int32 := if (1 ≤ x ∧ x ≤ 60) ∧ 0 ≤ y ∧ (0 ≤ z ∧ z ≤ 2) then (if 0 < glg G then ss_ans G (ss_n G (gco G, 0, y.toInt64) x.toNatClampNeg) z else -103) else -102
section
variable {v : Nat → Int32} {a : Nat → List Int32} {w u : Int64} {G : jG}
theorem x60 {x : Int32} (h : 1 ≤ x ∧ x ≤ 60) : ∃ n, n < 2 ^ 31 ∧ x = nI n := nI_of (fun z => by
  have h1 := h.1
  rw [Int32.lt_iff_toInt_lt] at z
  rw [Int32.le_iff_toInt_le] at h1
  have e1 : (1 : Int32).toInt = 1 := by decide
  have e2 : (0 : Int32).toInt = 0 := by decide
  omega)
theorem jl_seasons (h : jLG v a G) (hg : 0 < glg G → 0 < gcv G) {x y z : Int32} : jx_W 8 jk_X6_seasons 0 [some (.ref 0), some (.int x), some (.int y), some (.int z)] [] (jL v a w) (fun r h' => ∃ v' w', r = some (.int (an_seasons G x y z)) ∧ h' = jL v' a w' ∧ ∀ j, j < 25 → v' j = v j) := by
  have ho := h.ok
  have bad : ¬ ((1 ≤ x ∧ x ≤ 60) ∧ 0 ≤ y ∧ (0 ≤ z ∧ z ≤ 2)) → jx_W 8 jk_X6_seasons 24 [some (.ref 0), some (.int x), some (.int y), some (.int z)] [] (jL v a w) (fun r h' => ∃ v' w', r = some (.int (an_seasons G x y z)) ∧ h' = jL v' a w' ∧ ∀ j, j < 25 → v' j = v j) := by
    intro hn
    refine jx_auto rfl trivial ?_
    exact jx_done rfl trivial ⟨v, w, by rw [an_seasons, if_neg hn], rfl, fun _ _ => rfl⟩
  refine jx_auto rfl trivial ?_
  refine jx_if rfl (fun c1 => bad (fun q => absurd c1 (Int32.not_lt.mpr q.1.1))) (fun c1 => ?_)
  refine jx_auto rfl trivial ?_
  refine jx_if rfl (fun c2 => bad (fun q => absurd c2 (Int32.not_lt.mpr q.1.2))) (fun c2 => ?_)
  refine jx_auto rfl trivial ?_
  refine jx_if rfl (fun c3 => bad (fun q => absurd c3 (Int32.not_lt.mpr q.2.1))) (fun c3 => ?_)
  refine jx_auto rfl trivial ?_
  refine jx_if rfl (fun c4 => bad (fun q => absurd c4 (Int32.not_lt.mpr q.2.2.1))) (fun c4 => ?_)
  refine jx_auto rfl trivial ?_
  refine jx_if rfl (fun c5 => ?_) (fun c5 => ?_)
  · have hy : (1 ≤ x ∧ x ≤ 60) ∧ 0 ≤ y ∧ (0 ≤ z ∧ z ≤ 2) := ⟨⟨Int32.not_lt.mp c1, Int32.not_lt.mp c2⟩, Int32.not_lt.mp c3, Int32.not_lt.mp c4, c5⟩
    unfold an_seasons
    rw [if_pos hy]
    refine jx_auto rfl trivial ?_
    refine jx_callE 1 rfl (by decide) (jl_isThere h) ?_
    by_cases h0 : 0 < glg G
    · rw [if_pos h0, if_pos h0]
      refine jx_if rfl (fun _ => ?_) (fun c6 => absurd (show ¬ (1 : Int32) = 0 by decide) c6)
      obtain ⟨n, hn, rfl⟩ := x60 hy.1
      rw [nI_clamp hn]
      refine jx_auto rfl trivial ?_
      refine jx_call 7 rfl (by decide) (jl_pass h (hg h0) hn) (fun r h' hq => ?_)
      obtain ⟨rfl, P, rfl, hP⟩ := hq
      refine jx_auto rfl trivial ?_
      refine jx_switch rfl ⟨fun e => ?_, fun e1 => ⟨fun e => ?_, fun e2 => ?_⟩⟩
      · refine jx_auto rfl trivial ?_
        exact jx_done rfl trivial ⟨_, _, by rw [ss_ans, if_pos e]; rfl, rfl, fun j hj => by rw [jup_n _ _ (by omega), jup_n _ _ (by omega)]⟩
      · refine jx_auto rfl trivial ?_
        refine jx_callE 2 rfl (by decide) (jl_inCoverts (jLG_tmp h) hP) ?_
        refine jx_auto rfl trivial ?_
        exact jx_done rfl trivial ⟨_, _, by rw [ss_ans, if_neg e1, if_pos e], rfl, fun j hj => by rw [jup_n _ _ (by omega), jup_n _ _ (by omega)]⟩
      · refine jx_auto rfl trivial ?_
        exact jx_done rfl trivial ⟨_, _, by rw [ss_ans, if_neg e1, if_neg e2], rfl, fun j hj => by rw [jup_n _ _ (by omega), jup_n _ _ (by omega)]⟩
    · rw [if_neg h0, if_neg h0]
      refine jx_if rfl (fun c6 => absurd rfl c6) (fun _ => ?_)
      refine jx_auto rfl trivial ?_
      exact jx_done rfl trivial ⟨v, w, rfl, rfl, fun _ _ => rfl⟩
  · exact bad (fun q => c5 q.2.2.2)
theorem jm_seasons (h : jMG v a G) (hs : jMl a) (hg : 0 < glg G → 0 < gcv G) {x y z : Int32} : jx_W 8 jk_X7_seasons 0 [some (.ref 0), some (.int x), some (.int y), some (.int z)] [] (jM v a w u) (fun r h' => ∃ v' a' w', r = some (.int (an_seasons G x y z)) ∧ h' = jM v' a' w' u ∧ jMs v a v' a') := by
  have ho := h.ok
  have bad : ¬ ((1 ≤ x ∧ x ≤ 60) ∧ 0 ≤ y ∧ (0 ≤ z ∧ z ≤ 2)) → jx_W 8 jk_X7_seasons 23 [some (.ref 0), some (.int x), some (.int y), some (.int z)] [] (jM v a w u) (fun r h' => ∃ v' a' w', r = some (.int (an_seasons G x y z)) ∧ h' = jM v' a' w' u ∧ jMs v a v' a') := by
    intro hn
    refine jx_auto rfl trivial ?_
    exact jx_done rfl trivial ⟨v, a, w, by rw [an_seasons, if_neg hn], rfl, .rf hs⟩
  refine jx_auto rfl trivial ?_
  refine jx_callE 1 rfl (by decide) jm_within ?_
  refine jx_if rfl (fun c1 => bad (fun q => by rw [if_pos q.1] at c1; cases c1)) (fun c1 => ?_)
  refine jx_auto rfl trivial ?_
  refine jx_if rfl (fun c3 => bad (fun q => absurd c3 (Int32.not_lt.mpr q.2.1))) (fun c3 => ?_)
  refine jx_auto rfl trivial ?_
  refine jx_callE 1 rfl (by decide) jm_within ?_
  refine jx_if rfl (fun c4 => ?_) (fun c4 => bad (fun q => c4 (by rw [if_pos q.2.2]; decide)))
  have hx : 1 ≤ x ∧ x ≤ 60 := by
    by_cases q : 1 ≤ x ∧ x ≤ 60
    · exact q
    · exact absurd (if_neg q) c1
  have hz : 0 ≤ z ∧ z ≤ 2 := by
    by_cases q : 0 ≤ z ∧ z ≤ 2
    · exact q
    · exact absurd (if_neg q) c4
  have hy : (1 ≤ x ∧ x ≤ 60) ∧ 0 ≤ y ∧ (0 ≤ z ∧ z ≤ 2) := ⟨hx, Int32.not_lt.mp c3, hz⟩
  unfold an_seasons
  rw [if_pos hy]
  refine jx_auto rfl trivial ?_
  rw [h.laughs]
  refine jx_if rfl (fun c5 => ?_) (fun c5 => ?_)
  · have h0 : 0 < glg G := Nat.pos_of_ne_zero (fun e => c5 (by rw [e]; rfl))
    rw [if_pos h0]
    obtain ⟨n, hn, rfl⟩ := x60 hx
    rw [nI_clamp hn]
    refine jx_auto rfl trivial ?_
    refine jx_call 7 rfl (by decide) (jm_seasonsNow h hs (hg h0) hn) (fun r h' hq => ?_)
    obtain ⟨v', a', w', rfl, rfl, hms⟩ := hq
    refine jx_auto rfl trivial ?_
    exact jx_done rfl trivial ⟨v', a', w', rfl, rfl, hms⟩
  · have h0 : ¬ 0 < glg G := fun q => nI_ne0 q (by omega) (Decidable.not_not.mp c5)
    rw [if_neg h0]
    refine jx_auto rfl trivial ?_
    exact jx_done rfl trivial ⟨v, a, w, rfl, rfl, .rf hs⟩
end
