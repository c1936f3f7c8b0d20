/-! kindOf: the text's indexOf of a letter -/
theorem jq_small : ∀ n : Nat, n < 256 → ((nI n).toInt8.toInt32 = 108 → n = 108) ∧ ((nI n).toInt8.toInt32 = 116 → n = 116) ∧ ((nI n).toInt8.toInt32 = 103 → n = 103) ∧ ((nI n).toInt8.toInt32 = 99 → n = 99) ∧ ((nI n).toInt8.toInt32 = 107 → n = 107) := by decide +kernel
/-- a run of indexOf comes to that answer -/
def jq_to (y r : Int32) : Prop := ∃ (ds : List Bool) (o : List Prop) (ds2 : List Bool), jq_run 60 7 0 0 [some (.ref 0), some (.int y)] [] ds = some (.int r, o, ds2) ∧ jx_all o
theorem jq_far {y : Int32} (h0 : ¬ y < 0) (h1 : 255 < y) : jq_to y (-1) := by
  refine ⟨[false, false, false, false, false, true, false], _, _, rfl, ?_⟩
  (repeat' apply And.intro) <;> first | trivial | decide | assumption | (unfold vp_in; decide)
theorem jq_at0 {y : Int32} (h0 : ¬ y < 0) (h1 : ¬ 255 < y) (hz : y.toInt8.toInt32 = 108) : jq_to y 0 := by
  refine ⟨[false, false, false, false, false, false, true, true, false, false], _, _, rfl, ?_⟩
  rw [hz]
  (repeat' apply And.intro) <;> first | trivial | decide | assumption | (unfold vp_in; decide)
