/-! kindOf: the text's indexOf of a letter -/
theorem jq_small : ∀ n : Nat, n < 256 → ((nI n).toInt8.toInt32 = 108 → n = 108) ∧ ((nI n).toInt8.toInt32 = 116 → n = 116) ∧ ((nI n).toInt8.toInt32 = 103 → n = 103) ∧ ((nI n).toInt8.toInt32 = 99 → n = 99) ∧ ((nI n).toInt8.toInt32 = 107 → n = 107) := by decide +kernel
/-- a run of indexOf comes to that answer -/
def jq_to (y r : Int32) : Prop := ∃ (ds : List Bool) (o : List Prop) (ds2 : List Bool), jq_run 140 7 0 0 [some (.ref 0), some (.int y)] [] ds = some (.int r, o, ds2) ∧ jx_all o
theorem jq_far {y : Int32} (h0 : ¬ y < 0) (h1 : 255 < y) : jq_to y (-1) := by
  refine ⟨[false, false, false, false, false, true, false], _, _, rfl, ?_⟩
  (repeat' apply And.intro) <;> first | trivial | decide | assumption | (unfold vp_in; decide)
theorem jq_at0 {y : Int32} (h0 : ¬ y < 0) (h1 : ¬ 255 < y) (hz : y.toInt8.toInt32 = 108) : jq_to y 0 := by
  refine ⟨[false, false, false, false, false, false, true, true, false, false], _, _, rfl, ?_⟩
  rw [hz]
  (repeat' apply And.intro) <;> first | trivial | decide | assumption | (unfold vp_in; decide)
theorem jq_at1 {y : Int32} (h0 : ¬ y < 0) (h1 : ¬ 255 < y) (hz : y.toInt8.toInt32 = 116) : jq_to y 1 := by
  refine ⟨[false, false, false, false, false, false, true, true, false, true, false, false], _, _, rfl, ?_⟩
  rw [hz]
  (repeat' apply And.intro) <;> first | trivial | decide | assumption | (unfold vp_in; decide)
theorem jq_at2 {y : Int32} (h0 : ¬ y < 0) (h1 : ¬ 255 < y) (hz : y.toInt8.toInt32 = 103) : jq_to y 2 := by
  refine ⟨[false, false, false, false, false, false, true, true, false, true, false, true, false, false], _, _, rfl, ?_⟩
  rw [hz]
  (repeat' apply And.intro) <;> first | trivial | decide | assumption | (unfold vp_in; decide)
theorem jq_at3 {y : Int32} (h0 : ¬ y < 0) (h1 : ¬ 255 < y) (hz : y.toInt8.toInt32 = 99) : jq_to y 3 := by
  refine ⟨[false, false, false, false, false, false, true, true, false, true, false, true, false, true, false, false], _, _, rfl, ?_⟩
  rw [hz]
  (repeat' apply And.intro) <;> first | trivial | decide | assumption | (unfold vp_in; decide)
theorem jq_at4 {y : Int32} (h0 : ¬ y < 0) (h1 : ¬ 255 < y) (hz : y.toInt8.toInt32 = 107) : jq_to y 4 := by
  refine ⟨[false, false, false, false, false, false, true, true, false, true, false, true, false, true, false, true, false, false], _, _, rfl, ?_⟩
  rw [hz]
  (repeat' apply And.intro) <;> first | trivial | decide | assumption | (unfold vp_in; decide)
theorem jq_none {y : Int32} (h0 : ¬ y < 0) (h1 : ¬ 255 < y) (a0 : ¬ y.toInt8.toInt32 = 108) (a1 : ¬ y.toInt8.toInt32 = 116) (a2 : ¬ y.toInt8.toInt32 = 103) (a3 : ¬ y.toInt8.toInt32 = 99) (a4 : ¬ y.toInt8.toInt32 = 107) : jq_to y (-1) := by
  refine ⟨[false, false, false, false, false, false, true, true, false, true, false, true, false, true, false, true, false, true, true], _, _, rfl, ?_⟩
  generalize y.toInt8.toInt32 = z at a0 a1 a2 a3 a4 ⊢
  (repeat' apply And.intro) <;> first | trivial | decide | assumption | (unfold vp_in; decide) | (exact fun e => a0 (e.symm.trans (by decide))) | (exact fun e => a1 (e.symm.trans (by decide))) | (exact fun e => a2 (e.symm.trans (by decide))) | (exact fun e => a3 (e.symm.trans (by decide))) | (exact fun e => a4 (e.symm.trans (by decide)))
theorem jq_all {y : Int32} (h0 : ¬ y < 0) : jq_to y (jx_kindC y) := by
  by_cases h1 : 255 < y
  · have hne : ∀ k : Int32, k ≤ 255 → ¬ y = k := fun k hk e => by
      rw [e, Int32.lt_iff_toInt_lt] at h1
      rw [Int32.le_iff_toInt_le] at hk
      omega
    unfold jx_kindC
    rw [if_neg (hne _ (by decide)), if_neg (hne _ (by decide)), if_neg (hne _ (by decide)), if_neg (hne _ (by decide)), if_neg (hne _ (by decide))]
    exact jq_far h0 h1
  · obtain ⟨n, hn, rfl⟩ := nI_of2 (M := 255) (n := 255) rfl h0 (by rw [Int32.le_iff_toInt_le]; rw [Int32.lt_iff_toInt_lt] at h1; omega)
    have hs := jq_small n (by omega)
    by_cases a0 : (nI n).toInt8.toInt32 = 108
    · have e := hs.1 a0; subst e; exact jq_at0 h0 h1 a0
    by_cases a1 : (nI n).toInt8.toInt32 = 116
    · have e := hs.2.1 a1; subst e; exact jq_at1 h0 h1 a1
    by_cases a2 : (nI n).toInt8.toInt32 = 103
    · have e := hs.2.2.1 a2; subst e; exact jq_at2 h0 h1 a2
    by_cases a3 : (nI n).toInt8.toInt32 = 99
    · have e := hs.2.2.2.1 a3; subst e; exact jq_at3 h0 h1 a3
    by_cases a4 : (nI n).toInt8.toInt32 = 107
    · have e := hs.2.2.2.2 a4; subst e; exact jq_at4 h0 h1 a4
    have z := jq_none h0 h1 a0 a1 a2 a3 a4
    unfold jx_kindC
    rw [if_neg (fun e => a0 (by rw [e]; decide)), if_neg (fun e => a1 (by rw [e]; decide)), if_neg (fun e => a2 (by rw [e]; decide)), if_neg (fun e => a3 (by rw [e]; decide)), if_neg (fun e => a4 (by rw [e]; decide))]
    exact z
