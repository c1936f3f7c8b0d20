/-! the rows: a list of numbers, looked at and set in range alone -/
def jp_at (l : List Int32) (j : Int32) : Int32 := if 0 ≤ j ∧ j < Int32.ofNat l.length then l.getD j.toNatClampNeg 0 else 0
theorem jp_vin {l : List Int32} {j : Int32} (hl : l.length < 2 ^ 31) (h0 : 0 ≤ j) (h1 : j < Int32.ofNat l.length) : vp_in j l.length := by
  rw [vp_in_iff]
  have e : (Int32.ofNat l.length).toInt = l.length := nI_toInt hl
  rw [Int32.le_iff_toInt_le] at h0
  rw [Int32.lt_iff_toInt_lt, e] at h1
  exact ⟨h0, h1⟩
theorem jr_at {h : jx_H} {p q : Nat} {l : List Int32} {j : Int32} (hl : l.length < 2 ^ 31) (hp : jx_get h p = some (.inr (4, [.ref q]))) (hq : jx_get h q = some (.inl (0, l))) : jx_W 1 jk_X4_at 0 [some (.ref p), some (.int j)] [] h (jx_is (some (.int (jp_at l j))) h) := by
  refine jx_auto rfl trivial ?_
  refine jx_if rfl (fun c1 => ?_) (fun c1 => ?_)
  · refine jx_auto rfl trivial ?_
    refine jx_ends rfl trivial ?_
    rw [jp_at, if_neg (fun z => absurd c1 (Int32.not_lt.mpr z.1))]
  · refine jx_steps 2 rfl trivial ?_
    refine jx_getf rfl hp rfl ?_
    refine jx_alen rfl hq ?_
    refine jx_if rfl (fun c2 => ?_) (fun c2 => ?_)
    · refine jx_auto rfl trivial ?_
      refine jx_ends rfl trivial ?_
      rw [jp_at, if_neg (fun z => absurd z.2 (Int32.not_lt.mpr c2))]
    · have h0 := Int32.not_lt.mp c1
      have h1 := Int32.not_le.mp c2
      refine jx_steps 1 rfl trivial ?_
      refine jx_getf rfl hp rfl ?_
      refine jx_steps 1 rfl trivial ?_
      refine jx_aget rfl hq (jp_vin hl h0 h1) ?_
      refine jx_auto rfl trivial ?_
      refine jx_ends rfl trivial ?_
      rw [jp_at, if_pos ⟨h0, h1⟩]
theorem jp_at_in {l : List Int32} {k : Nat} (hk : k < l.length) (hl : l.length < 2 ^ 31) : jp_at l (nI k) = l.getD k 0 := by
  rw [jp_at, if_pos ⟨nI_pos' (by omega), nI_lt hk hl⟩, nI_clamp (by omega)]
theorem jr_set {h : jx_H} {p q : Nat} {l : List Int32} {j x : Int32} (hl : l.length < 2 ^ 31) (hp : jx_get h p = some (.inr (4, [.ref q]))) (hq : jx_get h q = some (.inl (0, l))) : jx_W 1 jk_X4_set 0 [some (.ref p), some (.int j), some (.int x)] [] h (jx_is none (if 0 ≤ j ∧ j < Int32.ofNat l.length then h.set q (.inl (0, l.set j.toNatClampNeg x)) else h)) := by
  refine jx_auto rfl trivial ?_
  refine jx_if rfl (fun c1 => ?_) (fun c1 => ?_)
  · refine jx_ends rfl trivial rfl ?_
    rw [if_neg (fun z => absurd c1 (Int32.not_lt.mpr z.1))]
  · refine jx_steps 2 rfl trivial ?_
    refine jx_getf rfl hp rfl ?_
    refine jx_alen rfl hq ?_
    refine jx_if rfl (fun c2 => ?_) (fun c2 => ?_)
    · refine jx_ends rfl trivial rfl ?_
      rw [if_neg (fun z => absurd z.2 (Int32.not_lt.mpr c2))]
    · have h0 := Int32.not_lt.mp c1
      have h1 := Int32.not_le.mp c2
      refine jx_steps 1 rfl trivial ?_
      refine jx_getf rfl hp rfl ?_
      refine jx_steps 2 rfl trivial ?_
      refine jx_aset rfl hq (jp_vin hl h0 h1) ?_
      refine jx_ends rfl trivial rfl ?_
      rw [if_pos ⟨h0, h1⟩]
theorem jr_set_in {h : jx_H} {p q : Nat} {l : List Int32} {k : Nat} {x : Int32} (hk : k < l.length) (hl : l.length < 2 ^ 31) (hp : jx_get h p = some (.inr (4, [.ref q]))) (hq : jx_get h q = some (.inl (0, l))) : jx_W 1 jk_X4_set 0 [some (.ref p), some (.int (nI k)), some (.int x)] [] h (jx_is none (h.set q (.inl (0, l.set k x)))) := by
  have z := jr_set (j := nI k) (x := x) hl hp hq
  rwa [if_pos ⟨nI_pos' (by omega), nI_lt hk hl⟩, nI_clamp (by omega)] at z
def jp_sum (l : List Int32) : Nat → Int32
  | 0 => 0
  | n + 1 => jp_sum l n + l.getD n 0
theorem jr_sum {h : jx_H} {p q : Nat} {l : List Int32} {n : Nat} (hn : n ≤ l.length) (hl : l.length < 2 ^ 31) (hp : jx_get h p = some (.inr (4, [.ref q]))) (hq : jx_get h q = some (.inl (0, l))) : jx_W 1 jk_X4_sum 0 [some (.ref p), some (.int (nI n)), none, none] [] h (jx_is (some (.int (jp_sum l n))) h) := by
  refine jx_steps 4 rfl trivial ?_
  have loop : ∀ k i, i + k = n → jx_W 1 jk_X4_sum 4 [some (.ref p), some (.int (nI n)), some (.int (jp_sum l i)), some (.int (nI i))] [] h (jx_is (some (.int (jp_sum l n))) h) := by
    intro k
    induction k with
    | zero =>
      intro i hi
      have e : i = n := by omega
      subst e
      refine jx_auto rfl trivial ?_
      refine jx_if rfl (fun _ => ?_) (fun c1 => absurd (nI_le (Nat.le_refl i) (by omega)) c1)
      refine jx_auto rfl trivial ?_
      exact jx_ends rfl trivial
    | succ k ih =>
      intro i hi
      refine jx_auto rfl trivial ?_
      refine jx_if rfl (fun c1 => absurd c1 (nI_ge (by omega) (by omega))) (fun _ => ?_)
      refine jx_steps 2 rfl trivial ?_
      refine jx_getf rfl hp rfl ?_
      refine jx_alen rfl hq ?_
      refine jx_if rfl (fun c1 => absurd c1 (nI_ge (by omega) (by omega))) (fun _ => ?_)
      refine jx_steps 2 rfl trivial ?_
      refine jx_getf rfl hp rfl ?_
      refine jx_steps 1 rfl trivial ?_
      refine jx_aget rfl hq (vp_in_nI (by omega) (by omega)) ?_
      rw [nI_clamp (by omega)]
      refine jx_steps 4 rfl trivial ?_
      rw [nI_1]
      exact ih (i + 1) (by omega)
  exact loop n 0 (by omega)
