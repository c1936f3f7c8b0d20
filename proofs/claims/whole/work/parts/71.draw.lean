/-! a draw by the seed, both sides -/
def sd (s : Int64) : Int64 := (1103515245 * s + 12345) &&& 2147483647
def sp_dr (s : Int64) (n : Int32) : Int32 := if 0 < n then (sd s / 65536 - sd s / 65536 / n.toInt64 * n.toInt64).toInt32 else 0
theorem sp_n64 {n : Int32} (h : 0 < n) : ¬ n.toInt64 = 0 := fun e => by
  have e1 : n.toInt64.toInt = n.toInt := Int32.toInt_toInt64 n
  rw [e] at e1
  rw [Int32.lt_iff_toInt_lt] at h
  have e2 : (0 : Int64).toInt = 0 := by decide
  have e3 : (0 : Int32).toInt = 0 := by decide
  omega
section
variable {v : Nat → Int32} {a : Nat → List Int32} {w u : Int64}
theorem jl_draw {n : Int32} : jx_W 1 jk_X2_draw 0 [some (.ref 5), some (.int n)] [] (jL v a w) (jx_is (some (.int (sp_dr w n))) (jL v a (sd w))) := by
  unfold sp_dr
  refine jx_auto rfl trivial ?_
  refine jx_if rfl (fun c1 => ?_) (fun c1 => ?_)
  · have hn : ¬ 0 < n := Int32.not_lt.mpr c1
    rw [if_neg hn]
    refine jx_auto rfl trivial ?_
    exact jx_ends rfl trivial
  · have hn : 0 < n := Int32.not_le.mp c1
    rw [if_pos hn]
    refine jx_auto rfl ⟨sp_n64 hn, by decide, trivial⟩ ?_
    exact jx_ends rfl trivial
theorem jm_draw {n : Int32} (hn : 0 < n) : jx_W 1 jk_X7_draw 0 [some (.ref 0), some (.int n)] [] (jM v a w u) (jx_is (some (.int (sp_dr w n))) (jM v a (sd w) u)) := by
  unfold sp_dr
  rw [if_pos hn]
  refine jx_auto rfl ⟨sp_n64 hn, by decide, trivial⟩ ?_
  exact jx_ends rfl trivial
end
theorem sd_nat (s : Int64) : ∃ m : Nat, m < 2 ^ 31 ∧ sd s = lN m := by
  refine ⟨(sd s).toBitVec.toNat, ?_, ?_⟩
  · unfold sd
    rw [Int64.toBitVec_and, BitVec.toNat_and, show (2147483647 : Int64).toBitVec.toNat = 2 ^ 31 - 1 from rfl, Nat.and_two_pow_sub_one_eq_mod]
    exact Nat.mod_lt _ (by decide)
  · apply Int64.toBitVec_inj.mp
    show (sd s).toBitVec = BitVec.ofNat 64 (sd s).toBitVec.toNat
    rw [BitVec.ofNat_toNat, BitVec.setWidth_eq]
theorem sp_dr_in (s : Int64) {k : Nat} (h0 : 0 < k) (h : k ≤ 4) : ∃ j, j < k ∧ sp_dr s (nI k) = nI j := by
  obtain ⟨m, hm, e⟩ := sd_nat s
  unfold sp_dr
  rw [if_pos (show (0 : Int32) < nI k from nI_lt (a := 0) h0 (by omega)), e, nI_l (by omega), show (65536 : Int64) = lN 65536 from rfl, pk_lDiv (by omega) (by decide) (by decide), pk_lRem (by omega) h0 (by omega), lN_i]
  exact ⟨_, Nat.mod_lt _ h0, rfl⟩
