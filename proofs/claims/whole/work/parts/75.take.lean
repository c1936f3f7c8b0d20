/-! takeFrom: a moor out of another, both ways -/
section
variable {v : Nat → Int32} {a : Nat → List Int32} {w u : Int64}
theorem jl_seenTakeK (hsl : (a 14).length = 6) (ksl : (a 6).length = 6) (hsw : (a 15).length = 6) (ksw : (a 7).length = 6) (hsp : (a 16).length = 6) (ksp : (a 8).length = 6) : jx_W 3 jk_X5_takeFrom 0 [some (.ref 41), some (.ref 17)] [] (jL v a w) (jx_is none (jL (jup v 21 (v 14)) (jup (jup (jup a 14 (a 6)) 15 (a 7)) 16 (a 8)) w)) := by
  refine jx_auto rfl trivial ?_
  refine jx_callE 2 rfl (by decide) (jr_takeFrom (q := 43) (q2 := 19) (l := a 14) (l2 := a 6) (by omega) rfl rfl rfl rfl (by decide) (by omega)) ?_
  refine jx_auto rfl trivial ?_
  refine jx_callE 2 rfl (by decide) (jr_takeFrom (q := 45) (q2 := 21) (l := a 15) (l2 := a 7) (by omega) rfl rfl rfl rfl (by decide) (by omega)) ?_
  refine jx_auto rfl trivial ?_
  refine jx_callE 2 rfl (by decide) (jr_takeFrom (q := 47) (q2 := 23) (l := a 16) (l2 := a 8) (by omega) rfl rfl rfl rfl (by decide) (by omega)) ?_
  refine jx_auto rfl trivial ?_
  exact jx_ends rfl trivial
theorem jl_takeK (hreach : (a 9).length = 6) (kreach : (a 1).length = 6) (hbag : (a 10).length = 6) (kbag : (a 2).length = 6) (hfeed : (a 11).length = 4) (kfeed : (a 3).length = 4) (hhigh : (a 13).length = 6) (khigh : (a 5).length = 6) (hsl : (a 14).length = 6) (ksl : (a 6).length = 6) (hsw : (a 15).length = 6) (ksw : (a 7).length = 6) (hsp : (a 16).length = 6) (ksp : (a 8).length = 6) : jx_W 4 jk_X0_takeFrom 0 [some (.ref 30), some (.ref 6)] [] (jL v a w) (jx_is none (jL (jup (jup (jup (jup v 21 (v 14)) 18 (v 11)) 19 (v 12)) 20 (v 13)) (jup (jup (jup (jup (jup (jup (jup a 9 (a 1)) 10 (a 2)) 11 (a 3)) 13 (a 5)) 14 (a 6)) 15 (a 7)) 16 (a 8)) w)) := by
  refine jx_auto rfl trivial ?_
  refine jx_callE 2 rfl (by decide) (jr_takeFrom (q := 32) (q2 := 8) (l := a 9) (l2 := a 1) (by omega) rfl rfl rfl rfl (by decide) (by omega)) ?_
  refine jx_auto rfl trivial ?_
  refine jx_callE 2 rfl (by decide) (jr_takeFrom (q := 34) (q2 := 10) (l := a 10) (l2 := a 2) (by omega) rfl rfl rfl rfl (by decide) (by omega)) ?_
  refine jx_auto rfl trivial ?_
  refine jx_callE 2 rfl (by decide) (jr_takeFrom (q := 36) (q2 := 12) (l := a 11) (l2 := a 3) (by omega) rfl rfl rfl rfl (by decide) (by omega)) ?_
  refine jx_auto rfl trivial ?_
  refine jx_callE 2 rfl (by decide) (jr_takeFrom (q := 40) (q2 := 16) (l := a 13) (l2 := a 5) (by omega) rfl rfl rfl rfl (by decide) (by omega)) ?_
  refine jx_auto rfl trivial ?_
  refine jx_callE 3 rfl (by decide) (jl_seenTakeK (v := v) (a := jup (jup (jup (jup a 9 (a 1)) 10 (a 2)) 11 (a 3)) 13 (a 5)) hsl ksl hsw ksw hsp ksp) ?_
  refine jx_auto rfl trivial ?_
  exact jx_ends rfl trivial
theorem jl_seenTakeN (hsl : (a 6).length = 6) (ksl : (a 14).length = 6) (hsw : (a 7).length = 6) (ksw : (a 15).length = 6) (hsp : (a 8).length = 6) (ksp : (a 16).length = 6) : jx_W 3 jk_X5_takeFrom 0 [some (.ref 17), some (.ref 41)] [] (jL v a w) (jx_is none (jL (jup v 14 (v 21)) (jup (jup (jup a 6 (a 14)) 7 (a 15)) 8 (a 16)) w)) := by
  refine jx_auto rfl trivial ?_
  refine jx_callE 2 rfl (by decide) (jr_takeFrom (q := 19) (q2 := 43) (l := a 6) (l2 := a 14) (by omega) rfl rfl rfl rfl (by decide) (by omega)) ?_
  refine jx_auto rfl trivial ?_
  refine jx_callE 2 rfl (by decide) (jr_takeFrom (q := 21) (q2 := 45) (l := a 7) (l2 := a 15) (by omega) rfl rfl rfl rfl (by decide) (by omega)) ?_
  refine jx_auto rfl trivial ?_
  refine jx_callE 2 rfl (by decide) (jr_takeFrom (q := 23) (q2 := 47) (l := a 8) (l2 := a 16) (by omega) rfl rfl rfl rfl (by decide) (by omega)) ?_
  refine jx_auto rfl trivial ?_
  exact jx_ends rfl trivial
theorem jl_takeN (hreach : (a 1).length = 6) (kreach : (a 9).length = 6) (hbag : (a 2).length = 6) (kbag : (a 10).length = 6) (hfeed : (a 3).length = 4) (kfeed : (a 11).length = 4) (hhigh : (a 5).length = 6) (khigh : (a 13).length = 6) (hsl : (a 6).length = 6) (ksl : (a 14).length = 6) (hsw : (a 7).length = 6) (ksw : (a 15).length = 6) (hsp : (a 8).length = 6) (ksp : (a 16).length = 6) : jx_W 4 jk_X0_takeFrom 0 [some (.ref 6), some (.ref 30)] [] (jL v a w) (jx_is none (jL (jup (jup (jup (jup v 14 (v 21)) 11 (v 18)) 12 (v 19)) 13 (v 20)) (jup (jup (jup (jup (jup (jup (jup a 1 (a 9)) 2 (a 10)) 3 (a 11)) 5 (a 13)) 6 (a 14)) 7 (a 15)) 8 (a 16)) w)) := by
  refine jx_auto rfl trivial ?_
  refine jx_callE 2 rfl (by decide) (jr_takeFrom (q := 8) (q2 := 32) (l := a 1) (l2 := a 9) (by omega) rfl rfl rfl rfl (by decide) (by omega)) ?_
  refine jx_auto rfl trivial ?_
  refine jx_callE 2 rfl (by decide) (jr_takeFrom (q := 10) (q2 := 34) (l := a 2) (l2 := a 10) (by omega) rfl rfl rfl rfl (by decide) (by omega)) ?_
  refine jx_auto rfl trivial ?_
  refine jx_callE 2 rfl (by decide) (jr_takeFrom (q := 12) (q2 := 36) (l := a 3) (l2 := a 11) (by omega) rfl rfl rfl rfl (by decide) (by omega)) ?_
  refine jx_auto rfl trivial ?_
  refine jx_callE 2 rfl (by decide) (jr_takeFrom (q := 16) (q2 := 40) (l := a 5) (l2 := a 13) (by omega) rfl rfl rfl rfl (by decide) (by omega)) ?_
  refine jx_auto rfl trivial ?_
  refine jx_callE 3 rfl (by decide) (jl_seenTakeN (v := v) (a := jup (jup (jup (jup a 1 (a 9)) 2 (a 10)) 3 (a 11)) 5 (a 13)) hsl ksl hsw ksw hsp ksp) ?_
  refine jx_auto rfl trivial ?_
  exact jx_ends rfl trivial
end
