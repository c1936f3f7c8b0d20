/-! order, both sides; LaughDrive's game -/
/-- the rows that LaughDrive works with -/
def jLl (a : Nat → List Int32) : Prop := (a 17).length = 4 ∧ (a 18).length = 64 ∧ (a 19).length = 64
/-- what may differ behind a call that only looks -/
def jLs (v : Nat → Int32) (a : Nat → List Int32) (v' : Nat → Int32) (a' : Nat → List Int32) : Prop := (∀ j, j < 22 → v' j = v j) ∧ (∀ j, j < 17 → a' j = a j) ∧ jLl a'
def jLo (v : Nat → Int32) (a : Nat → List Int32) (w : Int64) (r : Int32) : jx_Q := fun r' h' => ∃ v' a', r' = some (.int r) ∧ h' = jL v' a' w ∧ jLs v a v' a'
theorem row_at {k : Int32} {N : Nat} (hN : N ≤ 6) (h1 : 10 ≤ k) (h2 : k < nI (10 + N)) : ∃ m, m < N ∧ k = nI (10 + m) := by
  have h0 : ¬ k < 0 := fun z => by
    rw [Int32.lt_iff_toInt_lt] at z
    rw [Int32.le_iff_toInt_le] at h1
    have e1 : (10 : Int32).toInt = 10 := by decide
    have e2 : (0 : Int32).toInt = 0 := by decide
    omega
  obtain ⟨j, hj, rfl⟩ := nI_of h0
  have h3 : 10 ≤ j := (nI_leI (a := 10) (by decide) hj).mp h1
  have h4 : j < 10 + N := (nI_ltI hj (by omega)).mp h2
  exact ⟨j - 10, by omega, by rw [show 10 + (j - 10) = j by omega]⟩
theorem row_sub (m : Nat) : nI (10 + m) - 10 = nI m := by
  have := pk_sub (a := 10 + m) (b := 10) (by omega)
  rw [Nat.add_sub_cancel_left] at this
  exact this
theorem row_n0 {m : Nat} (h : m < 6) : ¬ nI (10 + m) = 0 := nI_ne0 (by omega) (by omega)
theorem row_of {k : Int32} {N : Nat} (hN : N ≤ 6) (h : sp_row k (nI N) = 1) : k = 0 ∨ ∃ m, m < N ∧ k = nI (10 + m) := by
  unfold sp_row at h
  by_cases c : k = 0 ∨ (10 ≤ k ∧ k < 10 + nI N)
  · rcases c with c | c
    · exact Or.inl c
    · refine Or.inr (row_at hN c.1 ?_)
      rw [← nI_add]; exact c.2
  · rw [if_neg c] at h; cases h
theorem sp_row_01 (k n : Int32) : sp_row k n = 0 ∨ sp_row k n = 1 := by unfold sp_row; split <;> simp
theorem sp_has_out {n k : Nat} (hk : n ≤ k) (hk2 : k < 2 ^ 31) : sp_has n (nI k) = 0 := if_neg (fun z => absurd z.2 (nI_nlt hk hk2))
theorem pl_upto_any {wo : Nat → Int × List Nat} : ∀ n, 0 < n → ∃ q, pl_upto wo (fun _ => false) n = some q
  | n + 1, _ => by
    rw [pl_upto, if_neg (by decide)]
    cases pl_upto wo (fun _ => false) n with
    | none => exact ⟨_, rfl⟩
    | some b =>
      unfold fm_step
      by_cases hlt : b.1 < (wo n).1
      · exact ⟨_, if_pos hlt⟩
      · exact ⟨_, if_neg hlt⟩
theorem og2_ne {G : jG} {x : Int32} (h : 0 < gcv G) : ∃ c rest, (og2 G x).2 = c :: rest := by
  unfold og2
  rw [pl_best]
  obtain ⟨q, hq⟩ := pl_upto_any (wo := fun c => (og G x (gco G) c + (-1) * (pl_best (gcv G) (og G x) (oa G x) (-1) 3 (pl_add (fun _ => false) c) (oa G x (gco G) c)).1, c :: (pl_best (gcv G) (og G x) (oa G x) (-1) 3 (pl_add (fun _ => false) c) (oa G x (gco G) c)).2)) (gcv G) h
  obtain ⟨c, -, -, e⟩ := pl_upto_mem hq
  rw [hq, e]
  exact ⟨c, _, rfl⟩
section
variable {v v' : Nat → Int32} {a a' : Nat → List Int32} {w u : Int64} {G : jG}
theorem jLs.rf (h : jLl a) : jLs v a v a := ⟨fun _ _ => rfl, fun _ _ => rfl, h⟩
theorem jLs.tr {v2 : Nat → Int32} {a2 : Nat → List Int32} (h : jLs v a v' a') (h2 : jLs v' a' v2 a2) : jLs v a v2 a2 := ⟨fun j hj => (h2.1 j hj).trans (h.1 j hj), fun j hj => (h2.2.1 j hj).trans (h.2.1 j hj), h2.2.2⟩
theorem jLs.game (hs : jLs v a v' a') (h : jLG v a G) : jLG v' a' G := by
  obtain ⟨h1, h2, -⟩ := hs
  unfold jLG at h ⊢
  rw [h1 vL_pegs (by decide), h1 vL_coverts (by decide), h1 vL_laughs (by decide), h1 vL_seen (by decide), h1 vL_places (by decide), h1 vL_sport (by decide), h1 vL_drives (by decide), h2 1 (by omega), h2 2 (by omega), h2 3 (by omega), h2 4 (by omega), h2 5 (by omega), h2 6 (by omega), h2 7 (by omega), h2 8 (by omega)]
  exact h
theorem jl_orderCovert (h : jLG v a G) (hl : (a 17).length = 4) {k : Int32} : jx_W 2 jk_X2_orderCovert 0 [some (.ref 5), some (.int k)] [] (jL v a w) (jx_is (some (.int (if sp_has (gcv G) k = 0 then -1 else jp_at (a 17) k))) (jL v a w)) := by
  refine jx_auto rfl trivial ?_
  refine jx_callE 1 rfl (by decide) (jl_hasCovert h) ?_
  refine jx_if rfl (fun c1 => ?_) (fun c1 => ?_)
  · rw [if_pos c1]
    refine jx_auto rfl trivial ?_
    exact jx_ends rfl trivial
  · rw [if_neg c1]
    refine jx_auto rfl trivial ?_
    refine jx_callE 1 rfl (by decide) (jr_at (q := 25) (l := a 17) (by omega) rfl rfl) ?_
    refine jx_auto rfl trivial ?_
    exact jx_ends rfl trivial
/-- a covert of the row found -/
theorem row_ans {n : Nat} (hn : n ≤ 4) {Z : Int × List Nat} {l : List Int32} (hl : l.length = 4) (hr : ∀ k, k < n → l.getD k 0 = nI (Z.2.getD k 0)) {m : Nat} (hm : m < 4) : (if sp_has n (nI m) = 0 then -1 else jp_at l (nI m)) = an_row n Z (nI (10 + m)) := by
  unfold an_row
  rw [if_neg (row_n0 (by omega)), row_sub, nI_clamp (by omega)]
  by_cases hmn : m < n
  · rw [sp_has_in hmn (by omega), if_neg (by decide), if_pos hmn, jp_at_in (by omega) (by omega), hr m hmn]
  · rw [sp_has_out (by omega) (by omega), if_pos rfl, if_neg hmn]
theorem jl_order (h : jLG v a G) (h9 : g9 G) (hl : jLl a) {x k : Int32} : jx_W 13 jk_X6_order 0 [some (.ref 0), some (.int x), some (.int k)] [] (jL v a w) (jLo v a w (an_order G x k)) := by
  have ho := h.ok
  have bad : ¬ ((-1 ≤ x ∧ x ≤ 1) ∧ sp_row k 4 = 1) → jx_W 13 jk_X6_order 15 [some (.ref 0), some (.int x), some (.int k)] [] (jL v a w) (jLo v a w (an_order G x k)) := by
    intro hn
    refine jx_auto rfl trivial ?_
    exact jx_done rfl trivial ⟨v, a, by rw [an_order, if_neg hn], rfl, .rf hl⟩
  refine jx_auto rfl trivial ?_
  refine jx_callE 1 rfl (by decide) jl_isWind ?_
  refine jx_if rfl (fun c1 => bad (fun q => by rw [if_pos q.1] at c1; cases c1)) (fun c1 => ?_)
  have hw : -1 ≤ x ∧ x ≤ 1 := by
    by_cases z : -1 ≤ x ∧ x ≤ 1
    · exact z
    · exact absurd (if_neg z) c1
  refine jx_auto rfl trivial ?_
  refine jx_callE 1 rfl (by decide) jl_isHow ?_
  refine jx_if rfl (fun c2 => ?_) (fun c2 => bad (fun q => c2 (by rw [q.2]; decide)))
  have hr : sp_row k 4 = 1 := (sp_row_01 k 4).resolve_left c2
  unfold an_order
  rw [if_pos ⟨hw, hr⟩]
  refine jx_auto rfl trivial ?_
  refine jx_callE 1 rfl (by decide) (jl_isThere h) ?_
  by_cases h0 : 0 < glg G
  · rw [if_pos h0, if_pos h0]
    refine jx_if rfl (fun _ => ?_) (fun c6 => absurd (show ¬ (1 : Int32) = 0 by decide) c6)
    refine jx_auto rfl trivial ?_
    refine jx_call 12 rfl (by decide) (jl_findOrder h h9 hl.1) (fun r h' hq => ?_)
    obtain ⟨rfl, l, rfl, hl17, hrow⟩ := hq
    have hs : jLs v a (jup v 22 (iI (ob G x).1)) (jup a 17 l) := ⟨fun j hj => jup_n _ _ (by omega), fun j hj => jup_n _ _ (by omega), hl17, hl.2⟩
    refine jx_auto rfl trivial ?_
    refine jx_if rfl (fun c3 => ?_) (fun c3 => ?_)
    · obtain ⟨m, hm, rfl⟩ := (row_of (N := 4) (by omega) hr).resolve_left c3
      refine jx_auto rfl trivial ?_
      dsimp only
      rw [row_sub]
      refine jx_callE 2 rfl (by decide) (jl_orderCovert (hs.game h) hl17) ?_
      refine jx_auto rfl trivial ?_
      refine jx_done rfl trivial ⟨_, _, ?_, rfl, hs⟩
      rw [← row_ans (n := gcv G) ho.2.1 hl17 hrow hm]
      rfl
    · have c3 := Decidable.not_not.mp c3
      refine jx_auto rfl trivial ?_
      refine jx_done rfl trivial ⟨_, _, ?_, rfl, hs⟩
      rw [an_row, if_pos c3]
      rfl
  · rw [if_neg h0, if_neg h0]
    refine jx_if rfl (fun c6 => absurd rfl c6) (fun _ => ?_)
    refine jx_auto rfl trivial ?_
    exact jx_done rfl trivial ⟨v, a, rfl, rfl, .rf hl⟩
theorem jl_game (h : jLG v a G) (h9 : g9 G) (hg : 0 < glg G → 0 < gcv G) (hl : jLl a) {x k : Int32} : jx_W 13 jk_X6_game 0 [some (.ref 0), some (.int x), some (.int k)] [] (jL v a w) (jLo v a w (an_game G x k)) := by
  have ho := h.ok
  have bad : ¬ ((-1 ≤ x ∧ x ≤ 1) ∧ (0 ≤ k ∧ k ≤ 1)) → jx_W 13 jk_X6_game 16 [some (.ref 0), some (.int x), some (.int k)] [] (jL v a w) (jLo v a w (an_game G x k)) := by
    intro hn
    refine jx_auto rfl trivial ?_
    exact jx_done rfl trivial ⟨v, a, by rw [an_game, if_neg hn], rfl, .rf hl⟩
  refine jx_auto rfl trivial ?_
  refine jx_callE 1 rfl (by decide) jl_isWind ?_
  refine jx_if rfl (fun c1 => bad (fun q => by rw [if_pos q.1] at c1; cases c1)) (fun c1 => ?_)
  have hw : -1 ≤ x ∧ x ≤ 1 := by
    by_cases z : -1 ≤ x ∧ x ≤ 1
    · exact z
    · exact absurd (if_neg z) c1
  refine jx_auto rfl trivial ?_
  refine jx_if rfl (fun c2 => bad (fun q => absurd c2 (Int32.not_lt.mpr q.2.1))) (fun c2 => ?_)
  refine jx_auto rfl trivial ?_
  refine jx_if rfl (fun c3 => ?_) (fun c3 => bad (fun q => c3 q.2.2))
  have hk : 0 ≤ k ∧ k ≤ 1 := ⟨Int32.not_lt.mp c2, c3⟩
  unfold an_game
  rw [if_pos ⟨hw, hk⟩]
  refine jx_auto rfl trivial ?_
  refine jx_callE 1 rfl (by decide) (jl_isThere h) ?_
  by_cases h0 : 0 < glg G
  · rw [if_pos h0, if_pos h0]
    refine jx_if rfl (fun _ => ?_) (fun c6 => absurd (show ¬ (1 : Int32) = 0 by decide) c6)
    refine jx_auto rfl trivial ?_
    refine jx_call 12 rfl (by decide) (jl_findGame h h9 hl.1) (fun r h' hq => ?_)
    obtain ⟨rfl, l, y, rfl, hl17, hy⟩ := hq
    have hs : jLs v a (jup (jup v 23 (iI (og2 G x).1)) 24 y) (jup a 17 l) := ⟨fun j hj => by rw [jup_n _ _ (by omega), jup_n _ _ (by omega)], fun j hj => jup_n _ _ (by omega), hl17, hl.2⟩
    obtain ⟨c, rest, e⟩ := og2_ne (x := x) (hg h0)
    refine jx_auto rfl trivial ?_
    refine jx_if rfl (fun c3 => ?_) (fun c3 => ?_)
    · refine jx_auto rfl trivial ?_
      refine jx_done rfl trivial ⟨_, _, ?_, rfl, hs⟩
      rw [an_gm, if_neg c3, e, show jup (jup v 23 (iI (og2 G x).1)) 24 y 24 = y from rfl, hy c rest e]
      rfl
    · have c3 := Decidable.not_not.mp c3
      refine jx_auto rfl trivial ?_
      refine jx_done rfl trivial ⟨_, _, ?_, rfl, hs⟩
      rw [an_gm, if_pos c3, ← iI_add]
      rfl
  · rw [if_neg h0, if_neg h0]
    refine jx_if rfl (fun c6 => absurd rfl c6) (fun _ => ?_)
    refine jx_auto rfl trivial ?_
    exact jx_done rfl trivial ⟨v, a, rfl, rfl, .rf hl⟩
theorem jm_order (h : jMG v a G) (hs : jMl a) (h9 : g9 G) (hg : 0 < glg G → 0 < gcv G) {x k : Int32} : jx_W 9 jk_X7_order 0 [some (.ref 0), some (.int x), some (.int k)] [] (jM v a w u) (jMr v a w u (an_order G x k)) := by
  have ho := h.ok
  have bad : ¬ ((-1 ≤ x ∧ x ≤ 1) ∧ sp_row k 4 = 1) → jx_W 9 jk_X7_order 22 [some (.ref 0), some (.int x), some (.int k)] [] (jM v a w u) (jMr v a w u (an_order G x k)) := by
    intro hn
    refine jx_auto rfl trivial ?_
    exact jx_done rfl trivial ⟨v, a, by rw [an_order, if_neg hn], rfl, .rf hs⟩
  have good : ((-1 ≤ x ∧ x ≤ 1) ∧ sp_row k 4 = 1) → jx_W 9 jk_X7_order 25 [some (.ref 0), some (.int x), some (.int k)] [] (jM v a w u) (jMr v a w u (an_order G x k)) := by
    intro hy
    unfold an_order
    rw [if_pos hy]
    refine jx_auto rfl trivial ?_
    rw [h.laughs]
    refine jx_if rfl (fun c5 => ?_) (fun c5 => ?_)
    · have h0 : 0 < glg G := Nat.pos_of_ne_zero (fun e => c5 (by rw [e]; rfl))
      rw [if_pos h0]
      refine jx_auto rfl trivial ?_
      refine jx_call 8 rfl (by decide) (jm_orderNow h hs h9 (hg h0) ((row_of (N := 4) (by omega) hy.2).imp id (fun ⟨m, hm, e⟩ => ⟨m, by omega, e⟩))) (fun r h' hq => ?_)
      obtain ⟨v', a', rfl, rfl, hms⟩ := hq
      refine jx_auto rfl trivial ?_
      exact jx_done rfl trivial ⟨v', a', rfl, rfl, hms⟩
    · have h0 : ¬ 0 < glg G := fun q => nI_ne0 q (by omega) (Decidable.not_not.mp c5)
      rw [if_neg h0]
      refine jx_auto rfl trivial ?_
      exact jx_done rfl trivial ⟨v, a, rfl, rfl, .rf hs⟩
  refine jx_auto rfl trivial ?_
  refine jx_callE 2 rfl (by decide) jm_isWind ?_
  refine jx_if rfl (fun c1 => bad (fun q => by rw [if_pos q.1] at c1; cases c1)) (fun c1 => ?_)
  have hw : -1 ≤ x ∧ x ≤ 1 := by
    by_cases z : -1 ≤ x ∧ x ≤ 1
    · exact z
    · exact absurd (if_neg z) c1
  refine jx_auto rfl trivial ?_
  refine jx_if rfl (fun c2 => good ⟨hw, by rw [sp_row, if_pos (Or.inl c2)]⟩) (fun c2 => ?_)
  refine jx_auto rfl trivial ?_
  refine jx_callE 1 rfl (by decide) jm_within ?_
  have hlt : ∀ y : Int32, y ≤ 13 ↔ y < 10 + 4 := fun y => by
    rw [Int32.le_iff_toInt_le, Int32.lt_iff_toInt_lt, show (13 : Int32).toInt = 13 by decide, show (10 + 4 : Int32).toInt = 14 by decide]
    omega
  refine jx_if rfl (fun c3 => good ⟨hw, ?_⟩) (fun c3 => bad (fun q => c3 ?_))
  · have z : 10 ≤ k ∧ k ≤ 13 := by
      by_cases z : 10 ≤ k ∧ k ≤ 13
      · exact z
      · exact absurd (if_neg z) c3
    rw [sp_row, if_pos (Or.inr ⟨z.1, (hlt k).mp z.2⟩)]
  · rw [sp_row] at q
    by_cases z : k = 0 ∨ (10 ≤ k ∧ k < 10 + 4)
    · rcases z with z | z
      · exact absurd z c2
      · rw [if_pos ⟨z.1, (hlt k).mpr z.2⟩]; decide
    · rw [if_neg z] at q; exact absurd q.2 (by decide)
end
