/-! stands, the reference's side -/
def jMu (v : Nat → Int32) (a : Nat → List Int32) (w u : Int64) (r : Int32) (s : Nat) : jx_Q := fun r' h' => ∃ v' a', r' = some (.int r) ∧ h' = jM v' a' w u ∧ v' 6 = nI s ∧ (∀ j, j ≠ 6 → j < 9 ∨ 13 < j → v' j = v j) ∧ (∀ j, j < 10 ∨ 15 < j → a' j = a j) ∧ jMl a'
section
variable {v : Nat → Int32} {a : Nat → List Int32} {w u : Int64} {G : jG}
theorem jm_stands (h : jMG v a G) (hs : jMl a) (h9 : g9 G) (hg : 0 < gcv G → 0 < gpg G) {s : Nat} (hv : v 6 = nI s) (hs20 : s ≤ 20) {x y k : Int32} : jx_W 10 jk_X7_stands 0 [some (.ref 0), some (.int x), some (.int y), some (.int k)] [] (jM v a w u) (jMu v a w u (an_stands G s x y k) (up_asks G s x y k)) := by
  have ho := h.ok
  unfold an_stands up_asks
  refine jx_auto rfl trivial ?_
  refine jx_callE 2 rfl (by decide) (jm_isCovert h) ?_
  refine jx_if rfl (fun c1 => ?_) (fun c1 => ?_)
  · rw [if_neg c1, if_neg c1]
    obtain ⟨c, hc, rfl⟩ := sp_has_ex c1
    rw [nI_clamp (by omega)]
    have bad : ¬ ((-1 ≤ y ∧ y ≤ 1) ∧ sp_row k 6 = 1) → jx_W 10 jk_X7_stands 33 [some (.ref 0), some (.int (nI c)), some (.int y), some (.int k)] [] (jM v a w u) (jMu v a w u (if (-1 ≤ y ∧ y ≤ 1) ∧ sp_row k 6 = 1 then (if s < 20 then an_row (gpg G) (st G c y) k else -103) else -102) (if (-1 ≤ y ∧ y ≤ 1) ∧ sp_row k 6 = 1 then (if s < 20 then s + 1 else s) else s)) := by
      intro hn
      rw [if_neg hn, if_neg hn]
      refine jx_auto rfl trivial ?_
      exact jx_done rfl trivial ⟨v, a, rfl, rfl, hv, fun _ _ _ => rfl, fun _ _ => rfl, hs⟩
    have good : ((-1 ≤ y ∧ y ≤ 1) ∧ sp_row k 6 = 1) → jx_W 10 jk_X7_stands 36 [some (.ref 0), some (.int (nI c)), some (.int y), some (.int k)] [] (jM v a w u) (jMu v a w u (if (-1 ≤ y ∧ y ≤ 1) ∧ sp_row k 6 = 1 then (if s < 20 then an_row (gpg G) (st G c y) k else -103) else -102) (if (-1 ≤ y ∧ y ≤ 1) ∧ sp_row k 6 = 1 then (if s < 20 then s + 1 else s) else s)) := by
      intro hy
      rw [if_pos hy, if_pos hy]
      refine jx_auto rfl trivial ?_
      rw [hv]
      refine jx_if rfl (fun c4 => ?_) (fun c4 => ?_)
      · have h20 : s < 20 := by
          have : ¬ s = 20 := fun q => c4 (by rw [q]; rfl)
          omega
        rw [if_pos h20, if_pos h20]
        refine jx_auto rfl trivial ?_
        have hG1 : jMG (jup v 6 (v 6 + 1)) a G := h
        refine jx_call 9 rfl (by decide) (jx_at (jm_standsNow hG1 hs h9 (hg (by omega)) hc ((row_of (N := 6) (by omega) hy.2).imp id (fun ⟨m, hm, e⟩ => ⟨m, hm, e⟩))) rfl rfl rfl rfl) (fun r h' hq => ?_)
        obtain ⟨v', a', rfl, rfl, hms⟩ := hq
        refine jx_auto rfl trivial ?_
        refine jx_done rfl trivial ⟨v', a', rfl, rfl, ?_, fun j hj hj2 => ?_, hms.2.1, hms.2.2⟩
        · rw [hms.1 6 (by omega), jup_s, hv, nI_1]
        · rw [hms.1 j hj2, jup_n _ _ hj]
      · have h20 : ¬ s < 20 := fun q => by
          have := (nI_eq (a := s) (b := 20) (by omega) (by decide)).mp (Decidable.not_not.mp c4)
          omega
        rw [if_neg h20, if_neg h20]
        refine jx_auto rfl trivial ?_
        exact jx_done rfl trivial ⟨v, a, rfl, rfl, hv, fun _ _ _ => rfl, fun _ _ => rfl, hs⟩
    refine jx_auto rfl trivial ?_
    refine jx_callE 2 rfl (by decide) jm_isWind ?_
    refine jx_if rfl (fun c2 => bad (fun q => by rw [if_pos q.1] at c2; cases c2)) (fun c2 => ?_)
    have hw : -1 ≤ y ∧ y ≤ 1 := by
      by_cases z : -1 ≤ y ∧ y ≤ 1
      · exact z
      · exact absurd (if_neg z) c2
    refine jx_auto rfl trivial ?_
    refine jx_if rfl (fun c3 => good ⟨hw, by rw [sp_row, if_pos (Or.inl c3)]⟩) (fun c3 => ?_)
    refine jx_auto rfl trivial ?_
    refine jx_callE 1 rfl (by decide) jm_within ?_
    have hlt : ∀ z : Int32, z ≤ 15 ↔ z < 10 + 6 := fun z => by
      rw [Int32.le_iff_toInt_le, Int32.lt_iff_toInt_lt, show (15 : Int32).toInt = 15 by decide, show (10 + 6 : Int32).toInt = 16 by decide]
      omega
    refine jx_if rfl (fun c4 => good ⟨hw, ?_⟩) (fun c4 => bad (fun q => c4 ?_))
    · have z : 10 ≤ k ∧ k ≤ 15 := by
        by_cases z : 10 ≤ k ∧ k ≤ 15
        · exact z
        · exact absurd (if_neg z) c4
      rw [sp_row, if_pos (Or.inr ⟨z.1, (hlt k).mp z.2⟩)]
    · rw [sp_row] at q
      by_cases z : k = 0 ∨ (10 ≤ k ∧ k < 10 + 6)
      · rcases z with z | z
        · exact absurd z c3
        · rw [if_pos ⟨z.1, (hlt k).mpr z.2⟩]; decide
      · rw [if_neg z] at q; exact absurd q.2 (by decide)
  · have c1 := Decidable.not_not.mp c1
    rw [if_pos c1, if_pos c1]
    refine jx_auto rfl trivial ?_
    exact jx_done rfl trivial ⟨v, a, rfl, rfl, hv, fun _ _ _ => rfl, fun _ _ => rfl, hs⟩
end
