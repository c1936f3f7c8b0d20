/-! the reference's read, fault -/
def jMf (v : Nat → Int32) (a : Nat → List Int32) (w u : Int64) (p q : Nat) (B : Nat × Bool × Nat) : jx_Q := fun r h' => ∃ v', r = some (.int (nI B.1)) ∧ h' = jM v' a w u ∧ (∀ j, j < 9 ∨ 12 < j → v' j = v j) ∧ v' 9 = (if B.2.1 = true then 1 else 0) ∧ (B.2.1 = true → v' 10 = nI p ∧ v' 11 = nI q ∧ v' 12 = nI B.2.2)
section
variable {v : Nat → Int32} {a : Nat → List Int32} {w u : Int64} {t : Nat} {f : Nat → Int32}
theorem jm_read (hp : jpgM v a t f) (hok : pgok t f) : jx_W 5 jk_X7_read 0 [some (.ref 0), none] [] (jM v a w u) (jMf v a w u (rd_p (pgcc t f)) (rd_q (pgcc t f)) (rd (pgcc t f) t)) := by
  have hpl := fgN_le (pgcc t f) 0 6
  have hql := fgN_le (pgcc t f) (rd_p (pgcc t f) + 1) 4
  have hp6 : rd_p (pgcc t f) ≤ 6 := hpl
  have hq4 : rd_q (pgcc t f) ≤ 4 := hql
  refine jx_auto rfl ⟨Or.inl rfl, trivial⟩ ?_
  refine jx_at (h' := jM (jup (jup v 9 0) 12 (nI 0)) a w u) ?_ rfl rfl rfl rfl
  have hp1 : jpgM (jup (jup v 9 0) 12 (nI 0)) a t f := hp
  refine jx_callE 3 rfl (by decide) (jm_figures hp1 hok (k := 0) (m := 6) (by decide) (by decide)) ?_
  refine jx_steps 1 rfl trivial ?_
  obtain ⟨v1, hv1⟩ : ∃ v1, v1 = jup (jup (jup v 10 (nI (rd_p (pgcc t f)))) 9 0) 12 (nI 0) := ⟨_, rfl⟩
  have hp2 : jpgM v1 a t f := by rw [hv1]; exact hp
  refine jx_at (h' := jM v1 a w u) ?_ rfl rfl rfl (by rw [hv1]; rfl)
  have n1 : v1 10 = nI (rd_p (pgcc t f)) := by rw [hv1]; rfl
  have n9 : v1 9 = 0 := by rw [hv1]; rfl
  have nn : ∀ j, j < 9 ∨ 12 < j → v1 j = v j := fun j hj => by rw [hv1, jup_n _ _ (by omega), jup_n _ _ (by omega), jup_n _ _ (by omega)]
  -- not so far
  have early : rd_p (pgcc t f) < 2 ∨ ¬ pgcc t f (rd_p (pgcc t f)) = 59 → jx_W 5 jk_X7_read 42 [some (.ref 0), none] [] (jM v1 a w u) (jMf v a w u (rd_p (pgcc t f)) (rd_q (pgcc t f)) (rd (pgcc t f) t)) := by
    intro hbad
    have e : rd (pgcc t f) t = (rd_p (pgcc t f), false, 0) := by unfold rd; rw [if_pos hbad]
    rw [e]
    refine jx_auto rfl trivial ?_
    refine jx_done rfl trivial ⟨v1, by rw [n1], rfl, nn, n9, fun y => by cases y⟩
  refine jx_auto rfl trivial ?_
  rw [n1]
  refine jx_if rfl (fun c1 => early (Or.inl ((nI_ltI (b := 2) (by omega) (by decide)).mp c1))) (fun c1 => ?_)
  have hge2 : ¬ rd_p (pgcc t f) < 2 := fun y => c1 (nI_lt (b := 2) y (by decide))
  refine jx_auto rfl trivial ?_
  rw [n1]
  refine jx_callE 1 rfl (by decide) (jm_at hp2 hok (by omega)) ?_
  have hcb := pgcc_b hok (rd_p (pgcc t f))
  refine jx_auto rfl trivial ?_
  refine jx_if rfl (fun c2 => ?_) (fun c2 => early (Or.inr (fun y => c2 (by rw [y]; rfl))))
  have h59 : pgcc t f (rd_p (pgcc t f)) = 59 := (nI_eq (b := 59) (by omega) (by decide)).mp c2
  have hno : ¬ (rd_p (pgcc t f) < 2 ∨ ¬ pgcc t f (rd_p (pgcc t f)) = 59) := fun y => y.elim hge2 (fun y2 => y2 h59)
  refine jx_auto rfl trivial ?_
  dsimp only
  rw [n1, nI_1]
  refine jx_callE 3 rfl (by decide) (jm_figures hp2 hok (k := rd_p (pgcc t f) + 1) (m := 4) (by omega) (by decide)) ?_
  refine jx_steps 1 rfl trivial ?_
  obtain ⟨v2, hv2⟩ : ∃ v2, v2 = jup v1 11 (nI (rd_q (pgcc t f))) := ⟨_, rfl⟩
  have hp3 : jpgM v2 a t f := by rw [hv2]; exact hp2
  refine jx_at (h' := jM v2 a w u) ?_ rfl rfl rfl (by rw [hv2]; rfl)
  have m1 : v2 10 = nI (rd_p (pgcc t f)) := by rw [hv2]; exact n1
  have m2 : v2 11 = nI (rd_q (pgcc t f)) := by rw [hv2]; rfl
  have m9 : v2 9 = 0 := by rw [hv2]; exact n9
  have mm : ∀ j, j < 9 ∨ 12 < j → v2 j = v j := fun j hj => by rw [hv2, jup_n _ _ (by omega)]; exact nn j hj
  have early2 : rd_q (pgcc t f) < 2 ∨ ¬ pgcc t f (rd_p (pgcc t f) + 1 + rd_q (pgcc t f)) = 59 → jx_W 5 jk_X7_read 92 [some (.ref 0), some (.int (nI (rd_p (pgcc t f) + 1 + rd_q (pgcc t f))))] [] (jM v2 a w u) (jMf v a w u (rd_p (pgcc t f)) (rd_q (pgcc t f)) (rd (pgcc t f) t)) := by
    intro hbad
    have e : rd (pgcc t f) t = (rd_p (pgcc t f) + 1 + rd_q (pgcc t f), false, 0) := by unfold rd; rw [if_neg hno, if_pos hbad]
    rw [e]
    refine jx_auto rfl trivial ?_
    exact jx_done rfl trivial ⟨v2, rfl, rfl, mm, m9, fun y => by cases y⟩
  refine jx_auto rfl trivial ?_
  dsimp only
  rw [m1, m2, nI_1, nI_add]
  refine jx_if rfl (fun c3 => early2 (Or.inl ((nI_ltI (b := 2) (by omega) (by decide)).mp c3))) (fun c3 => ?_)
  have hge3 : ¬ rd_q (pgcc t f) < 2 := fun y => c3 (nI_lt (b := 2) y (by decide))
  refine jx_auto rfl trivial ?_
  refine jx_callE 1 rfl (by decide) (jm_at hp3 hok (by omega)) ?_
  have hcb2 := pgcc_b hok (rd_p (pgcc t f) + 1 + rd_q (pgcc t f))
  refine jx_auto rfl trivial ?_
  refine jx_if rfl (fun c4 => ?_) (fun c4 => early2 (Or.inr (fun y => c4 (by rw [y]; rfl))))
  have h592 : pgcc t f (rd_p (pgcc t f) + 1 + rd_q (pgcc t f)) = 59 := (nI_eq (b := 59) (by omega) (by decide)).mp c4
  have hno2 : ¬ (rd_q (pgcc t f) < 2 ∨ ¬ pgcc t f (rd_p (pgcc t f) + 1 + rd_q (pgcc t f)) = 59) := fun y => y.elim hge3 (fun y2 => y2 h592)
  have e : rd (pgcc t f) t = rd_l (pgcc t f) t (rd_q (pgcc t f)) 6 0 (rd_p (pgcc t f) + 1 + rd_q (pgcc t f) + 1) := by unfold rd; rw [if_neg hno, if_neg hno2]
  rw [e]
  refine jx_auto rfl trivial ?_
  dsimp only
  rw [nI_1]
  obtain ⟨v3, hv3⟩ : ∃ v3, v3 = jup (jup v 10 (nI (rd_p (pgcc t f)))) 11 (nI (rd_q (pgcc t f))) := ⟨_, rfl⟩
  have hp4 : jpgM v3 a t f := by rw [hv3]; exact hp
  have m3 : v3 11 = nI (rd_q (pgcc t f)) := by rw [hv3]; rfl
  have eW : jM v2 a w u = jM (jup (jup v3 9 0) 12 (nI 0)) a w u := by rw [hv2, hv1, hv3]; rfl
  rw [eW]
  refine jx_call 4 rfl (by decide) (jm_readLaughs hp4 hok m3 (by omega) hq4 (k0 := rd_p (pgcc t f) + 1 + rd_q (pgcc t f) + 1) (by omega)) (fun r h' hq => ?_)
  obtain ⟨v', rfl, rfl, q1, q2, q3⟩ := hq
  refine jx_auto rfl trivial ?_
  refine jx_done rfl trivial ⟨v', rfl, rfl, fun j hj => ?_, q2, fun y => ⟨?_, ?_, q3 y⟩⟩
  · rw [q1 j (by omega) (by omega), hv3, jup_n _ _ (by omega), jup_n _ _ (by omega)]
  · rw [q1 10 (by decide) (by decide), hv3]; rfl
  · rw [q1 11 (by decide) (by decide), hv3]; rfl
theorem jm_fault (hp : jpgM v a t f) (hok : pgok t f) : jx_W 6 jk_X7_fault 0 [some (.ref 0)] [] (jM v a w u) (fun r h' => ∃ v', r = some (.int (an_fault t f)) ∧ h' = jM v' a w u ∧ ∀ j, j < 9 ∨ 12 < j → v' j = v j) := by
  refine jx_auto rfl trivial ?_
  refine jx_call 5 rfl (by decide) (jm_read hp hok) (fun r h' hq => ?_)
  obtain ⟨v', rfl, rfl, q1, -, -⟩ := hq
  refine jx_auto rfl trivial ?_
  exact jx_done rfl trivial ⟨v', rfl, rfl, q1⟩
end
