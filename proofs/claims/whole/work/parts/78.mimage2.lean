/-! image and restore, the reference's heads -/
def jmkL (a : Nat → List Int32) : Prop := (a 16).length = 6 ∧ (a 17).length = 6 ∧ (a 18).length = 4 ∧ (a 19).length = 6 ∧ (a 20).length = 6 ∧ (a 21).length = 6 ∧ (a 22).length = 6 ∧ (a 23).length = 6
def jmkV (v : Nat → Int32) : Nat → Int32 := jup (jup (jup (jup (jup v 14 1) 15 (v 0)) 16 (v 4)) 17 (v 5)) 18 (v 7)
def jmnV (v : Nat → Int32) : Nat → Int32 := jup (jup (jup v 4 (v 16)) 5 (v 17)) 7 (v 18)
section
variable {v : Nat → Int32} {a : Nat → List Int32} {w u : Int64} {G : jG}
theorem jm_image (h : jMG v a G) (hk : jmkL a) : jx_W 3 jk_X7_image 0 [some (.ref 0), none] [] (jM v a w u) (fun r h' => (glg G = 0 ∧ r = some (.int (-103)) ∧ h' = jM v a w u) ∨ (0 < glg G ∧ r = some (.int (gno G 1)) ∧ ∃ b, h' = jM (jmkV v) b w u ∧ (∀ j, (j ≠ 16 ∧ j ≠ 17 ∧ j ≠ 19 ∧ j ≠ 20 ∧ j ≠ 21 ∧ j ≠ 22 ∧ j ≠ 23 ∧ j ≠ 18) → b j = a j) ∧ b 16 = a 0 ∧ b 17 = a 1 ∧ b 19 = a 4 ∧ b 20 = a 5 ∧ b 21 = a 6 ∧ b 22 = a 7 ∧ b 23 = a 8 ∧ b 18 = a 2)) := by
  have ho := h.ok
  have hn := h.lens
  unfold jmkL at hk
  refine jx_auto rfl trivial ?_
  rw [h.laughs]
  refine jx_if rfl (fun c1 => ?_) (fun c1 => ?_)
  · have h0 : 0 < glg G := Nat.pos_of_ne_zero (fun e => c1 (by rw [e]; rfl))
    refine jx_steps 21 rfl ⟨Or.inr rfl, trivial⟩ ?_
    refine jx_deep (d := 2) (by decide) (jx_mono (jx_at (jm_image1 (v := jmkV v) (a := a) (by omega) (by omega) (by omega) (by omega) (by omega) (by omega) (by omega) (by omega) (by omega) (by omega) (by omega) (by omega) (by omega) (by omega) (by omega) (by omega))) (fun r h' hq => ?_))
    obtain ⟨rfl, b, rfl, q⟩ := hq
    refine Or.inr ⟨h0, ?_, b, rfl, q⟩
    rw [← h.drives]; rfl
  · have h0 : glg G = 0 := by
      rcases Nat.eq_zero_or_pos (glg G) with e | e
      · exact e
      · exact absurd (Decidable.not_not.mp c1) (nI_ne0 e (by omega))
    refine jx_auto rfl trivial ?_
    exact jx_done rfl trivial (Or.inl ⟨h0, rfl, rfl⟩)
theorem jm_restore (h : jMG v a G) (hk : jmkL a) : jx_W 3 jk_X7_restore 0 [some (.ref 0), none] [] (jM v a w u) (fun r h' => ((v 14 = 0 ∨ ¬ v 15 = v 0) ∧ r = some (.int (-103)) ∧ h' = jM v a w u) ∨ (¬ v 14 = 0 ∧ v 15 = v 0 ∧ r = some (.int (v 17)) ∧ ∃ b, h' = jM (jmnV v) b w u ∧ (∀ j, (j ≠ 0 ∧ j ≠ 1 ∧ j ≠ 4 ∧ j ≠ 5 ∧ j ≠ 6 ∧ j ≠ 7 ∧ j ≠ 8 ∧ j ≠ 2) → b j = a j) ∧ b 0 = a 16 ∧ b 1 = a 17 ∧ b 4 = a 19 ∧ b 5 = a 20 ∧ b 6 = a 21 ∧ b 7 = a 22 ∧ b 8 = a 23 ∧ b 2 = a 18)) := by
  have hn := h.lens
  unfold jmkL at hk
  have bad : (v 14 = 0 ∨ ¬ v 15 = v 0) → jx_W 3 jk_X7_restore 18 [some (.ref 0), none] [] (jM v a w u) (fun r h' => ((v 14 = 0 ∨ ¬ v 15 = v 0) ∧ r = some (.int (-103)) ∧ h' = jM v a w u) ∨ (¬ v 14 = 0 ∧ v 15 = v 0 ∧ r = some (.int (v 17)) ∧ ∃ b, h' = jM (jmnV v) b w u ∧ (∀ j, (j ≠ 0 ∧ j ≠ 1 ∧ j ≠ 4 ∧ j ≠ 5 ∧ j ≠ 6 ∧ j ≠ 7 ∧ j ≠ 8 ∧ j ≠ 2) → b j = a j) ∧ b 0 = a 16 ∧ b 1 = a 17 ∧ b 4 = a 19 ∧ b 5 = a 20 ∧ b 6 = a 21 ∧ b 7 = a 22 ∧ b 8 = a 23 ∧ b 2 = a 18)) := by
    intro q
    refine jx_auto rfl trivial ?_
    exact jx_done rfl trivial (Or.inl ⟨q, rfl, rfl⟩)
  refine jx_auto rfl trivial ?_
  refine jx_if rfl (fun c1 => bad (Or.inl c1)) (fun c1 => ?_)
  refine jx_auto rfl trivial ?_
  refine jx_if rfl (fun c2 => ?_) (fun c2 => bad (Or.inr c2))
  refine jx_steps 14 rfl trivial ?_
  refine jx_deep (d := 2) (by decide) (jx_mono (jx_at (jm_restore1 (v := jmnV v) (a := a) (by omega) (by omega) (by omega) (by omega) (by omega) (by omega) (by omega) (by omega) (by omega) (by omega) (by omega) (by omega) (by omega) (by omega) (by omega) (by omega))) (fun r h' hq => ?_))
  obtain ⟨rfl, b, rfl, q⟩ := hq
  exact Or.inr ⟨c1, c2, rfl, b, rfl, q⟩
end
