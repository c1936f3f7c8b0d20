/-! likely; a drive that is done -/
theorem sp_ff_some {p : Nat → Bool} : ∀ {k i j : Nat}, sp_ff p i k = some j → i ≤ j ∧ j < i + k ∧ p j = true
  | 0, _, _, h => by cases h
  | k + 1, i, j, h => by
    rw [sp_ff] at h
    split at h
    · rename_i hp
      cases h; exact ⟨Nat.le_refl _, by omega, hp⟩
    · obtain ⟨h1, h2, h3⟩ := sp_ff_some h
      exact ⟨by omega, by omega, h3⟩
theorem sp_ff_none {p : Nat → Bool} : ∀ {k i : Nat}, sp_ff p i k = none → ∀ j, i ≤ j → j < i + k → p j = false
  | 0, _, _, j, h1, h2 => by omega
  | k + 1, i, h, j, h1, h2 => by
    rw [sp_ff] at h
    split at h
    · cases h
    · rename_i hp
      by_cases e : j = i
      · subst e; simpa using hp
      · exact sp_ff_none h j (by omega) (by omega)
theorem sp_peg_ex {G : jG} {l : Nat} {c x : Int32} (h : ¬ sp_peg G l c x = -1) : ∃ p, p < gpg G ∧ sp_peg G l c x = nI p := by
  unfold sp_peg at h ⊢
  split at h
  · rename_i hz
    rw [if_pos hz]
    obtain ⟨j, hj, e⟩ := nI_of (Int32.not_lt.mpr hz.1)
    refine ⟨j, ?_, e⟩
    rw [e] at hz
    rcases Nat.lt_or_ge j (gpg G) with q | q
    · exact q
    · exact absurd hz.2 (nI_nlt q hj)
  · exact absurd rfl h
theorem nI_ne1 {n : Nat} (h : n < 2 ^ 31) : ¬ nI n = -1 := fun z => by
  have : (nI n).toInt = n := nI_toInt h
  rw [z] at this
  have e4 : (-1 : Int32).toInt = -1 := by decide
  omega
theorem sp_opt_eq {o : Option Nat} {l : Nat} (hl : l < 2 ^ 31) (ho : ∀ b, o = some b → b < 2 ^ 31) : sp_opt o = nI l ↔ o = some l := by
  cases o with
  | none =>
    constructor
    · intro h; exact absurd h.symm (nI_ne1 hl)
    · intro h; cases h
  | some b =>
    constructor
    · intro h
      rw [(nI_eq (ho b rfl) hl).mp h]
    · intro h; cases h; rfl
section
variable {v : Nat → Int32} {a : Nat → List Int32} {w : Int64} {G : jG}
theorem jl_likely (h : jLG v a G) {l : Nat} (hl : l < glg G) : jx_W 5 jk_X0_likely 0 [some (.ref 6), some (.int (nI l)), none, none, none, none, none] [] (jL v a w) (jx_is (some (.int (nI (sp_likely G l)))) (jL v a w)) := by
  have ho := h.ok
  have hn := h.lens
  refine jx_auto rfl trivial ?_
  refine jx_callE 2 rfl (by decide) (jl_placeOf h hl) ?_
  refine jx_auto rfl trivial ?_
  refine jx_callE 2 rfl (by decide) (jl_laughsIn h h.places) ?_
  refine jx_steps 5 rfl trivial ?_
  have loop : ∀ k i, i + k = 3 → ∀ z : Option Value, jx_W 5 jk_X0_likely 22 [some (.ref 6), some (.int (nI l)), some (.int (gco G l)), some (.int (jb_set (fun j => decide (gco G j = gco G l)) (glg G))), some (.int (nI (sp_cnt (fun k => sp_lik G l (nI k - 1)) i))), some (.int (nI i - 1)), z] [] (jL v a w) (jx_is (some (.int (nI (sp_likely G l)))) (jL v a w)) := by
    intro k
    induction k with
    | zero =>
      intro i hi z
      have e : i = 3 := by omega
      subst e
      refine jx_auto rfl trivial ?_
      refine jx_if rfl (fun _ => ?_) (fun c1 => absurd (by decide) c1)
      refine jx_auto rfl trivial ?_
      exact jx_ends rfl trivial
    | succ k ih =>
      intro i hi z
      have hw : ∀ i, i < 3 → ¬ (1 : Int32) < nI i - 1 := by decide
      have e0 : ∀ i, i < 3 → nI i - 1 + 1 = nI (i + 1) - 1 := by decide
      have no : ¬ sp_lik G l (nI i - 1) = true → ∀ z : Option Value, jx_W 5 jk_X0_likely 70 [some (.ref 6), some (.int (nI l)), some (.int (gco G l)), some (.int (jb_set (fun j => decide (gco G j = gco G l)) (glg G))), some (.int (nI (sp_cnt (fun k => sp_lik G l (nI k - 1)) i))), some (.int (nI i - 1)), z] [] (jL v a w) (jx_is (some (.int (nI (sp_likely G l)))) (jL v a w)) := by
        intro hno z
        refine jx_steps 2 rfl trivial ?_
        rw [e0 i (by omega)]
        refine jx_at (ih (i + 1) (by omega) z) rfl ?_
        rw [sp_cnt, if_neg hno]
      refine jx_auto rfl trivial ?_
      refine jx_if rfl (fun c1 => absurd c1 (hw i (by omega))) (fun _ => ?_)
      refine jx_auto rfl trivial ?_
      refine jx_callE 3 rfl (by decide) (jl_pegFrom h hl) ?_
      refine jx_auto rfl trivial ?_
      cases hf : sp_ff (fun c => decide (gco G l = nI c)) 0 (gcv G) with
      | none =>
        have hout : ¬ (0 ≤ gco G l ∧ gco G l < nI (gcv G)) := by
          intro z
          obtain ⟨j, hj, e⟩ := nI_of (Int32.not_lt.mpr z.1)
          rw [e] at z
          rcases Nat.lt_or_ge j (gcv G) with q | q
          · have := sp_ff_none hf j (Nat.zero_le _) (by omega)
            simp [e] at this
          · exact absurd z.2 (nI_nlt q hj)
        refine jx_if rfl (fun _ => no (by rw [sp_lik, hf]; simp) _) (fun c1 => absurd ?_ c1)
        rw [sp_pegA, if_neg hout]
      | some c =>
        obtain ⟨-, hc, hcc⟩ := sp_ff_some hf
        have hc : c < gcv G := by omega
        have hcc : gco G l = nI c := by simpa using hcc
        have hp : sp_pegA G l (gco G l) (nI i - 1) = sp_peg G l (nI c) (nI i - 1) := by rw [hcc, sp_pegA, if_pos ⟨nI_pos' (by omega), nI_lt hc (by omega)⟩]
        have hlk : sp_lik G l (nI i - 1) = sp_taken G c (nI i - 1) (gpg G) l := by rw [sp_lik, hf]
        rw [hp]
        refine jx_if rfl (fun c1 => ?_) (fun c1 => ?_)
        · refine no (fun hz => ?_) _
          rw [hlk] at hz
          obtain ⟨p, hpp, hh⟩ := sp_taken_iff.mp hz
          exact nI_ne1 (show p < 2 ^ 31 by omega) ((sp_had_of hh).2.2.1.symm.trans c1)
        · obtain ⟨p, hpp, hpe⟩ := sp_peg_ex c1
          rw [hpe, hcc]
          refine jx_auto rfl trivial ?_
          refine jx_callE 1 rfl (by decide) (jr_at (by omega) rfl rfl) ?_
          have er := h.atReach hpp
          refine jx_auto rfl trivial ?_
          refine jx_callE 4 rfl (by decide) (jl_hadAt (co := gco G) h hc) ?_
          have eh : sp_hadN (gst G 5 (gco G)) (jp_at (a 1) (nI p)) (nI p) c (nI i - 1) (glg G) = sp_had G p c (nI i - 1) := by
            have eg : gst G 5 (gco G) = G := by
              show (G.1, jup G.2 5 (G.2 5)) = G
              have : jup G.2 5 (G.2 5) = G.2 := by
                funext j
                by_cases ej : j = 5
                · subst ej; rw [jup_s]
                · rw [jup_n _ _ ej]
              rw [this]
            rw [eg, er, sp_had]
          rw [eh]
          refine jx_auto rfl trivial ?_
          have hb : ∀ b, sp_had G p c (nI i - 1) = some b → b < 2 ^ 31 := fun b hb => by have := (sp_had_of hb).1; omega
          have nh : ∀ q, q < gpg G → sp_had G q c (nI i - 1) = some l → q = p := fun q hq hh => by
            have := (sp_had_of hh).2.2.1
            rw [hpe] at this
            exact ((nI_eq (by omega) (by omega)).mp this).symm
          refine jx_if rfl (fun c2 => ?_) (fun c2 => ?_)
          · refine jx_at (no (fun hz => ?_) (some (.int (nI p)))) rfl (by rw [hcc]) rfl rfl
            rw [hlk] at hz
            obtain ⟨q, hq, hh⟩ := sp_taken_iff.mp hz
            rw [nh q hq hh] at hh
            exact c2 ((sp_opt_eq (by omega) hb).mpr hh)
          · have c2 : sp_opt (sp_had G p c (nI i - 1)) = nI l := by simpa using c2
            have hh := (sp_opt_eq (by omega) hb).mp c2
            refine jx_steps 3 rfl trivial ?_
            rw [e0 i (by omega), nI_1]
            refine jx_at (ih (i + 1) (by omega) (some (.int (nI p)))) rfl ?_
            rw [sp_cnt, if_pos (by rw [hlk]; exact sp_taken_iff.mpr ⟨p, hpp, hh⟩), hcc]
  exact loop 3 0 (by omega) none
end
