/-! the reference's peg, covert, laugh, as, over -/
/-- what may differ behind a call that only looks: what it works with -/
def jMs (v : Nat → Int32) (a : Nat → List Int32) (v' : Nat → Int32) (a' : Nat → List Int32) : Prop := (∀ j, j < 9 ∨ 13 < j → v' j = v j) ∧ (∀ j, j < 10 ∨ 15 < j → a' j = a j) ∧ jMl a'
def jMr (v : Nat → Int32) (a : Nat → List Int32) (w u : Int64) (r : Int32) : jx_Q := fun r' h' => ∃ v' a', r' = some (.int r) ∧ h' = jM v' a' w u ∧ jMs v a v' a'
/-- every laugh lies in a covert that there is, or in none -/
def gcok (G : jG) : Prop := ∀ l, l < glg G → gco G l = -1 ∨ ∃ c, c < gcv G ∧ gco G l = nI c
section
variable {v : Nat → Int32} {a : Nat → List Int32} {w u : Int64} {G : jG}
theorem jMs.rf (h : jMl a) : jMs v a v a := ⟨fun _ _ => rfl, fun _ _ => rfl, h⟩
theorem jMs.game {v' : Nat → Int32} {a' : Nat → List Int32} (hs : jMs v a v' a') (h : jMG v a G) : jMG v' a' G := by
  obtain ⟨h1, h2, -⟩ := hs
  unfold jMG at h ⊢
  rw [h1 1 (by omega), h1 2 (by omega), h1 3 (by omega), h1 7 (by omega), h1 4 (by omega), h1 5 (by omega), h2 0 (by omega), h2 1 (by omega), h2 2 (by omega), h2 3 (by omega), h2 4 (by omega), h2 5 (by omega), h2 6 (by omega), h2 7 (by omega), h2 8 (by omega)]
  exact h
theorem sp_lik_no {l : Nat} {x : Int32} (h : gco G l = -1) (hg : gcv G ≤ 4) : sp_lik G l x = false := by
  unfold sp_lik
  cases e : sp_ff (fun c => decide (gco G l = nI c)) 0 (gcv G) with
  | none => rfl
  | some c =>
    obtain ⟨-, h2, h3⟩ := sp_ff_some e
    simp only [decide_eq_true_eq] at h3
    rw [h] at h3
    exact absurd h3.symm (nI_ne1 (by omega))
theorem sp_lik_yes {l c : Nat} {x : Int32} (h : gco G l = nI c) (hc : c < gcv G) (hg : gcv G ≤ 4) : sp_lik G l x = sp_taken G c x (gpg G) l := by
  unfold sp_lik
  cases e : sp_ff (fun c => decide (gco G l = nI c)) 0 (gcv G) with
  | none =>
    have := sp_ff_none e c (Nat.zero_le _) (by omega)
    simp [h] at this
  | some b =>
    obtain ⟨-, h2, h3⟩ := sp_ff_some e
    simp only [decide_eq_true_eq] at h3
    rw [h] at h3
    have := (nI_eq (by omega) (by omega)).mp h3
    subst this; rfl
theorem sp_cnt_f {p : Nat → Bool} (h : ∀ k, p k = false) : ∀ n, sp_cnt p n = 0
  | 0 => rfl
  | n + 1 => by rw [sp_cnt, sp_cnt_f h n, h n]; rfl
theorem jm_likelyFor (h : jMG v a G) (hs : jMl a) (hco : gcok G) {l : Nat} (hl : l < glg G) : jx_W 7 jk_X7_likelyFor 0 [some (.ref 0), some (.int (nI l)), none, none] [] (jM v a w u) (jMr v a w u (nI (sp_likely G l))) := by
  have ho := h.ok
  refine jx_steps 4 rfl trivial ?_
  rcases hco l hl with hc | ⟨c, hcg, hc⟩
  · have e0 : (a 4).getD (nI l).toNatClampNeg 0 = -1 := by rw [nI_clamp (by omega), h.co hl, hc]
    have hn := h.lens
    refine jx_auto rfl trivial ?_
    refine jx_if rfl (fun c1 => absurd c1 (by decide)) (fun _ => ?_)
    refine jx_auto rfl ⟨nI_in (by omega) (by omega), trivial⟩ ?_
    refine jx_if rfl (fun _ => ?_) (fun c1 => absurd e0 c1)
    refine jx_auto rfl trivial ?_
    refine jx_done rfl trivial ⟨v, a, ?_, rfl, .rf hs⟩
    unfold sp_likely
    rw [sp_cnt_f (fun k => sp_lik_no hc (by omega))]
    rfl
  · have loop : ∀ k i, i + k = 3 → ∀ v' a', jMs v a v' a' → jx_W 7 jk_X7_likelyFor 4 [some (.ref 0), some (.int (nI l)), some (.int (nI (sp_cnt (fun k => sp_lik G l (nI k - 1)) i))), some (.int (nI i - 1))] [] (jM v' a' w u) (jMr v a w u (nI (sp_likely G l))) := by
      intro k
      induction k with
      | zero =>
        intro i hi v' a' hms
        have e : i = 3 := by omega
        subst e
        refine jx_auto rfl trivial ?_
        refine jx_if rfl (fun _ => ?_) (fun c1 => absurd (show (1 : Int32) < nI 3 - 1 by decide) c1)
        refine jx_auto rfl trivial ?_
        exact jx_done rfl trivial ⟨v', a', rfl, rfl, hms⟩
      | succ k ih =>
        intro i hi v' a' hms
        have hG := hms.game h
        have hn := hG.lens
        have hw := hms.2.2
        have hlt : ¬ (1 : Int32) < nI i - 1 := by
          have : ∀ i, i < 3 → ¬ (1 : Int32) < nI i - 1 := by decide
          exact this i (by omega)
        have e0 : (a' 4).getD (nI l).toNatClampNeg 0 = nI c := by rw [nI_clamp (by omega), hG.co hl, hc]
        refine jx_auto rfl trivial ?_
        refine jx_if rfl (fun c1 => absurd c1 hlt) (fun _ => ?_)
        refine jx_auto rfl ⟨nI_in (by omega) (by omega), trivial⟩ ?_
        rw [e0]
        refine jx_if rfl (fun c1 => absurd c1 (nI_ne1 (by omega))) (fun _ => ?_)
        refine jx_auto rfl trivial ?_
        refine jx_callE 1 rfl (by decide) (jm_save (by omega) hw.2.1) ?_
        refine jx_auto rfl ⟨nI_in (by show l < (a' 4).length; omega) (by show (a' 4).length < _; omega), trivial⟩ ?_
        have e1 : (jup a' 11 (a' 4) 4).getD (nI l).toNatClampNeg 0 = nI c := e0
        rw [e1]
        have hms1 : jMs v a v' (jup a' 11 (a' 4)) := ⟨hms.1, fun j hj => by rw [jup_n _ _ (by omega)]; exact hms.2.1 j hj, hw.1, (by show (a' 4).length = 6; omega), hw.2.2⟩
        refine jx_call 6 rfl (by decide) (jm_driven (hms1.game h) hms1.2.2 hcg) (fun r h' hq => ?_)
        obtain ⟨hb, lh, co, rfl, rfl, q1, q2, q3, q4, q5⟩ := hq
        refine jx_auto rfl trivial ?_
        refine jx_callE 1 rfl (by decide) (jm_load q4 (by show (a' 4).length = 6; omega)) ?_
        refine jx_auto rfl trivial ?_
        refine jx_callE 1 rfl (by decide) (jm_isIn q3 (show l < 6 by omega)) ?_
        have hms2 : jMs v a (jup v' 13 lh) (jup (jup (jup (jup a' 11 (a' 4)) 10 hb) 4 co) 4 (a' 4)) := by
          refine ⟨fun j hj => by rw [jup_n _ _ (by omega)]; exact hms.1 j hj, fun j hj => ?_, q1, ?_, hw.2.2⟩
          · by_cases e : j = 4
            · subst e; exact hms.2.1 4 hj
            · rw [jup_n _ _ e, jup_n _ _ e, jup_n _ _ (by omega)]
              exact hms1.2.1 j hj
          · show (a' 4).length = 6; omega
        have fin := ih (i + 1) (by omega) _ _ hms2
        rw [← nI_1, show nI i + 1 - 1 = nI i - 1 + 1 from by rw [Int32.sub_eq_add_neg, Int32.sub_eq_add_neg, Int32.add_assoc, Int32.add_assoc, Int32.add_comm 1 (-1)]] at fin
        refine jx_if rfl (fun c1 => ?_) (fun c1 => ?_)
        · have hf : sp_lik G l (nI i - 1) = false := by
            rw [sp_lik_yes hc hcg (by omega)]
            cases hz : sp_taken G c (nI i - 1) (gpg G) l with
            | false => rfl
            | true => rw [hz, if_pos rfl] at c1; cases c1
          rw [sp_cnt, hf] at fin
          refine jx_steps 5 rfl trivial ?_
          refine jx_at fin rfl ?_
          simp
        · have hf : sp_lik G l (nI i - 1) = true := by
            rw [sp_lik_yes hc hcg (by omega)]
            cases hz : sp_taken G c (nI i - 1) (gpg G) l with
            | false => rw [hz] at c1; exact absurd rfl c1
            | true => rfl
          rw [sp_cnt, hf] at fin
          refine jx_steps 6 rfl trivial ?_
          refine jx_at fin rfl ?_
          simp [← nI_1]
    have := loop 3 0 rfl v a (.rf hs)
    exact this
end
