/-! seasons, LaughDrive's side -/
abbrev jSS : Type := (Nat → Int32) × Int32 × Int64
def ss_c (G : jG) (s : Int64) : Nat := (sp_dr s (nI (gcv G))).toNatClampNeg
def ss_co1 (G : jG) (t : jSS) : Nat → Int32 := sp_after (gst G 5 t.1) (ss_c G t.2.2) (sp_dr (sd t.2.2) 3 - 1)
def ss_put (G : jG) (co : Nat → Int32) (c : Nat) : Nat → Int32 := match sp_ff (fun l => decide (co l = -1)) 0 (glg G) with
  | none => co
  | some l => uf co l (nI c)
def ss_step (G : jG) (t : jSS) : jSS := (if sp_dr (sd (sd t.2.2)) 4 = 0 then ss_put G (ss_co1 G t) (ss_c G t.2.2) else ss_co1 G t, t.2.1 + sp_gain (gst G 5 t.1) (ss_c G t.2.2) (sp_dr (sd t.2.2) 3 - 1), sd (sd (sd t.2.2)))
def ss_n (G : jG) (t : jSS) : Nat → jSS
  | 0 => t
  | n + 1 => ss_step G (ss_n G t n)
section
variable {v : Nat → Int32} {a : Nat → List Int32} {w u : Int64} {G : jG}
theorem ss_c_lt (hg : 0 < gcv G) (hg4 : gcv G ≤ 4) (s : Int64) : ss_c G s < gcv G ∧ sp_dr s (nI (gcv G)) = nI (ss_c G s) := by
  obtain ⟨j, hj, e⟩ := sp_dr_in s hg hg4
  unfold ss_c
  rw [e, nI_clamp (by omega)]
  exact ⟨hj, rfl⟩
theorem jLG_tmp (h : jLG v a G) {s P : Int32} : jLG (jup (jup v 25 s) 26 P) a G := h
theorem uf_jup {f : Nat → Int32} {l : Nat} {y : Int32} (k : Nat) : jup f l y k = uf f l y k := by
  unfold uf
  by_cases e : k = l
  · subst e; rw [jup_s, if_pos rfl]
  · rw [jup_n _ _ e, if_neg e]
theorem jl_passSeason (h : jLG v a G) (hg : 0 < gcv G) {P : Int32} {co : Nat → Int32} {sp : Int32} {s : Int64} (hP : jpk P co (glg G)) : jx_W 6 jk_X2_passSeason 0 [some (.ref 5), none, none, none, none] [] (jL (jup (jup v 25 sp) 26 P) a s) (fun r h' => r = none ∧ ∃ P', h' = jL (jup (jup v 25 (ss_step G (co, sp, s)).2.1) 26 P') a (ss_step G (co, sp, s)).2.2 ∧ jpk P' (ss_step G (co, sp, s)).1 (glg G)) := by
  have ho := h.ok
  obtain ⟨hc, ec⟩ := ss_c_lt hg ho.2.1 s
  refine jx_auto rfl trivial ?_
  rw [show jup (jup v 25 sp) 26 P 9 = nI (gcv G) from h.coverts]
  refine jx_callE 1 rfl (by decide) jl_draw ?_
  rw [ec]
  refine jx_auto rfl trivial ?_
  refine jx_callE 1 rfl (by decide) jl_draw ?_
  refine jx_auto rfl trivial ?_
  refine jx_call 5 rfl (by decide) (jl_placesAfter (jLG_tmp h) hP hc) (fun r h' hq => ?_)
  obtain ⟨P1, rfl, rfl, hP1⟩ := hq
  refine jx_auto rfl trivial ?_
  refine jx_callE 3 rfl (by decide) (jl_sportOf (jLG_tmp h) hP hP1) ?_
  have es : sp_sum (sp_hadB G co (sp_after (gst G 5 co) (ss_c G s) (sp_dr (sd s) 3 - 1))) (glg G) = sp_gain (gst G 5 co) (ss_c G s) (sp_dr (sd s) 3 - 1) := sp_sport ⟨ho.1, ho.2.1, ho.2.2.1, ho.2.2.2⟩ hc
  rw [es]
  refine jx_auto rfl trivial ?_
  refine jx_callE 2 rfl (by decide) (jl_leastInNone (v := jup (jup v 25 (sp + sp_gain (gst G 5 co) (ss_c G s) (sp_dr (sd s) 3 - 1))) 26 P) (jLG_tmp h) hP1) ?_
  refine jx_auto rfl trivial ?_
  refine jx_callE 1 rfl (by decide) jl_draw ?_
  refine jx_if rfl (fun d1 => ?_) (fun d1 => ?_)
  · have hst : ss_step G (co, sp, s) = (ss_co1 G (co, sp, s), sp + sp_gain (gst G 5 co) (ss_c G s) (sp_dr (sd s) 3 - 1), sd (sd (sd s))) := by
      unfold ss_step
      rw [if_neg d1]
    rw [hst]
    refine jx_auto rfl trivial ?_
    exact jx_done rfl trivial ⟨rfl, P1, rfl, hP1⟩
  · have d1 := Decidable.not_not.mp d1
    refine jx_auto rfl trivial ?_
    cases hf : sp_ff (fun l => decide (sp_after (gst G 5 co) (ss_c G s) (sp_dr (sd s) 3 - 1) l = -1)) 0 (glg G) with
    | none =>
      have hst : ss_step G (co, sp, s) = (ss_co1 G (co, sp, s), sp + sp_gain (gst G 5 co) (ss_c G s) (sp_dr (sd s) 3 - 1), sd (sd (sd s))) := by
        unfold ss_step ss_put
        rw [if_pos d1]
        show ((match sp_ff (fun l => decide (sp_after (gst G 5 co) (ss_c G s) (sp_dr (sd s) 3 - 1) l = -1)) 0 (glg G) with | none => _ | some l => _), _, _) = _
        rw [hf]
      rw [hst]
      refine jx_if rfl (fun _ => ?_) (fun c2 => absurd rfl c2)
      refine jx_auto rfl trivial ?_
      exact jx_done rfl trivial ⟨rfl, P1, rfl, hP1⟩
    | some b =>
      obtain ⟨-, hb, -⟩ := sp_ff_some hf
      have hb9 : ¬ sp_opt (some b) = -1 := nI_ne1 (by omega)
      have hst : ss_step G (co, sp, s) = (uf (ss_co1 G (co, sp, s)) b (nI (ss_c G s)), sp + sp_gain (gst G 5 co) (ss_c G s) (sp_dr (sd s) 3 - 1), sd (sd (sd s))) := by
        unfold ss_step ss_put
        rw [if_pos d1]
        show ((match sp_ff (fun l => decide (sp_after (gst G 5 co) (ss_c G s) (sp_dr (sd s) 3 - 1) l = -1)) 0 (glg G) with | none => _ | some l => _), _, _) = _
        rw [hf]
      rw [hst]
      refine jx_if rfl (fun c2 => absurd c2 hb9) (fun _ => ?_)
      refine jx_auto rfl trivial ?_
      refine jx_callE 1 rfl (by decide) (jl_withPlace (l := b)) ?_
      have hP2 : jpk (jp_wp P1 b (nI (ss_c G s))) (uf (ss_co1 G (co, sp, s)) b (nI (ss_c G s))) (glg G) := jpk_congr (jpk_set hP1 ho.2.2.1 (l := b) (by omega) (c1 := ss_c G s + 1) (by omega) (c := nI (ss_c G s)) (nI_1 _)) (fun k _ => uf_jup k)
      refine jx_auto rfl trivial ?_
      exact jx_done rfl trivial ⟨rfl, _, rfl, hP2⟩
theorem jl_pass (h : jLG v a G) (hg : 0 < gcv G) {n : Nat} (hn : n < 2 ^ 31) {y : Int32} : jx_W 7 jk_X2_passSeasons 0 [some (.ref 5), some (.int (nI n)), some (.int y), none] [] (jL v a w) (fun r h' => r = none ∧ ∃ P, h' = jL (jup (jup v 25 (ss_n G (gco G, 0, y.toInt64) n).2.1) 26 P) a (ss_n G (gco G, 0, y.toInt64) n).2.2 ∧ jpk P (ss_n G (gco G, 0, y.toInt64) n).1 (glg G)) := by
  have loop : ∀ k i, i + k = n → ∀ (P : Int32), jpk P (ss_n G (gco G, 0, y.toInt64) i).1 (glg G) → jx_W 7 jk_X2_passSeasons 24 [some (.ref 5), some (.int (nI n)), some (.int y), some (.int (nI i))] [] (jL (jup (jup v 25 (ss_n G (gco G, 0, y.toInt64) i).2.1) 26 P) a (ss_n G (gco G, 0, y.toInt64) i).2.2) (fun r h' => r = none ∧ ∃ P, h' = jL (jup (jup v 25 (ss_n G (gco G, 0, y.toInt64) n).2.1) 26 P) a (ss_n G (gco G, 0, y.toInt64) n).2.2 ∧ jpk P (ss_n G (gco G, 0, y.toInt64) n).1 (glg G)) := by
    intro k
    induction k with
    | zero =>
      intro i hi P hP
      have e : i = n := by omega
      subst e
      refine jx_auto rfl trivial ?_
      refine jx_if rfl (fun _ => ?_) (fun c1 => absurd (Int32.le_refl _) c1)
      refine jx_auto rfl trivial ?_
      exact jx_done rfl trivial ⟨rfl, P, rfl, hP⟩
    | succ k ih =>
      intro i hi P hP
      have hlt : ¬ nI n ≤ nI i := nI_ge (by omega) hn
      have hs := ih (i + 1) (by omega)
      rw [show ss_n G (gco G, 0, y.toInt64) (i + 1) = ss_step G (ss_n G (gco G, 0, y.toInt64) i) from rfl] at hs
      generalize ss_n G (gco G, 0, y.toInt64) i = T at hP hs ⊢
      obtain ⟨co, sp, s⟩ := T
      dsimp only at hP ⊢
      refine jx_auto rfl trivial ?_
      refine jx_if rfl (fun c1 => absurd c1 hlt) (fun _ => ?_)
      refine jx_auto rfl trivial ?_
      refine jx_call 6 rfl (by decide) (jl_passSeason h hg hP) (fun r h' hq => ?_)
      obtain ⟨rfl, P1, rfl, hP1⟩ := hq
      refine jx_steps 2 rfl trivial ?_
      rw [nI_1]
      exact hs P1 hP1
  refine jx_steps 14 rfl trivial ?_
  exact jx_at (loop n 0 (by omega) (v 11) h.places)
end
