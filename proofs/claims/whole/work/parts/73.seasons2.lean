/-! seasons, the reference's side -/
def ss_ans (G : jG) (T : jSS) (k : Int32) : Int32 := if k = 0 then T.2.1 else if k = 1 then nI (sp_cnt (fun l => decide (T.1 l ≠ -1)) (glg G)) else T.2.2.toInt32
section
variable {v : Nat → Int32} {a : Nat → List Int32} {w u : Int64} {G : jG}
theorem gst_gst {f g : Nat → Int32} : gst (gst G 5 f) 5 g = gst G 5 g := by
  have : jup (jup G.2 5 f) 5 g = jup G.2 5 g := by
    funext k
    by_cases e : k = 5
    · subst e; rw [jup_s, jup_s]
    · rw [jup_n _ _ e, jup_n _ _ e, jup_n _ _ e]
  show (G.1, jup (jup G.2 5 f) 5 g) = (G.1, jup G.2 5 g)
  rw [this]
theorem jMG_co {co f : Nat → Int32} {lc : List Int32} (h : jMG v a (gst G 5 co)) (hl : lc.length = 6) (hf : ∀ l, l < glg G → lc.getD l 0 = f l) : jMG v (jup a 4 lc) (gst G 5 f) := by
  obtain ⟨n0, ⟨l0, l1, l2, l3, l4, l5, l6, l7, l8⟩, h0, h1, h2, h3, h4, h5, h6, h7, h8, hr⟩ := h
  exact ⟨n0, ⟨l0, l1, l2, l3, hl, l5, l6, l7, l8⟩, h0, h1, h2, h3, hf, h5, h6, h7, h8, hr⟩
theorem jMG_13 {x : Int32} {hb : List Int32} {G' : jG} (h : jMG v a G') : jMG (jup v 13 x) (jup a 10 hb) G' := h
/-- what stands between two seasons -/
def ssI (v : Nat → Int32) (a : Nat → List Int32) (G : jG) (co : Nat → Int32) (v' : Nat → Int32) (a' : Nat → List Int32) : Prop := jMG v' a' (gst G 5 co) ∧ (∀ j, j ≠ 13 → v' j = v j) ∧ (∀ j, j ≠ 4 → j ≠ 10 → j ≠ 11 → a' j = a j) ∧ a' 11 = a 4 ∧ jMl a'
theorem jm_seasonsNow (h : jMG v a G) (hs : jMl a) (hg : 0 < gcv G) {n : Nat} (hn : n < 2 ^ 31) {y k : Int32} : jx_W 7 jk_X7_seasonsNow 0 [some (.ref 0), some (.int (nI n)), some (.int y), some (.int k), none, none, none, none, none] [] (jM v a w u) (fun r h' => ∃ v' a' w', r = some (.int (ss_ans G (ss_n G (gco G, 0, y.toInt64) n) k)) ∧ h' = jM v' a' w' u ∧ jMs v a v' a') := by
  have ho := h.ok
  have hn4 := h.lens
  have loop : ∀ m i, i + m = n → ∀ (v' : Nat → Int32) (a' : Nat → List Int32) (z6 z7 z8 : Option Value), ssI v a G (ss_n G (gco G, 0, y.toInt64) i).1 v' a' → jx_W 7 jk_X7_seasonsNow 16 [some (.ref 0), some (.int (nI n)), some (.int y), some (.int k), some (.int (ss_n G (gco G, 0, y.toInt64) i).2.1), some (.int (nI i)), z6, z7, z8] [] (jM v' a' (ss_n G (gco G, 0, y.toInt64) i).2.2 u) (fun r h' => ∃ v' a' w', r = some (.int (ss_ans G (ss_n G (gco G, 0, y.toInt64) n) k)) ∧ h' = jM v' a' w' u ∧ jMs v a v' a') := by
    intro m
    induction m with
    | zero =>
      intro i hi v' a' z6 z7 z8 hI
      have e : i = n := by omega
      subst e
      obtain ⟨g0, g1, g2, g3, g4⟩ := hI
      have hms : jMs v a v' (jup a' 4 (a' 11)) := by
        refine ⟨fun j hj => g1 j (by omega), fun j hj => ?_, g4⟩
        by_cases e : j = 4
        · subst e; exact g3
        · rw [jup_n _ _ e]; exact g2 j e (by omega) (by omega)
      refine jx_auto rfl trivial ?_
      refine jx_if rfl (fun _ => ?_) (fun c1 => absurd (Int32.le_refl _) c1)
      refine jx_auto rfl trivial ?_
      refine jx_callE 1 rfl (by decide) (jm_inCoverts g0) ?_
      refine jx_auto rfl trivial ?_
      refine jx_callE 1 rfl (by decide) (jm_load (by have := g0.lens; omega) g4.2.1) ?_
      refine jx_auto rfl trivial ?_
      refine jx_if rfl (fun c1 => ?_) (fun c1 => ?_)
      · refine jx_auto rfl trivial ?_
        refine jx_if rfl (fun c2 => ?_) (fun c2 => ?_)
        · refine jx_auto rfl trivial ?_
          exact jx_done rfl trivial ⟨_, _, _, by rw [ss_ans, if_neg c1, if_neg c2], rfl, hms⟩
        · refine jx_auto rfl trivial ?_
          exact jx_done rfl trivial ⟨_, _, _, by rw [ss_ans, if_neg c1, if_pos (Decidable.not_not.mp c2)]; rfl, rfl, hms⟩
      · refine jx_auto rfl trivial ?_
        exact jx_done rfl trivial ⟨_, _, _, by rw [ss_ans, if_pos (Decidable.not_not.mp c1)], rfl, hms⟩
    | succ m ih =>
      intro i hi v' a' z6 z7 z8 hI
      have hlt : ¬ nI n ≤ nI i := nI_ge (by omega) hn
      generalize hT : ss_n G (gco G, 0, y.toInt64) i = T at hI ⊢
      obtain ⟨co, sp, s⟩ := T
      have hT1 : ss_n G (gco G, 0, y.toInt64) (i + 1) = ss_step G (co, sp, s) := by rw [ss_n, hT]
      dsimp only at hI ⊢
      obtain ⟨g0, g1, g2, g3, g4⟩ := hI
      obtain ⟨hc, ec⟩ := ss_c_lt hg ho.2.1 s
      refine jx_auto rfl trivial ?_
      refine jx_if rfl (fun c1 => absurd c1 hlt) (fun _ => ?_)
      refine jx_auto rfl trivial ?_
      rw [show v' 2 = nI (gcv G) from g0.coverts]
      refine jx_callE 1 rfl (by decide) (jm_draw (nI_lt (a := 0) hg (by omega))) ?_
      rw [ec]
      refine jx_auto rfl trivial ?_
      refine jx_callE 1 rfl (by decide) (jm_draw (by decide)) ?_
      refine jx_auto rfl trivial ?_
      refine jx_call 6 rfl (by decide) (jm_driven g0 g4 (show ss_c G s < gcv (gst G 5 co) from hc)) (fun r h' hq => ?_)
      obtain ⟨hb, lh, cl, rfl, rfl, q1, q2, q3, q4, q5⟩ := hq
      have G1 : jMG (jup v' 13 lh) (jup (jup a' 10 hb) 4 cl) (gst G 5 (ss_co1 G (co, sp, s))) := jMG_co (jMG_13 g0) q4 q5
      have F1 : ssI v a G (ss_co1 G (co, sp, s)) (jup v' 13 lh) (jup (jup a' 10 hb) 4 cl) := ⟨G1, fun j hj => by rw [jup_n _ _ hj]; exact g1 j hj, fun j h4 h10 h11 => by rw [jup_n _ _ h4, jup_n _ _ h10]; exact g2 j h4 h10 h11, g3, q1, g4.2⟩
      refine jx_auto rfl trivial ?_
      refine jx_callE 1 rfl (by decide) (jm_draw (by decide)) ?_
      have tail : ∀ (fl : Int32) (hfl : fl = if sp_dr (sd (sd s)) 4 = 0 then 1 else 0), jx_W 7 jk_X7_seasonsNow 63 [some (.ref 0), some (.int (nI n)), some (.int y), some (.int k), some (.int (sp + sp_gain (gst G 5 co) (ss_c G s) (sp_dr (sd s) 3 - 1))), some (.int (nI i)), some (.int (nI (ss_c G s))), z7, z8] [.int fl] (jM (jup v' 13 lh) (jup (jup a' 10 hb) 4 cl) (sd (sd (sd s))) u) (fun r h' => ∃ v' a' w', r = some (.int (ss_ans G (ss_n G (gco G, 0, y.toInt64) n) k)) ∧ h' = jM v' a' w' u ∧ jMs v a v' a') := by
        intro fl hfl
        refine jx_auto rfl trivial ?_
        refine jx_callE 1 rfl (by decide) (jm_leastLost G1) ?_
        refine jx_auto rfl trivial ?_
        have skip : ss_step G (co, sp, s) = (ss_co1 G (co, sp, s), sp + sp_gain (gst G 5 co) (ss_c G s) (sp_dr (sd s) 3 - 1), sd (sd (sd s))) → jx_W 7 jk_X7_seasonsNow 91 [some (.ref 0), some (.int (nI n)), some (.int y), some (.int k), some (.int (sp + sp_gain (gst G 5 co) (ss_c G s) (sp_dr (sd s) 3 - 1))), some (.int (nI i)), some (.int (nI (ss_c G s))), some (.int fl), some (.int (sp_opt (sp_ff (fun l => decide (gco (gst G 5 (ss_co1 G (co, sp, s))) l = -1)) 0 (glg (gst G 5 (ss_co1 G (co, sp, s)))))))] [] (jM (jup v' 13 lh) (jup (jup a' 10 hb) 4 cl) (sd (sd (sd s))) u) (fun r h' => ∃ v' a' w', r = some (.int (ss_ans G (ss_n G (gco G, 0, y.toInt64) n) k)) ∧ h' = jM v' a' w' u ∧ jMs v a v' a') := by
          intro hst
          have z := ih (i + 1) (by omega) _ _ (some (.int (nI (ss_c G s)))) (some (.int fl)) (some (.int (sp_opt (sp_ff (fun l => decide (gco (gst G 5 (ss_co1 G (co, sp, s))) l = -1)) 0 (glg (gst G 5 (ss_co1 G (co, sp, s)))))))) (by rw [hT1, hst]; exact F1)
          rw [hT1, hst, ← nI_1] at z
          refine jx_steps 2 rfl trivial ?_
          exact jx_at z
        refine jx_if rfl (fun d1 => ?_) (fun d1 => ?_)
        · refine skip ?_
          have hd : ¬ sp_dr (sd (sd s)) 4 = 0 := fun q => by rw [hfl, if_pos q] at d1; cases d1
          unfold ss_step
          rw [if_neg hd]
        · have hd : sp_dr (sd (sd s)) 4 = 0 := by
            by_cases q : sp_dr (sd (sd s)) 4 = 0
            · exact q
            · exact absurd (by rw [hfl, if_neg q]) d1
          refine jx_auto rfl trivial ?_
          cases hf : sp_ff (fun l => decide (sp_after (gst G 5 co) (ss_c G s) (sp_dr (sd s) 3 - 1) l = -1)) 0 (glg G) with
          | none =>
            have hf' : sp_ff (fun l => decide (gco (gst G 5 (ss_co1 G (co, sp, s))) l = -1)) 0 (glg (gst G 5 (ss_co1 G (co, sp, s)))) = none := hf
            refine jx_if rfl (fun _ => skip ?_) (fun c2 => absurd (by rw [hf']; rfl) c2)
            unfold ss_step ss_put
            rw [if_pos hd]
            show ((match sp_ff (fun l => decide (sp_after (gst G 5 co) (ss_c G s) (sp_dr (sd s) 3 - 1) l = -1)) 0 (glg G) with | none => _ | some l => _), _, _) = _
            rw [hf]
          | some b =>
            have hf' : sp_ff (fun l => decide (gco (gst G 5 (ss_co1 G (co, sp, s))) l = -1)) 0 (glg (gst G 5 (ss_co1 G (co, sp, s)))) = some b := hf
            obtain ⟨-, hb2, -⟩ := sp_ff_some hf
            have hb9 : ¬ sp_opt (some b) = -1 := nI_ne1 (by omega)
            have hst : ss_step G (co, sp, s) = (uf (ss_co1 G (co, sp, s)) b (nI (ss_c G s)), sp + sp_gain (gst G 5 co) (ss_c G s) (sp_dr (sd s) 3 - 1), sd (sd (sd s))) := by
              unfold ss_step ss_put
              rw [if_pos hd]
              show ((match sp_ff (fun l => decide (sp_after (gst G 5 co) (ss_c G s) (sp_dr (sd s) 3 - 1) l = -1)) 0 (glg G) with | none => _ | some l => _), _, _) = _
              rw [hf]
            rw [hf']
            refine jx_if rfl (fun c2 => absurd c2 hb9) (fun _ => ?_)
            have iv : vp_in (nI b) cl.length := nI_in (by omega) (by omega)
            have F2 : ssI v a G (uf (ss_co1 G (co, sp, s)) b (nI (ss_c G s))) (jup v' 13 lh) (jup (jup (jup a' 10 hb) 4 cl) 4 (cl.set b (nI (ss_c G s)))) :=
              ⟨jMG_co G1 (List.length_set.trans q4) (uf_get (by omega) q5), F1.2.1, fun j h4 h10 h11 => by rw [jup_n _ _ h4]; exact F1.2.2.1 j h4 h10 h11, g3, q1, g4.2⟩
            have z := ih (i + 1) (by omega) _ _ (some (.int (nI (ss_c G s)))) (some (.int fl)) (some (.int (sp_opt (some b)))) (by rw [hT1, hst]; exact F2)
            rw [hT1, hst, ← nI_1] at z
            refine jx_steps 7 rfl ⟨iv, trivial⟩ ?_
            refine jx_at z rfl rfl rfl ?_
            show (jM _ _ _ _).set 5 (.inl (0, cl.set (nI b).toNatClampNeg (nI (ss_c G s)))) = _
            rw [nI_clamp (by omega)]
            rfl
      refine jx_if rfl (fun d1 => ?_) (fun d1 => ?_)
      · refine jx_steps 1 rfl trivial ?_
        exact jx_at (tail 0 (by rw [if_neg d1]))
      · refine jx_steps 2 rfl trivial ?_
        exact jx_at (tail 1 (by rw [if_pos (Decidable.not_not.mp d1)]))
  refine jx_auto rfl trivial ?_
  refine jx_callE 1 rfl (by decide) (jm_save (by omega) hs.2.1) ?_
  refine jx_steps 8 rfl trivial ?_
  refine jx_at (loop n 0 (by omega) v (jup a 11 (a 4)) none none none ⟨?_, fun _ _ => rfl, fun j _ _ h11 => jup_n _ _ h11, rfl, hs.1, by show (a 4).length = 6; omega, hs.2.2⟩)
  rw [show (ss_n G (gco G, 0, y.toInt64) 0).1 = gco G from rfl, gst_co]
  exact h
end
