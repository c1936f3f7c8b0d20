/-! put and see, the rest -/
section
variable {v : Nat → Int32} {a : Nat → List Int32} {w u : Int64} {G : jG}
theorem jLG_put (h : jLG v a G) {l c : Nat} (hl : l < glg G) (hc : c < gcv G) : jLG (jup v 11 (jp_wp (v 11) l (nI c))) a (gst G 5 (uf (gco G) l (nI c))) := by
  have ho := h.ok
  obtain ⟨n0, hl0, h0, h1, h2, h3, h4, h5, h6, h7, hp, hr⟩ := h
  refine ⟨n0, hl0, h0, h1, h2, h3, h4, h5, h6, h7, ?_, hr⟩
  refine jpk_congr (jpk_set hp ho.2.2.1 (l := l) (by omega) (c1 := c + 1) (by omega) (c := nI c) (nI_1 c)) (fun k _ => ?_)
  show jup (gco G) l (nI c) k = uf (gco G) l (nI c) k
  unfold uf
  by_cases e : k = l
  · subst e; rw [jup_s, if_pos rfl]
  · rw [jup_n _ _ e, if_neg e]
theorem jl_put (h : jLG v a G) {x y : Int32} : jx_W 4 jk_X6_put 0 [some (.ref 0), some (.int x), some (.int y), none] [] (jL v a w) (jLz v a w (an_put G x y) (up_put G x y)) := by
  have ho := h.ok
  refine jx_auto rfl trivial ?_
  refine jx_callE 1 rfl (by decide) (jl_hasLaugh h) ?_
  unfold an_put up_put
  refine jx_if rfl (fun c1 => ?_) (fun c1 => ?_)
  · rw [if_pos (Or.inl c1), if_pos (Or.inl c1)]
    refine jx_auto rfl trivial ?_
    exact jx_done rfl trivial ⟨v, a, rfl, rfl, h, fun _ _ => rfl, fun _ _ => rfl⟩
  · refine jx_auto rfl trivial ?_
    refine jx_callE 1 rfl (by decide) (jl_hasCovert h) ?_
    refine jx_if rfl (fun c2 => ?_) (fun c2 => ?_)
    · rw [if_neg (by rintro (z | z); exact c1 z; exact c2 z), if_neg (by rintro (z | z); exact c1 z; exact c2 z)]
      obtain ⟨p, hp, rfl⟩ := sp_has_ex c1
      obtain ⟨q, hq, rfl⟩ := sp_has_ex c2
      rw [nI_clamp (by omega)]
      refine jx_auto rfl trivial ?_
      refine jx_callE 2 rfl (by decide) (jl_placeOf h hp) ?_
      refine jx_auto rfl trivial ?_
      refine jx_callE 1 rfl (by decide) jl_withPlace ?_
      refine jx_auto rfl trivial ?_
      exact jx_done rfl trivial ⟨jup v 11 (jp_wp (v 11) p (nI q)), a, rfl, rfl, jLG_put h hp hq, fun j hj => jup_n _ _ (by omega), fun _ _ => rfl⟩
    · have c2 := Decidable.not_not.mp c2
      rw [if_pos (Or.inr c2), if_pos (Or.inr c2)]
      refine jx_auto rfl trivial ?_
      exact jx_done rfl trivial ⟨v, a, rfl, rfl, h, fun _ _ => rfl, fun _ _ => rfl⟩
theorem jl_see (h : jLG v a G) {x y z : Int32} : jx_W 4 jk_X6_see 0 [some (.ref 0), some (.int x), some (.int y), some (.int z)] [] (jL v a w) (jLz v a w (an_see G x y z) (up_see G x y z)) := by
  have ho := h.ok
  have hn := h.lens
  unfold an_see up_see
  have bad : (sp_has (glg G) x = 0 ∨ (¬ z = -1 ∧ sp_has (gpg G) z = 0)) → jx_W 4 jk_X6_see 27 [some (.ref 0), some (.int x), some (.int y), some (.int z)] [] (jL v a w) (jLz v a w (if sp_has (glg G) x = 0 ∨ (¬ z = -1 ∧ sp_has (gpg G) z = 0) then -101 else if -1 ≤ y ∧ y ≤ 1 then (if gsn G < 6 then nI (gsn G + 1) else -104) else -102) (if sp_has (glg G) x = 0 ∨ (¬ z = -1 ∧ sp_has (gpg G) z = 0) then G else if -1 ≤ y ∧ y ≤ 1 then (if gsn G < 6 then gse G x y z else G) else G)) := by
    intro e
    rw [if_pos e, if_pos e]
    refine jx_auto rfl trivial ?_
    exact jx_done rfl trivial ⟨v, a, rfl, rfl, h, fun _ _ => rfl, fun _ _ => rfl⟩
  have good : ¬ (sp_has (glg G) x = 0 ∨ (¬ z = -1 ∧ sp_has (gpg G) z = 0)) → jx_W 4 jk_X6_see 30 [some (.ref 0), some (.int x), some (.int y), some (.int z)] [] (jL v a w) (jLz v a w (if sp_has (glg G) x = 0 ∨ (¬ z = -1 ∧ sp_has (gpg G) z = 0) then -101 else if -1 ≤ y ∧ y ≤ 1 then (if gsn G < 6 then nI (gsn G + 1) else -104) else -102) (if sp_has (glg G) x = 0 ∨ (¬ z = -1 ∧ sp_has (gpg G) z = 0) then G else if -1 ≤ y ∧ y ≤ 1 then (if gsn G < 6 then gse G x y z else G) else G)) := by
    intro e
    rw [if_neg e, if_neg e]
    refine jx_auto rfl trivial ?_
    refine jx_callE 1 rfl (by decide) jl_isWind ?_
    by_cases hw : -1 ≤ y ∧ y ≤ 1
    · rw [if_pos hw, if_pos hw, if_pos hw]
      refine jx_if rfl (fun _ => ?_) (fun c2 => absurd (show ¬ (1 : Int32) = 0 by decide) c2)
      refine jx_auto rfl trivial ?_
      refine jx_callE 1 rfl (by decide) jl_seenFull ?_
      have hs : v 14 = nI (gsn G) := h.seen
      rw [hs]
      by_cases h6 : gsn G < 6
      · have e6 : nI (gsn G) < 6 := nI_lt (b := 6) h6 (by decide)
        rw [if_pos e6, if_pos h6, if_pos h6]
        refine jx_if rfl (fun _ => ?_) (fun c3 => absurd rfl c3)
        refine jx_auto rfl trivial ?_
        refine jx_callE 2 rfl (by decide) (jl_seenAdd h6 hs (by omega) (by omega) (by omega)) ?_
        refine jx_auto rfl trivial ?_
        exact jx_done rfl trivial ⟨_, _, rfl, rfl, jLG_see h h6, fun j hj => jup_n _ _ (by omega), fun j hj => by rw [jup_n _ _ (by omega), jup_n _ _ (by omega), jup_n _ _ (by omega)]⟩
      · have e6 : ¬ nI (gsn G) < 6 := nI_nlt (b := 6) (by omega) (by omega)
        rw [if_neg e6, if_neg h6, if_neg h6]
        refine jx_if rfl (fun c3 => absurd c3 (by decide)) (fun _ => ?_)
        refine jx_auto rfl trivial ?_
        exact jx_done rfl trivial ⟨v, a, rfl, rfl, h, fun _ _ => rfl, fun _ _ => rfl⟩
    · rw [if_neg hw, if_neg hw, if_neg hw]
      refine jx_if rfl (fun c2 => absurd rfl c2) (fun _ => ?_)
      refine jx_auto rfl trivial ?_
      exact jx_done rfl trivial ⟨v, a, rfl, rfl, h, fun _ _ => rfl, fun _ _ => rfl⟩
  refine jx_auto rfl trivial ?_
  refine jx_callE 1 rfl (by decide) (jl_hasLaugh h) ?_
  refine jx_if rfl (fun c1 => bad (Or.inl c1)) (fun c1 => ?_)
  refine jx_auto rfl trivial ?_
  refine jx_if rfl (fun c2 => good (by rintro (q | q); exact c1 q; exact q.1 c2)) (fun c2 => ?_)
  refine jx_auto rfl trivial ?_
  refine jx_callE 1 rfl (by decide) (jl_hasPeg h) ?_
  refine jx_if rfl (fun c3 => good (by rintro (q | q); exact c1 q; exact c3 q.2)) (fun c3 => bad (Or.inr ⟨c2, Decidable.not_not.mp c3⟩))
theorem jm_see (h : jMG v a G) (hs0 : jMl a) {x y z : Int32} : jx_W 4 jk_X7_see 0 [some (.ref 0), some (.int x), some (.int y), some (.int z)] [] (jM v a w u) (jMz v a w u (an_see G x y z) (up_see G x y z)) := by
  have ho := h.ok
  have hn := h.lens
  unfold an_see up_see
  have bad : (sp_has (glg G) x = 0 ∨ (¬ z = -1 ∧ sp_has (gpg G) z = 0)) → jx_W 4 jk_X7_see 21 [some (.ref 0), some (.int x), some (.int y), some (.int z)] [] (jM v a w u) (jMz v a w u (if sp_has (glg G) x = 0 ∨ (¬ z = -1 ∧ sp_has (gpg G) z = 0) then -101 else if -1 ≤ y ∧ y ≤ 1 then (if gsn G < 6 then nI (gsn G + 1) else -104) else -102) (if sp_has (glg G) x = 0 ∨ (¬ z = -1 ∧ sp_has (gpg G) z = 0) then G else if -1 ≤ y ∧ y ≤ 1 then (if gsn G < 6 then gse G x y z else G) else G)) := by
    intro e
    rw [if_pos e, if_pos e]
    refine jx_auto rfl trivial ?_
    exact jx_done rfl trivial ⟨v, a, rfl, rfl, h, fun _ _ => rfl, fun _ _ => rfl, hs0⟩
  have good : ¬ (sp_has (glg G) x = 0 ∨ (¬ z = -1 ∧ sp_has (gpg G) z = 0)) → jx_W 4 jk_X7_see 24 [some (.ref 0), some (.int x), some (.int y), some (.int z)] [] (jM v a w u) (jMz v a w u (if sp_has (glg G) x = 0 ∨ (¬ z = -1 ∧ sp_has (gpg G) z = 0) then -101 else if -1 ≤ y ∧ y ≤ 1 then (if gsn G < 6 then nI (gsn G + 1) else -104) else -102) (if sp_has (glg G) x = 0 ∨ (¬ z = -1 ∧ sp_has (gpg G) z = 0) then G else if -1 ≤ y ∧ y ≤ 1 then (if gsn G < 6 then gse G x y z else G) else G)) := by
    intro e
    rw [if_neg e, if_neg e]
    refine jx_auto rfl trivial ?_
    refine jx_callE 2 rfl (by decide) jm_isWind ?_
    by_cases hw : -1 ≤ y ∧ y ≤ 1
    · rw [if_pos hw, if_pos hw, if_pos hw]
      refine jx_if rfl (fun _ => ?_) (fun c2 => absurd (show ¬ (1 : Int32) = 0 by decide) c2)
      refine jx_auto rfl trivial ?_
      have hs : v 7 = nI (gsn G) := h.seen
      rw [hs]
      by_cases h6 : gsn G < 6
      · have e6 : ¬ nI (gsn G) = 6 := fun q => by have := (nI_eq (a := gsn G) (b := 6) (by omega) (by decide)).mp q; omega
        rw [if_pos h6, if_pos h6]
        refine jx_if rfl (fun _ => ?_) (fun c3 => absurd e6 c3)
        have w0 : vp_in (v 7) 6 := by rw [hs]; exact nI_in h6 (by decide)
        refine jx_auto rfl ⟨by show vp_in (v 7) (a 8).length; rw [hn.2.2.2.2.2.2.2.2]; exact w0, by show vp_in (v 7) (a 7).length; rw [hn.2.2.2.2.2.2.2.1]; exact w0, by show vp_in (v 7) (a 6).length; rw [hn.2.2.2.2.2.2.1]; exact w0, trivial⟩ ?_
        rw [hs]
        dsimp only
        rw [nI_1, nI_clamp (by omega)]
        exact jx_done rfl trivial ⟨jup v 7 (nI (gsn G + 1)), jup (jup (jup a 6 ((a 6).set (gsn G) x)) 7 ((a 7).set (gsn G) y)) 8 ((a 8).set (gsn G) z), rfl, rfl, jMG_see h h6, fun j hj => jup_n _ _ (by omega), fun j hj => by rw [jup_n _ _ (by omega), jup_n _ _ (by omega), jup_n _ _ (by omega)], hs0⟩
      · have e6 : nI (gsn G) = 6 := by rw [show gsn G = 6 by omega]; rfl
        rw [if_neg h6, if_neg h6]
        refine jx_if rfl (fun c3 => absurd e6 c3) (fun _ => ?_)
        refine jx_auto rfl trivial ?_
        exact jx_done rfl trivial ⟨v, a, rfl, rfl, h, fun _ _ => rfl, fun _ _ => rfl, hs0⟩
    · rw [if_neg hw, if_neg hw, if_neg hw]
      refine jx_if rfl (fun c2 => absurd rfl c2) (fun _ => ?_)
      refine jx_auto rfl trivial ?_
      exact jx_done rfl trivial ⟨v, a, rfl, rfl, h, fun _ _ => rfl, fun _ _ => rfl, hs0⟩
  refine jx_auto rfl trivial ?_
  refine jx_callE 2 rfl (by decide) (jm_isLaugh h) ?_
  refine jx_if rfl (fun c1 => bad (Or.inl c1)) (fun c1 => ?_)
  refine jx_auto rfl trivial ?_
  refine jx_if rfl (fun c2 => good (by rintro (q | q); exact c1 q; exact q.1 c2)) (fun c2 => ?_)
  refine jx_auto rfl trivial ?_
  refine jx_callE 2 rfl (by decide) (jm_isPeg h) ?_
  refine jx_if rfl (fun c3 => good (by rintro (q | q); exact c1 q; exact c3 q.2)) (fun c3 => bad (Or.inr ⟨c2, Decidable.not_not.mp c3⟩))
end
