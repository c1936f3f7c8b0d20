/-! put, see, forget, on both sides -/
def jLz (v : Nat → Int32) (a : Nat → List Int32) (w : Int64) (r : Int32) (G : jG) : jx_Q := fun r' h' => ∃ v' a', r' = some (.int r) ∧ h' = jL v' a' w ∧ jLG v' a' G ∧ (∀ j, j < 8 ∨ 14 < j → v' j = v j) ∧ ∀ j, j = 0 ∨ 8 < j → a' j = a j
def jMz (v : Nat → Int32) (a : Nat → List Int32) (w u : Int64) (r : Int32) (G : jG) : jx_Q := fun r' h' => ∃ v' a', r' = some (.int r) ∧ h' = jM v' a' w u ∧ jMG v' a' G ∧ (∀ j, j = 0 ∨ j = 6 ∨ j = 8 ∨ 13 < j → v' j = v j) ∧ (∀ j, j = 9 ∨ 15 < j → a' j = a j) ∧ jMl a'
theorem jLq_z {v : Nat → Int32} {a : Nat → List Int32} {w : Int64} {r : Int32} {G : jG} {r' : Option Value} {h' : jx_H} (h : jLq v a w r G r' h') : jLz v a w r G r' h' := by
  obtain ⟨a', h1, h2, h3, h4⟩ := h
  exact ⟨v, a', h1, h2, h3, fun _ _ => rfl, h4⟩
theorem jMq_z {v : Nat → Int32} {a : Nat → List Int32} {w u : Int64} {r : Int32} {G : jG} {r' : Option Value} {h' : jx_H} (hs : jMl a) (h : jMq v a w u r G r' h') : jMz v a w u r G r' h' := by
  obtain ⟨a', h1, h2, h3, h4⟩ := h
  refine ⟨v, a', h1, h2, h3, fun _ _ => rfl, fun j hj => h4 j (by omega), ?_⟩
  unfold jMl at hs ⊢
  rw [h4 10 (by omega), h4 11 (by omega), h4 12 (by omega), h4 13 (by omega), h4 14 (by omega), h4 15 (by omega)]
  exact hs
theorem jMr_z {v : Nat → Int32} {a : Nat → List Int32} {w u : Int64} {r : Int32} {G : jG} {r' : Option Value} {h' : jx_H} (hg : jMG v a G) (h : jMr v a w u r r' h') : jMz v a w u r G r' h' := by
  obtain ⟨v', a', h1, h2, h3⟩ := h
  exact ⟨v', a', h1, h2, h3.game hg, fun j hj => h3.1 j (by omega), fun j hj => h3.2.1 j (by omega), h3.2.2⟩
def an_put (G : jG) (x y : Int32) : Int32 := if sp_has (glg G) x = 0 ∨ sp_has (gcv G) y = 0 then -101 else gco G x.toNatClampNeg
def up_put (G : jG) (x y : Int32) : jG := if sp_has (glg G) x = 0 ∨ sp_has (gcv G) y = 0 then G else gst G 5 (uf (gco G) x.toNatClampNeg y)
def an_see (G : jG) (x y z : Int32) : Int32 := if sp_has (glg G) x = 0 ∨ (¬ z = -1 ∧ sp_has (gpg G) z = 0) then -101 else if -1 ≤ y ∧ y ≤ 1 then (if gsn G < 6 then nI (gsn G + 1) else -104) else -102
def gse (G : jG) (x y z : Int32) : jG := (jup G.1 3 (gsn G + 1), jup (jup (jup G.2 6 (uf (gsl G) (gsn G) x)) 7 (uf (gsw G) (gsn G) y)) 8 (uf (gsp G) (gsn G) z))
def up_see (G : jG) (x y z : Int32) : jG := if sp_has (glg G) x = 0 ∨ (¬ z = -1 ∧ sp_has (gpg G) z = 0) then G else if -1 ≤ y ∧ y ≤ 1 then (if gsn G < 6 then gse G x y z else G) else G
def gfo (G : jG) : jG := (jup G.1 3 0, G.2)
section
variable {v : Nat → Int32} {a : Nat → List Int32} {w u : Int64} {G : jG}
theorem uf_get1 {l : List Int32} {f : Nat → Int32} {n : Nat} {x : Int32} (hk : n < l.length) (h : ∀ p, p < n → l.getD p 0 = f p) : ∀ p, p < n + 1 → (l.set n x).getD p 0 = uf f n x p := by
  intro p hp
  unfold uf
  by_cases e : p = n
  · subst e; rw [jl_getset hk, if_pos rfl]
  · rw [jl_getne e, if_neg e, h p (by omega)]
theorem jLG_see (h : jLG v a G) (hn : gsn G < 6) {x y z : Int32} : jLG (jup v 14 (nI (gsn G + 1))) (jup (jup (jup a 6 ((a 6).set (gsn G) x)) 7 ((a 7).set (gsn G) y)) 8 ((a 8).set (gsn G) z)) (gse G x y z) := by
  obtain ⟨⟨p1, p2, p3, p4, p5⟩, ⟨l0, l1, l2, l3, l4, l5, l6, l7⟩, h0, h1, h2, h3, h4, h5, h6, h7, hr⟩ := h
  exact ⟨⟨p1, p2, p3, rfl, p5.1, p5.2.1, p5.2.2.1, hn⟩, ⟨l0, l1, l2, l3, l4, List.length_set.trans l5, List.length_set.trans l6, List.length_set.trans l7⟩, h0, h1, h2, h3, h4, uf_get1 (Nat.lt_of_lt_of_eq hn l5.symm) h5, uf_get1 (Nat.lt_of_lt_of_eq hn l6.symm) h6, uf_get1 (Nat.lt_of_lt_of_eq hn l7.symm) h7, hr⟩
theorem jMG_see (h : jMG v a G) (hn : gsn G < 6) {x y z : Int32} : jMG (jup v 7 (nI (gsn G + 1))) (jup (jup (jup a 6 ((a 6).set (gsn G) x)) 7 ((a 7).set (gsn G) y)) 8 ((a 8).set (gsn G) z)) (gse G x y z) := by
  obtain ⟨⟨p1, p2, p3, p4, p5⟩, ⟨l0, l1, l2, l3, l4, l5, l6, l7, l8⟩, h0, h1, h2, h3, h4, h5, h6, h7, h8, hr⟩ := h
  exact ⟨⟨p1, p2, p3, rfl, p5.1, p5.2.1, p5.2.2.1, hn⟩, ⟨l0, l1, l2, l3, l4, l5, List.length_set.trans l6, List.length_set.trans l7, List.length_set.trans l8⟩, h0, h1, h2, h3, h4, h5, uf_get1 (Nat.lt_of_lt_of_eq hn l6.symm) h6, uf_get1 (Nat.lt_of_lt_of_eq hn l7.symm) h7, uf_get1 (Nat.lt_of_lt_of_eq hn l8.symm) h8, hr⟩
theorem jLG_forget (h : jLG v a G) : jLG (jup v 14 0) a (gfo G) := by
  obtain ⟨⟨p1, p2, p3, p4, p5⟩, hl, h0, h1, h2, h3, h4, h5, h6, h7, hr⟩ := h
  exact ⟨⟨p1, p2, p3, rfl, p5.1, p5.2.1, p5.2.2.1, Nat.zero_le _⟩, hl, h0, h1, h2, h3, h4, fun p hp => absurd hp (Nat.not_lt_zero _), fun p hp => absurd hp (Nat.not_lt_zero _), fun p hp => absurd hp (Nat.not_lt_zero _), hr⟩
theorem jMG_forget (h : jMG v a G) : jMG (jup v 7 0) a (gfo G) := by
  obtain ⟨⟨p1, p2, p3, p4, p5⟩, hl, h0, h1, h2, h3, h4, h5, h6, h7, h8, hr⟩ := h
  exact ⟨⟨p1, p2, p3, rfl, p5.1, p5.2.1, p5.2.2.1, Nat.zero_le _⟩, hl, h0, h1, h2, h3, h4, h5, fun p hp => absurd hp (Nat.not_lt_zero _), fun p hp => absurd hp (Nat.not_lt_zero _), fun p hp => absurd hp (Nat.not_lt_zero _), hr⟩
theorem jl_forget (h : jLG v a G) : jx_W 3 jk_X6_forget 0 [some (.ref 0)] [] (jL v a w) (jLz v a w (nI (gsn G)) (gfo G)) := by
  refine jx_auto rfl trivial ?_
  refine jx_callE 1 rfl (by decide) jl_seenClear ?_
  refine jx_auto rfl trivial ?_
  refine jx_done rfl trivial ⟨_, a, ?_, rfl, jLG_forget h, fun j hj => jup_n _ _ (by omega), fun _ _ => rfl⟩
  rw [show v 14 = nI (gsn G) from h.seen]
theorem jm_forget (h : jMG v a G) (hs : jMl a) : jx_W 3 jk_X7_forget 0 [some (.ref 0), none] [] (jM v a w u) (jMz v a w u (nI (gsn G)) (gfo G)) := by
  refine jx_auto rfl trivial ?_
  refine jx_done rfl trivial ⟨jup v 7 0, a, ?_, rfl, jMG_forget h, fun j hj => jup_n _ _ (by omega), fun _ _ => rfl, hs⟩
  rw [h.seen]
theorem jm_put (h : jMG v a G) (hs : jMl a) {x y : Int32} : jx_W 4 jk_X7_put 0 [some (.ref 0), some (.int x), some (.int y), none] [] (jM v a w u) (jMz v a w u (an_put G x y) (up_put G x y)) := by
  have ho := h.ok
  have hn := h.lens
  refine jx_auto rfl trivial ?_
  refine jx_callE 2 rfl (by decide) (jm_isLaugh h) ?_
  unfold an_put up_put
  refine jx_if rfl (fun c1 => ?_) (fun c1 => ?_)
  · rw [if_pos (Or.inl c1), if_pos (Or.inl c1)]
    refine jx_auto rfl trivial ?_
    exact jx_done rfl trivial ⟨v, a, rfl, rfl, h, fun _ _ => rfl, fun _ _ => rfl, hs⟩
  · refine jx_auto rfl trivial ?_
    refine jx_callE 2 rfl (by decide) (jm_isCovert h) ?_
    refine jx_if rfl (fun c2 => ?_) (fun c2 => ?_)
    · rw [if_neg (by rintro (z | z); exact c1 z; exact c2 z), if_neg (by rintro (z | z); exact c1 z; exact c2 z)]
      obtain ⟨p, hp, rfl⟩ := sp_has_ex c1
      refine jx_auto rfl ⟨nI_in (by omega) (by omega), nI_in (by omega) (by omega), trivial⟩ ?_
      rw [nI_clamp (by omega)]
      refine jx_done rfl trivial ⟨v, jup a 4 ((a 4).set p y), ?_, rfl, jMG_put h hp, fun _ _ => rfl, fun j hj => jup_n _ _ (by omega), hs⟩
      rw [h.co hp]
    · have c2 := Decidable.not_not.mp c2
      rw [if_pos (Or.inr c2), if_pos (Or.inr c2)]
      refine jx_auto rfl trivial ?_
      exact jx_done rfl trivial ⟨v, a, rfl, rfl, h, fun _ _ => rfl, fun _ _ => rfl, hs⟩
end
