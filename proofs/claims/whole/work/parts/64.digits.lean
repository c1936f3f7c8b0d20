/-! digits changed: feed, arm, rear, on both sides -/
def uf (f : Nat → Int32) (l : Nat) (y : Int32) : Nat → Int32 := fun k => if k = l then y else f k
def an_dig (n : Nat) (f : Nat → Int32) (x k : Int32) : Int32 := if sp_has n x = 0 then -101 else if 0 ≤ k ∧ k ≤ 9 then f x.toNatClampNeg else -102
def up_dig (G : jG) (row n : Nat) (x k : Int32) : jG := if sp_has n x = 0 then G else if 0 ≤ k ∧ k ≤ 9 then gst G row (uf (G.2 row) x.toNatClampNeg k) else G
/-- LaughDrive's answer, and its world behind: the moor's rows alone have changed -/
def jLq (v : Nat → Int32) (a : Nat → List Int32) (w : Int64) (r : Int32) (G : jG) : jx_Q := fun r' h' => ∃ a', r' = some (.int r) ∧ h' = jL v a' w ∧ jLG v a' G ∧ ∀ j, j = 0 ∨ 8 < j → a' j = a j
def jMq (v : Nat → Int32) (a : Nat → List Int32) (w u : Int64) (r : Int32) (G : jG) : jx_Q := fun r' h' => ∃ a', r' = some (.int r) ∧ h' = jM v a' w u ∧ jMG v a' G ∧ ∀ j, 8 < j → a' j = a j
section
variable {v : Nat → Int32} {a : Nat → List Int32} {w u : Int64} {G : jG}
theorem uf_get {l : List Int32} {f : Nat → Int32} {n k : Nat} {x : Int32} (hk : k < l.length) (h : ∀ p, p < n → l.getD p 0 = f p) : ∀ p, p < n → (l.set k x).getD p 0 = uf f k x p := by
  intro p hp
  unfold uf
  by_cases e : p = k
  · subst e; rw [jl_getset hk, if_pos rfl]
  · rw [jl_getne e, if_neg e, h p hp]
theorem jLG_feed (h : jLG v a G) {k : Nat} {x : Int32} (hk : k < gcv G) : jLG v (jup a 3 ((a 3).set k x)) (gst G 2 (uf (gfe G) k x)) := by
  have ho := h.ok
  obtain ⟨n0, ⟨l0, l1, l2, l3, l4, l5, l6, l7⟩, h0, h1, h2, h3, h4, h5, h6, h7, hr⟩ := h
  exact ⟨n0, ⟨l0, l1, (List.length_set.trans l2), l3, l4, l5, l6, l7⟩, h0, h1, uf_get (Nat.lt_of_lt_of_eq (show k < 4 by omega) l2.symm) h2, h3, h4, h5, h6, h7, hr⟩

theorem jLG_arm (h : jLG v a G) {k : Nat} {x : Int32} (hk : k < gpg G) : jLG v (jup a 1 ((a 1).set k x)) (gst G 0 (uf (grc G) k x)) := by
  have ho := h.ok
  obtain ⟨n0, ⟨l0, l1, l2, l3, l4, l5, l6, l7⟩, h0, h1, h2, h3, h4, h5, h6, h7, hr⟩ := h
  exact ⟨n0, ⟨(List.length_set.trans l0), l1, l2, l3, l4, l5, l6, l7⟩, uf_get (Nat.lt_of_lt_of_eq (show k < 6 by omega) l0.symm) h0, h1, h2, h3, h4, h5, h6, h7, hr⟩

theorem jLG_rear (h : jLG v a G) {k : Nat} {x : Int32} (hk : k < glg G) : jLG v (jup a 5 ((a 5).set k x)) (gst G 4 (uf (ghi G) k x)) := by
  have ho := h.ok
  obtain ⟨n0, ⟨l0, l1, l2, l3, l4, l5, l6, l7⟩, h0, h1, h2, h3, h4, h5, h6, h7, hr⟩ := h
  exact ⟨n0, ⟨l0, l1, l2, l3, (List.length_set.trans l4), l5, l6, l7⟩, h0, h1, h2, h3, uf_get (Nat.lt_of_lt_of_eq (show k < 6 by omega) l4.symm) h4, h5, h6, h7, hr⟩

theorem jMG_feed (h : jMG v a G) {k : Nat} {x : Int32} (hk : k < gcv G) : jMG v (jup a 2 ((a 2).set k x)) (gst G 2 (uf (gfe G) k x)) := by
  have ho := h.ok
  obtain ⟨n0, ⟨l0, l1, l2, l3, l4, l5, l6, l7, l8⟩, h0, h1, h2, h3, h4, h5, h6, h7, h8, hr⟩ := h
  exact ⟨n0, ⟨l0, l1, (List.length_set.trans l2), l3, l4, l5, l6, l7, l8⟩, h0, h1, uf_get (Nat.lt_of_lt_of_eq (show k < 4 by omega) l2.symm) h2, h3, h4, h5, h6, h7, h8, hr⟩

theorem jMG_arm (h : jMG v a G) {k : Nat} {x : Int32} (hk : k < gpg G) : jMG v (jup a 0 ((a 0).set k x)) (gst G 0 (uf (grc G) k x)) := by
  have ho := h.ok
  obtain ⟨n0, ⟨l0, l1, l2, l3, l4, l5, l6, l7, l8⟩, h0, h1, h2, h3, h4, h5, h6, h7, h8, hr⟩ := h
  exact ⟨n0, ⟨(List.length_set.trans l0), l1, l2, l3, l4, l5, l6, l7, l8⟩, uf_get (Nat.lt_of_lt_of_eq (show k < 6 by omega) l0.symm) h0, h1, h2, h3, h4, h5, h6, h7, h8, hr⟩

theorem jMG_rear (h : jMG v a G) {k : Nat} {x : Int32} (hk : k < glg G) : jMG v (jup a 5 ((a 5).set k x)) (gst G 4 (uf (ghi G) k x)) := by
  have ho := h.ok
  obtain ⟨n0, ⟨l0, l1, l2, l3, l4, l5, l6, l7, l8⟩, h0, h1, h2, h3, h4, h5, h6, h7, h8, hr⟩ := h
  exact ⟨n0, ⟨l0, l1, l2, l3, l4, (List.length_set.trans l5), l6, l7, l8⟩, h0, h1, h2, h3, h4, uf_get (Nat.lt_of_lt_of_eq (show k < 6 by omega) l5.symm) h5, h6, h7, h8, hr⟩

theorem jMG_put (h : jMG v a G) {k : Nat} {x : Int32} (hk : k < glg G) : jMG v (jup a 4 ((a 4).set k x)) (gst G 5 (uf (gco G) k x)) := by
  have ho := h.ok
  obtain ⟨n0, ⟨l0, l1, l2, l3, l4, l5, l6, l7, l8⟩, h0, h1, h2, h3, h4, h5, h6, h7, h8, hr⟩ := h
  exact ⟨n0, ⟨l0, l1, l2, l3, (List.length_set.trans l4), l5, l6, l7, l8⟩, h0, h1, h2, h3, uf_get (Nat.lt_of_lt_of_eq (show k < 6 by omega) l4.symm) h4, h5, h6, h7, h8, hr⟩

theorem jl_feed (h : jLG v a G) {x k : Int32} : jx_W 4 jk_X6_feed 0 [some (.ref 0), some (.int x), some (.int k)] [] (jL v a w) (jLq v a w (an_dig (gcv G) (gfe G) x k) (up_dig G 2 (gcv G) x k)) := by
  have ho := h.ok
  have hn := h.lens
  refine jx_auto rfl trivial ?_
  refine jx_callE 1 rfl (by decide) (jl_hasCovert h) ?_
  unfold an_dig up_dig
  refine jx_if rfl (fun c1 => ?_) (fun c1 => ?_)
  · rw [if_pos c1, if_pos c1]
    refine jx_auto rfl trivial ?_
    exact jx_done rfl trivial ⟨a, rfl, rfl, h, fun _ _ => rfl⟩
  · rw [if_neg c1, if_neg c1]
    obtain ⟨p, hp, rfl⟩ := sp_has_ex c1
    rw [nI_clamp (by omega)]
    refine jx_auto rfl trivial ?_
    refine jx_callE 2 rfl (by decide) (jl_digit3 (by omega) (by omega)) ?_
    by_cases hk : 0 ≤ k ∧ k ≤ 9
    · rw [if_pos hk, if_pos hk, if_pos hk, if_pos hk]
      refine jx_auto rfl trivial ?_
      refine jx_done rfl trivial ⟨_, ?_, rfl, jLG_feed h hp, fun j hj => jup_n _ _ (by omega)⟩
      rw [h.feed hp]
    · rw [if_neg hk, if_neg hk, if_neg hk, if_neg hk]
      refine jx_auto rfl trivial ?_
      exact jx_done rfl trivial ⟨a, rfl, rfl, h, fun _ _ => rfl⟩
theorem jl_arm (h : jLG v a G) {x k : Int32} : jx_W 4 jk_X6_arm 0 [some (.ref 0), some (.int x), some (.int k)] [] (jL v a w) (jLq v a w (an_dig (gpg G) (grc G) x k) (up_dig G 0 (gpg G) x k)) := by
  have ho := h.ok
  have hn := h.lens
  refine jx_auto rfl trivial ?_
  refine jx_callE 1 rfl (by decide) (jl_hasPeg h) ?_
  unfold an_dig up_dig
  refine jx_if rfl (fun c1 => ?_) (fun c1 => ?_)
  · rw [if_pos c1, if_pos c1]
    refine jx_auto rfl trivial ?_
    exact jx_done rfl trivial ⟨a, rfl, rfl, h, fun _ _ => rfl⟩
  · rw [if_neg c1, if_neg c1]
    obtain ⟨p, hp, rfl⟩ := sp_has_ex c1
    rw [nI_clamp (by omega)]
    refine jx_auto rfl trivial ?_
    refine jx_callE 2 rfl (by decide) (jl_digit1 (by omega) (by omega)) ?_
    by_cases hk : 0 ≤ k ∧ k ≤ 9
    · rw [if_pos hk, if_pos hk, if_pos hk, if_pos hk]
      refine jx_auto rfl trivial ?_
      refine jx_done rfl trivial ⟨_, ?_, rfl, jLG_arm h hp, fun j hj => jup_n _ _ (by omega)⟩
      rw [h.reach hp]
    · rw [if_neg hk, if_neg hk, if_neg hk, if_neg hk]
      refine jx_auto rfl trivial ?_
      exact jx_done rfl trivial ⟨a, rfl, rfl, h, fun _ _ => rfl⟩
theorem jl_rear (h : jLG v a G) {x k : Int32} : jx_W 4 jk_X6_rear 0 [some (.ref 0), some (.int x), some (.int k)] [] (jL v a w) (jLq v a w (an_dig (glg G) (ghi G) x k) (up_dig G 4 (glg G) x k)) := by
  have ho := h.ok
  have hn := h.lens
  refine jx_auto rfl trivial ?_
  refine jx_callE 1 rfl (by decide) (jl_hasLaugh h) ?_
  unfold an_dig up_dig
  refine jx_if rfl (fun c1 => ?_) (fun c1 => ?_)
  · rw [if_pos c1, if_pos c1]
    refine jx_auto rfl trivial ?_
    exact jx_done rfl trivial ⟨a, rfl, rfl, h, fun _ _ => rfl⟩
  · rw [if_neg c1, if_neg c1]
    obtain ⟨p, hp, rfl⟩ := sp_has_ex c1
    rw [nI_clamp (by omega)]
    refine jx_auto rfl trivial ?_
    refine jx_callE 2 rfl (by decide) (jl_digit5 (by omega) (by omega)) ?_
    by_cases hk : 0 ≤ k ∧ k ≤ 9
    · rw [if_pos hk, if_pos hk, if_pos hk, if_pos hk]
      refine jx_auto rfl trivial ?_
      refine jx_done rfl trivial ⟨_, ?_, rfl, jLG_rear h hp, fun j hj => jup_n _ _ (by omega)⟩
      rw [h.high hp]
    · rw [if_neg hk, if_neg hk, if_neg hk, if_neg hk]
      refine jx_auto rfl trivial ?_
      exact jx_done rfl trivial ⟨a, rfl, rfl, h, fun _ _ => rfl⟩
theorem jm_feed (h : jMG v a G) {x k : Int32} : jx_W 4 jk_X7_feed 0 [some (.ref 0), some (.int x), some (.int k), none] [] (jM v a w u) (jMq v a w u (an_dig (gcv G) (gfe G) x k) (up_dig G 2 (gcv G) x k)) := by
  have ho := h.ok
  have hn := h.lens
  refine jx_auto rfl trivial ?_
  refine jx_callE 2 rfl (by decide) (jm_isCovert h) ?_
  unfold an_dig up_dig
  refine jx_if rfl (fun c1 => ?_) (fun c1 => ?_)
  · rw [if_neg c1, if_neg c1]
    obtain ⟨p, hp, rfl⟩ := sp_has_ex c1
    rw [nI_clamp (by omega)]
    refine jx_auto rfl trivial ?_
    refine jx_callE 1 rfl (by decide) jm_within ?_
    by_cases hk : 0 ≤ k ∧ k ≤ 9
    · rw [if_pos hk, if_pos hk, if_pos hk]
      refine jx_if rfl (fun _ => ?_) (fun c2 => absurd (show ¬ (1 : Int32) = 0 by decide) c2)
      refine jx_auto rfl ⟨nI_in (by omega) (by omega), nI_in (by omega) (by omega), trivial⟩ ?_
      refine jx_done rfl trivial ⟨jup a 2 ((a 2).set p k), ?_, ?_, jMG_feed h hp, fun j hj => jup_n _ _ (by omega)⟩
      · rw [nI_clamp (by omega), h.feed hp]
      · rw [nI_clamp (by omega)]; rfl
    · rw [if_neg hk, if_neg hk, if_neg hk]
      refine jx_if rfl (fun c2 => absurd rfl c2) (fun _ => ?_)
      refine jx_auto rfl trivial ?_
      exact jx_done rfl trivial ⟨a, rfl, rfl, h, fun _ _ => rfl⟩
  · have c1 := Decidable.not_not.mp c1
    rw [if_pos c1, if_pos c1]
    refine jx_auto rfl trivial ?_
    exact jx_done rfl trivial ⟨a, rfl, rfl, h, fun _ _ => rfl⟩
theorem jm_arm (h : jMG v a G) {x k : Int32} : jx_W 4 jk_X7_arm 0 [some (.ref 0), some (.int x), some (.int k), none] [] (jM v a w u) (jMq v a w u (an_dig (gpg G) (grc G) x k) (up_dig G 0 (gpg G) x k)) := by
  have ho := h.ok
  have hn := h.lens
  refine jx_auto rfl trivial ?_
  refine jx_callE 2 rfl (by decide) (jm_isPeg h) ?_
  unfold an_dig up_dig
  refine jx_if rfl (fun c1 => ?_) (fun c1 => ?_)
  · rw [if_neg c1, if_neg c1]
    obtain ⟨p, hp, rfl⟩ := sp_has_ex c1
    rw [nI_clamp (by omega)]
    refine jx_auto rfl trivial ?_
    refine jx_callE 1 rfl (by decide) jm_within ?_
    by_cases hk : 0 ≤ k ∧ k ≤ 9
    · rw [if_pos hk, if_pos hk, if_pos hk]
      refine jx_if rfl (fun _ => ?_) (fun c2 => absurd (show ¬ (1 : Int32) = 0 by decide) c2)
      refine jx_auto rfl ⟨nI_in (by omega) (by omega), nI_in (by omega) (by omega), trivial⟩ ?_
      refine jx_done rfl trivial ⟨jup a 0 ((a 0).set p k), ?_, ?_, jMG_arm h hp, fun j hj => jup_n _ _ (by omega)⟩
      · rw [nI_clamp (by omega), h.reach hp]
      · rw [nI_clamp (by omega)]; rfl
    · rw [if_neg hk, if_neg hk, if_neg hk]
      refine jx_if rfl (fun c2 => absurd rfl c2) (fun _ => ?_)
      refine jx_auto rfl trivial ?_
      exact jx_done rfl trivial ⟨a, rfl, rfl, h, fun _ _ => rfl⟩
  · have c1 := Decidable.not_not.mp c1
    rw [if_pos c1, if_pos c1]
    refine jx_auto rfl trivial ?_
    exact jx_done rfl trivial ⟨a, rfl, rfl, h, fun _ _ => rfl⟩
theorem jm_rear (h : jMG v a G) {x k : Int32} : jx_W 4 jk_X7_rear 0 [some (.ref 0), some (.int x), some (.int k), none] [] (jM v a w u) (jMq v a w u (an_dig (glg G) (ghi G) x k) (up_dig G 4 (glg G) x k)) := by
  have ho := h.ok
  have hn := h.lens
  refine jx_auto rfl trivial ?_
  refine jx_callE 2 rfl (by decide) (jm_isLaugh h) ?_
  unfold an_dig up_dig
  refine jx_if rfl (fun c1 => ?_) (fun c1 => ?_)
  · rw [if_neg c1, if_neg c1]
    obtain ⟨p, hp, rfl⟩ := sp_has_ex c1
    rw [nI_clamp (by omega)]
    refine jx_auto rfl trivial ?_
    refine jx_callE 1 rfl (by decide) jm_within ?_
    by_cases hk : 0 ≤ k ∧ k ≤ 9
    · rw [if_pos hk, if_pos hk, if_pos hk]
      refine jx_if rfl (fun _ => ?_) (fun c2 => absurd (show ¬ (1 : Int32) = 0 by decide) c2)
      refine jx_auto rfl ⟨nI_in (by omega) (by omega), nI_in (by omega) (by omega), trivial⟩ ?_
      refine jx_done rfl trivial ⟨jup a 5 ((a 5).set p k), ?_, ?_, jMG_rear h hp, fun j hj => jup_n _ _ (by omega)⟩
      · rw [nI_clamp (by omega), h.high hp]
      · rw [nI_clamp (by omega)]; rfl
    · rw [if_neg hk, if_neg hk, if_neg hk]
      refine jx_if rfl (fun c2 => absurd rfl c2) (fun _ => ?_)
      refine jx_auto rfl trivial ?_
      exact jx_done rfl trivial ⟨a, rfl, rfl, h, fun _ _ => rfl⟩
  · have c1 := Decidable.not_not.mp c1
    rw [if_pos c1, if_pos c1]
    refine jx_auto rfl trivial ?_
    exact jx_done rfl trivial ⟨a, rfl, rfl, h, fun _ _ => rfl⟩
end
