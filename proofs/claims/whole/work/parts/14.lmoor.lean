/-! LaughDrive's side: what its numbers and rows picture of a game; the moor's methods that look alone -/
def jLG (v : Nat → Int32) (a : Nat → List Int32) (G : jG) : Prop :=
  (v vL_pegs = nI (gpg G) ∧ v vL_coverts = nI (gcv G) ∧ v vL_laughs = nI (glg G) ∧ v vL_seen = nI (gsn G) ∧ gok G) ∧
  ((a aL_reach).length = 6 ∧ (a aL_bag).length = 6 ∧ (a aL_feed).length = 4 ∧ (a aL_kind).length = 6 ∧ (a aL_high).length = 6 ∧ (a aL_seenLaugh).length = 6 ∧ (a aL_seenWind).length = 6 ∧ (a aL_seenPeg).length = 6) ∧
  (∀ p, p < gpg G → (a aL_reach).getD p 0 = grc G p) ∧ (∀ p, p < gpg G → (a aL_bag).getD p 0 = gbg G p) ∧ (∀ c, c < gcv G → (a aL_feed).getD c 0 = gfe G c) ∧
  (∀ l, l < glg G → (a aL_kind).getD l 0 = gkd G l) ∧ (∀ l, l < glg G → (a aL_high).getD l 0 = ghi G l) ∧
  (∀ k, k < gsn G → (a aL_seenLaugh).getD k 0 = gsl G k) ∧ (∀ k, k < gsn G → (a aL_seenWind).getD k 0 = gsw G k) ∧ (∀ k, k < gsn G → (a aL_seenPeg).getD k 0 = gsp G k) ∧
  jpk (v vL_places) (gco G) (glg G) ∧ v vL_sport = gno G 0 ∧ v vL_drives = gno G 1
section
variable {v : Nat → Int32} {a : Nat → List Int32} {w : Int64} {G : jG}
theorem jLG.pegs (h : jLG v a G) : v vL_pegs = nI (gpg G) := h.1.1
theorem jLG.coverts (h : jLG v a G) : v vL_coverts = nI (gcv G) := h.1.2.1
theorem jLG.laughs (h : jLG v a G) : v vL_laughs = nI (glg G) := h.1.2.2.1
theorem jLG.seen (h : jLG v a G) : v vL_seen = nI (gsn G) := h.1.2.2.2.1
theorem jLG.ok (h : jLG v a G) : gpg G ≤ 6 ∧ gcv G ≤ 4 ∧ glg G ≤ 6 ∧ gsn G ≤ 6 := h.1.2.2.2.2
theorem jLG.lens (h : jLG v a G) : (a 1).length = 6 ∧ (a 2).length = 6 ∧ (a 3).length = 4 ∧ (a 4).length = 6 ∧ (a 5).length = 6 ∧ (a 6).length = 6 ∧ (a 7).length = 6 ∧ (a 8).length = 6 := h.2.1
theorem jLG.reach (h : jLG v a G) {p : Nat} (hp : p < gpg G) : (a aL_reach).getD p 0 = grc G p := h.2.2.1 p hp
theorem jLG.bag (h : jLG v a G) {p : Nat} (hp : p < gpg G) : (a aL_bag).getD p 0 = gbg G p := h.2.2.2.1 p hp
theorem jLG.feed (h : jLG v a G) {p : Nat} (hp : p < gcv G) : (a aL_feed).getD p 0 = gfe G p := h.2.2.2.2.1 p hp
theorem jLG.kind (h : jLG v a G) {p : Nat} (hp : p < glg G) : (a aL_kind).getD p 0 = gkd G p := h.2.2.2.2.2.1 p hp
theorem jLG.high (h : jLG v a G) {p : Nat} (hp : p < glg G) : (a aL_high).getD p 0 = ghi G p := h.2.2.2.2.2.2.1 p hp
theorem jLG.sl (h : jLG v a G) {p : Nat} (hp : p < gsn G) : (a aL_seenLaugh).getD p 0 = gsl G p := h.2.2.2.2.2.2.2.1 p hp
theorem jLG.sw (h : jLG v a G) {p : Nat} (hp : p < gsn G) : (a aL_seenWind).getD p 0 = gsw G p := h.2.2.2.2.2.2.2.2.1 p hp
theorem jLG.sp (h : jLG v a G) {p : Nat} (hp : p < gsn G) : (a aL_seenPeg).getD p 0 = gsp G p := h.2.2.2.2.2.2.2.2.2.1 p hp
theorem jLG.places (h : jLG v a G) : jpk (v vL_places) (gco G) (glg G) := h.2.2.2.2.2.2.2.2.2.2.1
theorem jLG.sport (h : jLG v a G) : v vL_sport = gno G 0 := h.2.2.2.2.2.2.2.2.2.2.2.1
theorem jLG.drives (h : jLG v a G) : v vL_drives = gno G 1 := h.2.2.2.2.2.2.2.2.2.2.2.2
theorem jLG.atReach (h : jLG v a G) {k : Nat} (hk : k < gpg G) : jp_at (a 1) (nI k) = grc G k := by
  have hn := h.lens
  have ho := h.ok
  rw [jp_at_in (by omega) (by omega)]
  exact h.reach hk
theorem jLG.atBag (h : jLG v a G) {k : Nat} (hk : k < gpg G) : jp_at (a 2) (nI k) = gbg G k := by
  have hn := h.lens
  have ho := h.ok
  rw [jp_at_in (by omega) (by omega)]
  exact h.bag hk
theorem jLG.atFeed (h : jLG v a G) {k : Nat} (hk : k < gcv G) : jp_at (a 3) (nI k) = gfe G k := by
  have hn := h.lens
  have ho := h.ok
  rw [jp_at_in (by omega) (by omega)]
  exact h.feed hk
theorem jLG.atKind (h : jLG v a G) {k : Nat} (hk : k < glg G) : jp_at (a 4) (nI k) = gkd G k := by
  have hn := h.lens
  have ho := h.ok
  rw [jp_at_in (by omega) (by omega)]
  exact h.kind hk
theorem jLG.atHigh (h : jLG v a G) {k : Nat} (hk : k < glg G) : jp_at (a 5) (nI k) = ghi G k := by
  have hn := h.lens
  have ho := h.ok
  rw [jp_at_in (by omega) (by omega)]
  exact h.high hk
theorem jLG.atSl (h : jLG v a G) {k : Nat} (hk : k < gsn G) : jp_at (a 6) (nI k) = gsl G k := by
  have hn := h.lens
  have ho := h.ok
  rw [jp_at_in (by omega) (by omega)]
  exact h.sl hk
theorem jLG.atSw (h : jLG v a G) {k : Nat} (hk : k < gsn G) : jp_at (a 7) (nI k) = gsw G k := by
  have hn := h.lens
  have ho := h.ok
  rw [jp_at_in (by omega) (by omega)]
  exact h.sw hk
theorem jLG.atSp (h : jLG v a G) {k : Nat} (hk : k < gsn G) : jp_at (a 8) (nI k) = gsp G k := by
  have hn := h.lens
  have ho := h.ok
  rw [jp_at_in (by omega) (by omega)]
  exact h.sp hk
/-- is x one of 0 to n - 1 -/
def sp_has (n : Nat) (x : Int32) : Int32 := if 0 ≤ x ∧ x < nI n then 1 else 0
theorem sp_has_in {n k : Nat} (hk : k < n) (hn : n < 2 ^ 31) : sp_has n (nI k) = 1 := if_pos ⟨nI_pos' (by omega), nI_lt hk hn⟩
theorem sp_has_01 (n : Nat) (x : Int32) : sp_has n x = 0 ∨ sp_has n x = 1 := by unfold sp_has; split <;> simp
theorem sp_has_ex {n : Nat} {x : Int32} (h : ¬ sp_has n x = 0) : ∃ k, k < n ∧ x = nI k := by
  unfold sp_has at h
  split at h
  · rename_i hx
    obtain ⟨j, hj, rfl⟩ := nI_of (Int32.not_lt.mpr hx.1)
    refine ⟨j, ?_, rfl⟩
    rcases Nat.lt_or_ge j n with q | q
    · exact q
    · exact absurd hx.2 (nI_nlt q hj)
  · exact absurd rfl h
theorem jl_hasPeg (h : jLG v a G) {x : Int32} : jx_W 1 jk_X0_hasPeg 0 [some (.ref 6), some (.int x)] [] (jL v a w) (jx_is (some (.int (sp_has (gpg G) x))) (jL v a w)) := by
  rw [sp_has, ← h.pegs]
  refine jx_auto rfl trivial ?_
  refine jx_if rfl (fun c1 => ?_) (fun c1 => ?_)
  · refine jx_auto rfl trivial ?_
    refine jx_ends rfl ⟨Or.inl rfl, trivial⟩ ?_
    rw [if_neg (fun z => absurd c1 (Int32.not_lt.mpr z.1))]
  · refine jx_auto rfl trivial ?_
    refine jx_if rfl (fun c2 => ?_) (fun c2 => ?_)
    · refine jx_auto rfl trivial ?_
      refine jx_ends rfl ⟨Or.inl rfl, trivial⟩ ?_
      rw [if_neg (fun z => absurd z.2 (Int32.not_lt.mpr c2))]
    · refine jx_auto rfl trivial ?_
      refine jx_ends rfl ⟨Or.inr rfl, trivial⟩ ?_
      rw [if_pos ⟨Int32.not_lt.mp c1, Int32.not_le.mp c2⟩]
theorem jl_hasCovert (h : jLG v a G) {x : Int32} : jx_W 1 jk_X0_hasCovert 0 [some (.ref 6), some (.int x)] [] (jL v a w) (jx_is (some (.int (sp_has (gcv G) x))) (jL v a w)) := by
  rw [sp_has, ← h.coverts]
  refine jx_auto rfl trivial ?_
  refine jx_if rfl (fun c1 => ?_) (fun c1 => ?_)
  · refine jx_auto rfl trivial ?_
    refine jx_ends rfl ⟨Or.inl rfl, trivial⟩ ?_
    rw [if_neg (fun z => absurd c1 (Int32.not_lt.mpr z.1))]
  · refine jx_auto rfl trivial ?_
    refine jx_if rfl (fun c2 => ?_) (fun c2 => ?_)
    · refine jx_auto rfl trivial ?_
      refine jx_ends rfl ⟨Or.inl rfl, trivial⟩ ?_
      rw [if_neg (fun z => absurd z.2 (Int32.not_lt.mpr c2))]
    · refine jx_auto rfl trivial ?_
      refine jx_ends rfl ⟨Or.inr rfl, trivial⟩ ?_
      rw [if_pos ⟨Int32.not_lt.mp c1, Int32.not_le.mp c2⟩]
theorem jl_hasLaugh (h : jLG v a G) {x : Int32} : jx_W 1 jk_X0_hasLaugh 0 [some (.ref 6), some (.int x)] [] (jL v a w) (jx_is (some (.int (sp_has (glg G) x))) (jL v a w)) := by
  rw [sp_has, ← h.laughs]
  refine jx_auto rfl trivial ?_
  refine jx_if rfl (fun c1 => ?_) (fun c1 => ?_)
  · refine jx_auto rfl trivial ?_
    refine jx_ends rfl ⟨Or.inl rfl, trivial⟩ ?_
    rw [if_neg (fun z => absurd c1 (Int32.not_lt.mpr z.1))]
  · refine jx_auto rfl trivial ?_
    refine jx_if rfl (fun c2 => ?_) (fun c2 => ?_)
    · refine jx_auto rfl trivial ?_
      refine jx_ends rfl ⟨Or.inl rfl, trivial⟩ ?_
      rw [if_neg (fun z => absurd z.2 (Int32.not_lt.mpr c2))]
    · refine jx_auto rfl trivial ?_
      refine jx_ends rfl ⟨Or.inr rfl, trivial⟩ ?_
      rw [if_pos ⟨Int32.not_lt.mp c1, Int32.not_le.mp c2⟩]
theorem jl_isThere (h : jLG v a G) : jx_W 1 jk_X0_isThere 0 [some (.ref 6)] [] (jL v a w) (jx_is (some (.int (if 0 < glg G then 1 else 0))) (jL v a w)) := by
  have hl := h.laughs
  have ho := h.ok
  refine jx_auto rfl trivial ?_
  refine jx_if rfl (fun c1 => ?_) (fun c1 => ?_)
  · refine jx_auto rfl trivial ?_
    refine jx_ends rfl ⟨Or.inl rfl, trivial⟩ ?_
    rw [if_neg (fun z => absurd c1 (by rw [hl]; exact nI_nle z (by omega)))]
  · refine jx_auto rfl trivial ?_
    refine jx_ends rfl ⟨Or.inr rfl, trivial⟩ ?_
    rw [if_pos]
    rcases Nat.eq_zero_or_pos (glg G) with q | q
    · exact absurd (by rw [hl, q]; decide) c1
    · exact q
theorem jl_further {h : jx_H} {k : Int32} : jx_W 1 jk_X0_further 0 [some (.int k)] [] h (jx_is (some (.int (sp_further k))) h) := by
  refine jx_auto rfl trivial ?_
  refine jx_switch rfl ⟨fun c1 => ?_, fun c1 => ⟨fun c2 => ?_, fun c2 => ?_⟩⟩
  · refine jx_auto rfl trivial ?_
    refine jx_ends rfl trivial ?_
    rw [sp_further, if_pos c1]
  · refine jx_auto rfl trivial ?_
    refine jx_ends rfl trivial ?_
    rw [sp_further, if_neg c1, if_pos c2]
  · refine jx_auto rfl trivial ?_
    refine jx_ends rfl trivial ?_
    rw [sp_further, if_neg c1, if_neg c2]
theorem jl_placeIn {h : jx_H} {P : Int32} {l : Nat} : jx_W 1 jk_X6_placeIn 0 [some (.int P), some (.int (nI l))] [] h (jx_is (some (.int (jp_pl P l))) h) := by
  refine jx_auto rfl trivial ?_
  exact jx_ends rfl trivial
theorem jl_withPlace {h : jx_H} {P c : Int32} {l : Nat} : jx_W 1 jk_X6_withPlace 0 [some (.int P), some (.int (nI l)), some (.int c), none] [] h (jx_is (some (.int (jp_wp P l c))) h) := by
  refine jx_auto rfl trivial ?_
  exact jx_ends rfl trivial
theorem jl_placeOf (h : jLG v a G) {l : Nat} (hl : l < glg G) : jx_W 2 jk_X0_placeOf 0 [some (.ref 6), some (.int (nI l))] [] (jL v a w) (jx_is (some (.int (gco G l))) (jL v a w)) := by
  refine jx_auto rfl trivial ?_
  refine jx_callE 1 rfl (by decide) jl_placeIn ?_
  refine jx_auto rfl trivial ?_
  refine jx_ends rfl trivial ?_
  show some (Value.int (jp_pl (v vL_places) l)) = _
  rw [jp_pl_of h.places h.ok.2.2.1 hl]
/-- over which peg, out of any covert, or out of none -/
def sp_pegA (G : jG) (l : Nat) (c w : Int32) : Int32 := if 0 ≤ c ∧ c < nI (gcv G) then sp_peg G l c w else -1
theorem jl_pegFrom (h : jLG v a G) {l : Nat} (hl : l < glg G) {c x : Int32} : jx_W 3 jk_X0_pegFrom 0 [some (.ref 6), some (.int (nI l)), some (.int c), some (.int x), none] [] (jL v a w) (jx_is (some (.int (sp_pegA G l c x))) (jL v a w)) := by
  have ho := h.ok
  have hn := h.lens
  refine jx_auto rfl trivial ?_
  refine jx_callE 1 rfl (by decide) (jl_hasCovert h) ?_
  refine jx_if rfl (fun c1 => ?_) (fun c1 => ?_)
  · refine jx_auto rfl trivial ?_
    refine jx_callE 1 rfl (by decide) (jr_at (by omega) rfl rfl) ?_
    refine jx_callE 1 rfl (by decide) jl_further ?_
    refine jx_auto rfl trivial ?_
    refine jx_callE 1 rfl (by decide) (jl_hasPeg h) ?_
    have e := h.atKind hl
    have hc : 0 ≤ c ∧ c < nI (gcv G) := by
      rw [sp_has] at c1
      split at c1
      · assumption
      · exact absurd rfl c1
    refine jx_if rfl (fun c2 => ?_) (fun c2 => ?_)
    · refine jx_auto rfl trivial ?_
      refine jx_ends rfl trivial ?_
      rw [sp_pegA, if_pos hc, sp_peg, if_neg]
      intro z
      rw [e] at c2
      rw [sp_has, if_pos z] at c2
      cases c2
    · refine jx_auto rfl trivial ?_
      refine jx_ends rfl trivial ?_
      rw [e] at c2
      rw [sp_pegA, if_pos hc, sp_peg, if_pos, e]
      rw [sp_has] at c2
      split at c2
      · assumption
      · exact absurd rfl c2
  · refine jx_auto rfl trivial ?_
    refine jx_ends rfl trivial ?_
    rw [sp_pegA, if_neg]
    intro z
    exact c1 (by rw [sp_has, if_pos z]; decide)
theorem jl_heightFrom (h : jLG v a G) {l : Nat} (hl : l < glg G) {c : Int32} : jx_W 2 jk_X0_heightFrom 0 [some (.ref 6), some (.int (nI l)), some (.int c), none] [] (jL v a w) (jx_is (some (.int (if 0 ≤ c ∧ c < nI (gcv G) then sp_height G l c.toNatClampNeg else -1))) (jL v a w)) := by
  have ho := h.ok
  have hn := h.lens
  refine jx_auto rfl trivial ?_
  refine jx_callE 1 rfl (by decide) (jl_hasCovert h) ?_
  refine jx_if rfl (fun c1 => ?_) (fun c1 => ?_)
  · obtain ⟨k, hk, rfl⟩ := sp_has_ex c1
    have e1 := h.atKind hl
    have e2 := h.atHigh hl
    have e3 := h.atFeed hk
    rw [if_pos ⟨nI_pos' (by omega), nI_lt hk (by omega)⟩, nI_clamp (by omega)]
    refine jx_auto rfl trivial ?_
    refine jx_callE 1 rfl (by decide) (jr_at (by omega) rfl rfl) ?_
    refine jx_auto rfl trivial ?_
    refine jx_callE 1 rfl (by decide) (jr_at (by omega) rfl rfl) ?_
    refine jx_auto rfl trivial ?_
    refine jx_callE 1 rfl (by decide) (jr_at (by omega) rfl rfl) ?_
    refine jx_at (st' := [.int (gkd G l)]) (ls' := [some (.ref 6), some (.int (nI l)), some (.int (nI k)), some (.int (ghi G l + gfe G k))]) ?_ rfl (by rw [← e2, ← e3] <;> rfl) (by rw [← e1] <;> rfl) rfl
    refine jx_switch rfl ⟨fun c2 => ?_, fun c2 => ⟨fun c3 => ?_, fun c3 => ⟨fun c4 => ?_, fun c4 => ⟨fun c5 => ?_, fun c5 => ?_⟩⟩⟩⟩
    · refine jx_auto rfl ⟨by decide, trivial⟩ ?_
      refine jx_ends rfl trivial ?_
      rw [sp_height, if_pos c2]
    · refine jx_auto rfl trivial ?_
      refine jx_ends rfl trivial ?_
      rw [sp_height, if_neg c2, if_pos c3]
    · refine jx_auto rfl trivial ?_
      refine jx_ends rfl trivial ?_
      rw [sp_height, if_neg c2, if_neg c3, if_pos c4]
    · refine jx_auto rfl trivial ?_
      refine jx_ends rfl trivial ?_
      rw [sp_height, if_neg c2, if_neg c3, if_neg c4, if_pos c5]
    · refine jx_auto rfl trivial ?_
      refine jx_ends rfl trivial ?_
      rw [sp_height, if_neg c2, if_neg c3, if_neg c4, if_neg c5]
  · refine jx_auto rfl trivial ?_
    refine jx_ends rfl trivial ?_
    rw [if_neg]
    intro z
    exact c1 (by rw [sp_has, if_pos z]; decide)
end
