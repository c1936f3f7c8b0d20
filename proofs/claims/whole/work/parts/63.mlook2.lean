/-! the reference's peg, covert, laugh, as, over -/
section
variable {v : Nat → Int32} {a : Nat → List Int32} {w u : Int64} {G : jG}
theorem jm_peg (h : jMG v a G) {x k : Int32} : jx_W 4 jk_X7_peg 0 [some (.ref 0), some (.int x), some (.int k)] [] (jM v a w u) (jx_is (some (.int (if sp_has (gpg G) x = 0 then -101 else an_peg G x.toNatClampNeg k))) (jM v a w u)) := by
  have ho := h.ok
  have hn := h.lens
  refine jx_auto rfl trivial ?_
  refine jx_callE 2 rfl (by decide) (jm_isPeg h) ?_
  refine jx_if rfl (fun c1 => ?_) (fun c1 => ?_)
  · rw [if_neg c1]
    obtain ⟨p, hp, rfl⟩ := sp_has_ex c1
    refine jx_auto rfl trivial ?_
    refine jx_if rfl (fun e1 => ?_) (fun e => ?_)
    · refine jx_auto rfl trivial ?_
      refine jx_if rfl (fun e2 => ?_) (fun e => ?_)
      · refine jx_auto rfl trivial ?_
        exact jx_ends rfl trivial (by rw [an_peg, if_neg e1, if_neg e2])
      · refine jx_auto rfl ⟨nI_in (by omega) (by omega), trivial⟩ ?_
        refine jx_ends rfl trivial ?_
        rw [nI_clamp (by omega), h.bag hp, an_peg, if_neg e1, if_pos (Decidable.not_not.mp e)]
    · refine jx_auto rfl ⟨nI_in (by omega) (by omega), trivial⟩ ?_
      refine jx_ends rfl trivial ?_
      rw [nI_clamp (by omega), h.reach hp, an_peg, if_pos (Decidable.not_not.mp e)]
  · rw [if_pos (Decidable.not_not.mp c1)]
    refine jx_auto rfl trivial ?_
    exact jx_ends rfl trivial
theorem jm_covert (h : jMG v a G) {x k : Int32} : jx_W 4 jk_X7_covert 0 [some (.ref 0), some (.int x), some (.int k)] [] (jM v a w u) (jx_is (some (.int (if sp_has (gcv G) x = 0 then -101 else an_cov G x.toNatClampNeg k))) (jM v a w u)) := by
  have ho := h.ok
  have hn := h.lens
  refine jx_auto rfl trivial ?_
  refine jx_callE 2 rfl (by decide) (jm_isCovert h) ?_
  refine jx_if rfl (fun c1 => ?_) (fun c1 => ?_)
  · rw [if_neg c1]
    obtain ⟨p, hp, rfl⟩ := sp_has_ex c1
    refine jx_auto rfl trivial ?_
    refine jx_if rfl (fun e1 => ?_) (fun e => ?_)
    · refine jx_auto rfl trivial ?_
      refine jx_if rfl (fun e2 => ?_) (fun e => ?_)
      · refine jx_auto rfl trivial ?_
        exact jx_ends rfl trivial (by rw [an_cov, if_neg e1, if_neg e2])
      · refine jx_auto rfl trivial ?_
        refine jx_callE 1 rfl (by decide) (jm_inCovert h) ?_
        refine jx_auto rfl trivial ?_
        refine jx_ends rfl trivial ?_
        rw [nI_clamp (by omega), an_cov, if_neg e1, if_pos (Decidable.not_not.mp e)]
    · refine jx_auto rfl ⟨nI_in (by omega) (by omega), trivial⟩ ?_
      refine jx_ends rfl trivial ?_
      rw [nI_clamp (by omega), h.feed hp, an_cov, if_pos (Decidable.not_not.mp e)]
  · rw [if_pos (Decidable.not_not.mp c1)]
    refine jx_auto rfl trivial ?_
    exact jx_ends rfl trivial
theorem an_high_no {l : Nat} (h : gco G l = -1) : an_high G l = -1 := by
  unfold an_high
  rw [h, if_neg (fun z => absurd z.1 (by decide))]
theorem an_high_yes {l c : Nat} (h : gco G l = nI c) (hc : c < gcv G) (hg : gcv G ≤ 4) : an_high G l = sp_height G l c := by
  unfold an_high
  rw [h, if_pos ⟨nI_pos' (by omega), nI_lt hc (by omega)⟩, nI_clamp (by omega)]
theorem jm_laughNow (h : jMG v a G) (hs : jMl a) (hco : gcok G) {l : Nat} (hl : l < glg G) {k : Int32} (h0 : 0 ≤ k) (h6 : k ≤ 6) : jx_W 8 jk_X7_laughNow 0 [some (.ref 0), some (.int (nI l)), some (.int k)] [] (jM v a w u) (jMr v a w u (an_laugh G l k)) := by
  have ho := h.ok
  have hn := h.lens
  have hi4 : vp_in (nI l) (a 4).length := nI_in (by omega) (by omega)
  have e4 : (a 4).getD (nI l).toNatClampNeg 0 = gco G l := by rw [nI_clamp (by omega), h.co hl]
  refine jx_auto rfl trivial ?_
  refine jx_switch rfl ⟨fun e => ?_, fun e0 => ⟨fun e => ?_, fun e1 => ⟨fun e => ?_, fun e2 => ⟨fun e => ?_, fun e3 => ⟨fun e => ?_, fun e4' => ⟨fun e => ?_, fun e5 => ?_⟩⟩⟩⟩⟩⟩
  · refine jx_auto rfl ⟨nI_in (by omega) (by omega), trivial⟩ ?_
    refine jx_done rfl trivial ⟨v, a, ?_, rfl, .rf hs⟩
    rw [nI_clamp (by omega), h.kind hl, an_laugh, if_pos e]
  · refine jx_auto rfl ⟨hi4, trivial⟩ ?_
    refine jx_done rfl trivial ⟨v, a, ?_, rfl, .rf hs⟩
    rw [e4, an_laugh, if_neg e0, if_pos e]
  · refine jx_auto rfl ⟨nI_in (by omega) (by omega), trivial⟩ ?_
    refine jx_done rfl trivial ⟨v, a, ?_, rfl, .rf hs⟩
    rw [nI_clamp (by omega), h.high hl, an_laugh, if_neg e0, if_neg e1, if_pos e]
  · refine jx_auto rfl ⟨hi4, trivial⟩ ?_
    rw [e4]
    refine jx_if rfl (fun c1 => ?_) (fun c1 => ?_)
    · rcases hco l hl with hc | ⟨c, hcg, hc⟩
      · exact absurd hc c1
      refine jx_auto rfl ⟨hi4, trivial⟩ ?_
      rw [e4, hc]
      refine jx_callE 1 rfl (by decide) (jm_heightFrom h hl hcg) ?_
      refine jx_auto rfl trivial ?_
      refine jx_done rfl trivial ⟨v, a, ?_, rfl, .rf hs⟩
      rw [an_laugh, if_neg e0, if_neg e1, if_neg e2, if_pos e, an_high_yes hc hcg (by omega)]
    · refine jx_auto rfl trivial ?_
      refine jx_done rfl trivial ⟨v, a, ?_, rfl, .rf hs⟩
      rw [an_laugh, if_neg e0, if_neg e1, if_neg e2, if_pos e, an_high_no (Decidable.not_not.mp c1)]
  · refine jx_auto rfl trivial ?_
    refine jx_call 7 rfl (by decide) (jm_likelyFor h hs hco hl) (fun r h' hq => ?_)
    obtain ⟨v', a', rfl, rfl, hms⟩ := hq
    refine jx_auto rfl trivial ?_
    refine jx_done rfl trivial ⟨v', a', ?_, rfl, hms⟩
    rw [an_laugh, if_neg e0, if_neg e1, if_neg e2, if_neg e3, if_pos e]
  · refine jx_auto rfl trivial ?_
    refine jx_callE 4 rfl (by decide) (jm_covertsOf h hl) ?_
    refine jx_auto rfl trivial ?_
    refine jx_done rfl trivial ⟨v, a, ?_, rfl, .rf hs⟩
    rw [an_laugh, if_neg e0, if_neg e1, if_neg e2, if_neg e3, if_neg e4', if_pos e]
  · have e6 : k = 6 := by
      obtain ⟨n, hn6, rfl⟩ := nI_of2 (M := 6) (n := 6) rfl (Int32.not_lt.mpr h0) h6
      have : n = 0 ∨ n = 1 ∨ n = 2 ∨ n = 3 ∨ n = 4 ∨ n = 5 ∨ n = 6 := by omega
      rcases this with rfl | rfl | rfl | rfl | rfl | rfl | rfl
      · exact absurd rfl e0
      · exact absurd rfl e1
      · exact absurd rfl e2
      · exact absurd rfl e3
      · exact absurd rfl e4'
      · exact absurd rfl e5
      · rfl
    refine jx_auto rfl trivial ?_
    refine jx_callE 5 rfl (by decide) (jm_hearFor h hl) ?_
    refine jx_auto rfl trivial ?_
    refine jx_done rfl trivial ⟨v, a, ?_, rfl, .rf hs⟩
    rw [an_laugh, if_neg e0, if_neg e1, if_neg e2, if_neg e3, if_neg e4', if_neg e5, if_pos e6]
theorem an_laugh_out {l : Nat} {k : Int32} (h : ¬ (0 ≤ k ∧ k ≤ 6)) : an_laugh G l k = -102 := by
  have hne : ∀ j : Int32, 0 ≤ j → j ≤ 6 → ¬ k = j := fun j h1 h2 e => h (by rw [e]; exact ⟨h1, h2⟩)
  rw [an_laugh, if_neg (hne _ (by decide) (by decide)), if_neg (hne _ (by decide) (by decide)), if_neg (hne _ (by decide) (by decide)), if_neg (hne _ (by decide) (by decide)), if_neg (hne _ (by decide) (by decide)), if_neg (hne _ (by decide) (by decide)), if_neg (hne _ (by decide) (by decide))]
theorem jm_laugh (h : jMG v a G) (hs : jMl a) (hco : gcok G) {x k : Int32} : jx_W 9 jk_X7_laugh 0 [some (.ref 0), some (.int x), some (.int k)] [] (jM v a w u) (jMr v a w u (if sp_has (glg G) x = 0 then -101 else an_laugh G x.toNatClampNeg k)) := by
  have ho := h.ok
  refine jx_auto rfl trivial ?_
  refine jx_callE 2 rfl (by decide) (jm_isLaugh h) ?_
  refine jx_if rfl (fun c1 => ?_) (fun c1 => ?_)
  · rw [if_neg c1]
    obtain ⟨p, hp, rfl⟩ := sp_has_ex c1
    rw [nI_clamp (by omega)]
    refine jx_auto rfl trivial ?_
    refine jx_callE 1 rfl (by decide) jm_within ?_
    refine jx_if rfl (fun c2 => ?_) (fun c2 => ?_)
    · refine jx_auto rfl trivial ?_
      refine jx_done rfl trivial ⟨v, a, ?_, rfl, .rf hs⟩
      rw [an_laugh_out (fun z => by rw [if_pos z] at c2; cases c2)]
    · have hw : 0 ≤ k ∧ k ≤ 6 := by
        by_cases z : 0 ≤ k ∧ k ≤ 6
        · exact z
        · exact absurd (if_neg z) c2
      refine jx_auto rfl trivial ?_
      refine jx_call 8 rfl (by decide) (jm_laughNow h hs hco hp hw.1 hw.2) (fun r h' hq => ?_)
      obtain ⟨v', a', rfl, rfl, hms⟩ := hq
      refine jx_auto rfl trivial ?_
      exact jx_done rfl trivial ⟨v', a', rfl, rfl, hms⟩
  · rw [if_pos (Decidable.not_not.mp c1)]
    refine jx_auto rfl trivial ?_
    exact jx_done rfl trivial ⟨v, a, rfl, rfl, .rf hs⟩
theorem jm_overNow (h : jMG v a G) (hco : gcok G) {l : Nat} (hl : l < glg G) {x : Int32} : jx_W 4 jk_X7_overNow 0 [some (.ref 0), some (.int (nI l)), some (.int x)] [] (jM v a w u) (jx_is (some (.int (sp_pegA G l (gco G l) x))) (jM v a w u)) := by
  have ho := h.ok
  have hn := h.lens
  have hi4 : vp_in (nI l) (a 4).length := nI_in (by omega) (by omega)
  have e4 : (a 4).getD (nI l).toNatClampNeg 0 = gco G l := by rw [nI_clamp (by omega), h.co hl]
  refine jx_auto rfl ⟨hi4, trivial⟩ ?_
  rw [e4]
  refine jx_if rfl (fun c1 => ?_) (fun c1 => ?_)
  · rcases hco l hl with hc | ⟨c, hcg, hc⟩
    · exact absurd hc c1
    refine jx_auto rfl ⟨hi4, trivial⟩ ?_
    rw [e4]
    refine jx_callE 3 rfl (by decide) (jm_pegFrom h hl) ?_
    refine jx_auto rfl trivial ?_
    refine jx_ends rfl trivial ?_
    rw [sp_pegA, if_pos (by rw [hc]; exact ⟨nI_pos' (by omega), nI_lt hcg (by omega)⟩)]
  · refine jx_auto rfl trivial ?_
    refine jx_ends rfl trivial ?_
    rw [sp_pegA, if_neg (fun z => absurd z.1 (by rw [Decidable.not_not.mp c1]; decide))]
theorem jm_over (h : jMG v a G) (hco : gcok G) {x k : Int32} : jx_W 5 jk_X7_over 0 [some (.ref 0), some (.int x), some (.int k)] [] (jM v a w u) (jx_is (some (.int (if sp_has (glg G) x = 0 then -101 else an_over G x.toNatClampNeg k))) (jM v a w u)) := by
  have ho := h.ok
  refine jx_auto rfl trivial ?_
  refine jx_callE 2 rfl (by decide) (jm_isLaugh h) ?_
  refine jx_if rfl (fun c1 => ?_) (fun c1 => ?_)
  · rw [if_neg c1]
    obtain ⟨p, hp, rfl⟩ := sp_has_ex c1
    rw [nI_clamp (by omega)]
    refine jx_auto rfl trivial ?_
    refine jx_callE 2 rfl (by decide) jm_isWind ?_
    refine jx_if rfl (fun c2 => ?_) (fun c2 => ?_)
    · refine jx_auto rfl trivial ?_
      refine jx_ends rfl trivial ?_
      rw [an_over, if_neg (fun z => by rw [if_pos z] at c2; cases c2)]
    · have hw : -1 ≤ k ∧ k ≤ 1 := by
        by_cases z : -1 ≤ k ∧ k ≤ 1
        · exact z
        · exact absurd (if_neg z) c2
      refine jx_auto rfl trivial ?_
      refine jx_callE 4 rfl (by decide) (jm_overNow h hco hp) ?_
      refine jx_auto rfl trivial ?_
      exact jx_ends rfl trivial (by rw [an_over, if_pos hw])
  · rw [if_pos (Decidable.not_not.mp c1)]
    refine jx_auto rfl trivial ?_
    exact jx_ends rfl trivial
theorem jm_as (h : jMG v a G) {x k : Int32} : jx_W 4 jk_X7_as 0 [some (.ref 0), some (.int x), some (.int k), none] [] (jM v a w u) (jx_is (some (.int (if sp_has (glg G) x = 0 then -101 else an_as G x.toNatClampNeg k))) (jM v a w u)) := by
  have ho := h.ok
  have hn := h.lens
  refine jx_auto rfl trivial ?_
  refine jx_callE 2 rfl (by decide) (jm_isLaugh h) ?_
  refine jx_if rfl (fun c1 => ?_) (fun c1 => ?_)
  · rw [if_neg c1]
    obtain ⟨p, hp, rfl⟩ := sp_has_ex c1
    refine jx_auto rfl trivial ?_
    refine jx_callE 1 rfl (by decide) jm_within ?_
    refine jx_if rfl (fun c2 => ?_) (fun c2 => ?_)
    · have hw : 0 ≤ k ∧ k ≤ 4 := by
        by_cases z : 0 ≤ k ∧ k ≤ 4
        · exact z
        · exact absurd (if_neg z) c2
      have ek : (a 3).getD (nI p).toNatClampNeg 0 = gkd G p := by rw [nI_clamp (by omega), h.kind hp]
      have yes : k = 0 ∨ k = gkd G p ∨ (k = 2 ∧ gkd G p = 4) → an_as G (nI p).toNatClampNeg k = nI p := fun z => by
        rw [nI_clamp (by omega), an_as, if_pos hw, sp_such, if_pos z, if_neg (by decide)]
      have no : ¬ (k = 0 ∨ k = gkd G p ∨ (k = 2 ∧ gkd G p = 4)) → an_as G (nI p).toNatClampNeg k = -1 := fun z => by
        rw [an_as, if_pos hw, sp_such, nI_clamp (by omega), if_neg z, if_pos rfl]
      refine jx_auto rfl ⟨nI_in (by omega) (by omega), trivial⟩ ?_
      rw [ek]
      refine jx_if rfl (fun d1 => ?_) (fun d1 => ?_)
      · refine jx_auto rfl trivial ?_
        exact jx_ends rfl trivial (by rw [yes (Or.inl d1)])
      · refine jx_auto rfl trivial ?_
        refine jx_if rfl (fun d2 => ?_) (fun d2 => ?_)
        · refine jx_auto rfl trivial ?_
          exact jx_ends rfl trivial (by rw [yes (Or.inr (Or.inl d2.symm))])
        · refine jx_auto rfl trivial ?_
          refine jx_if rfl (fun d3 => ?_) (fun d3 => ?_)
          · refine jx_auto rfl trivial ?_
            exact jx_ends rfl trivial (by rw [no (by rintro (z | z | z); exact d1 z; exact d2 z.symm; exact d3 z.1)])
          · refine jx_auto rfl trivial ?_
            refine jx_if rfl (fun d4 => ?_) (fun d4 => ?_)
            · refine jx_auto rfl trivial ?_
              exact jx_ends rfl trivial (by rw [no (by rintro (z | z | z); exact d1 z; exact d2 z.symm; exact d4 z.2)])
            · refine jx_auto rfl trivial ?_
              exact jx_ends rfl trivial (by rw [yes (Or.inr (Or.inr ⟨Decidable.not_not.mp d3, Decidable.not_not.mp d4⟩))])
    · refine jx_auto rfl trivial ?_
      refine jx_ends rfl trivial ?_
      rw [an_as, if_neg (fun z => c2 (by rw [if_pos z]; decide))]
  · rw [if_pos (Decidable.not_not.mp c1)]
    refine jx_auto rfl trivial ?_
    exact jx_ends rfl trivial
end
