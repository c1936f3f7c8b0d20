/-! the reference's game -/
theorem bg_mono : ∀ L, L < 4 → ∀ M, M < 5 → L < M → bg (L + 1) ≤ bg M := by decide
section
variable {v v' : Nat → Int32} {a a' : Nat → List Int32} {w u : Int64} {G : jG}
abbrev gI (G : jG) (x : Int32) (gb : List Int32) (L : Nat) : Prop := gbI (gcv G) (og G x) (oa G x) (gco G) gb L
abbrev nu (G : jG) (x : Int32) (r : List Nat) : Int := nd_u (gcv G) (og G x) (oa G x) (gco G) r
theorem gI_keep {x : Int32} {gb : List Int32} {L M code : Nat} {y : Int32} (hL : L < 4) (hM : M < 5) (hLM : L < M) (hc : code < 4 ^ L) (h : gI G x gb M) : gI G x (gb.set (bg L + code) y) M := by
  intro c2 h2 hv
  have h3 := bg_mono L hL M hM hLM
  have h4 := bg_k L hL
  rw [jl_getne (by omega)]
  exact h c2 h2 hv
theorem gI_end {x : Int32} {gb : List Int32} (hg : gcv G ≤ 4) (h : ∀ p ∈ pl_seqs (gcv G) 4 (fun _ => false), nx_laid G x gb p) : gI G x gb (gcv G) := by
  intro code hc hv
  rw [nd_u_end (by omega) hc hv]
  have h1 := h _ (nd_k1 (gcv G) (by omega) code hc hv)
  unfold nx_laid at h1
  rw [List.reverse_reverse] at h1
  have hd : ∀ (L code : Nat), code < 4 ^ L → nd_c (dg L code) = code := by
    intro L
    induction L with
    | zero => intro code hc; have : code < 1 := hc; show 0 = code; omega
    | succ L ih =>
      intro code hc
      rw [Nat.pow_succ] at hc
      rw [dg, nd_c, ih (code / 4) (by omega)]
      omega
  rw [hd _ _ hc] at h1
  exact h1
theorem jm_gameRow (h : jMG v a G) (h9 : g9 G) {x k : Int32} {L : Nat} (hL : L < gcv G) {Q : jx_Q} : ∀ (m code : Nat), code + m = 4 ^ L → ∀ (a' : Nat → List Int32) (l5 : Option Value), jMs v a v a' → (∀ M, L < M → M ≤ gcv G → gI G x (a' 15) M) → (∀ c, c < code → nd_v (gcv G) (dg L c) = true → (a' 15).getD (bg L + c) 0 = iI (nu G x (dg L c))) → (∀ a2 l4 l5, jMs v a v a2 → (∀ M, L ≤ M → M ≤ gcv G → gI G x (a2 15) M) → jx_W 9 jk_X7_gameNow 91 [some (.ref 0), some (.int x), some (.int k), some (.int (nI L)), l4, l5] [] (jM v a2 w u) Q) → jx_W 9 jk_X7_gameNow 19 [some (.ref 0), some (.int x), some (.int k), some (.int (nI L)), some (.int (nI code)), l5] [] (jM v a' w u) Q := by
  have ho := h.ok
  have hL4 : L < 4 := by omega
  have hp : 4 ^ L ≤ 64 := by
    have : L = 0 ∨ L = 1 ∨ L = 2 ∨ L = 3 := by omega
    rcases this with e | e | e | e <;> subst e <;> decide
  have hbd : nI (bg (L + 1)) - nI (bg L) = nI (4 ^ L) := by
    rw [bg_k L hL4, pk_sub (Nat.le_add_right _ _), Nat.add_sub_cancel_left]
  intro m
  induction m with
  | zero =>
    intro code hcm a' l5 hms hI hrow kk
    refine jx_auto rfl trivial ?_
    dsimp only
    rw [nI_1]
    refine jx_callE 1 rfl (by decide) (jm_beginningOf (by omega)) ?_
    refine jx_auto rfl trivial ?_
    refine jx_callE 1 rfl (by decide) (jm_beginningOf (by omega)) ?_
    refine jx_auto rfl trivial ?_
    dsimp only
    rw [hbd]
    refine jx_if rfl (fun _ => ?_) (fun c1 => absurd (nI_le (by omega) (by omega)) c1)
    refine kk a' _ _ hms (fun M h1 h2 => ?_)
    by_cases e : M = L
    · subst e
      intro c hc hv
      exact hrow c (by omega) hv
    · exact hI M (by omega) h2
  | succ m ih =>
    intro code hcm a' l5 hms hI hrow kk
    have hcode : code < 4 ^ L := by omega
    have hG := hms.game h
    have l15 : (a' 15).length = 341 := hms.2.2.2.2.2.2.2
    have hb1 := bg_le (n := L) (c := code) (by omega) hcode
    have hb2 : ∀ c, c < 4 → bg (L + 1) + 4 * code + c < 341 := fun c hc => by
      have := bg_le (n := L + 1) (c := 4 * code + c) (by omega) (by rw [Nat.pow_succ]; omega)
      omega
    -- what is written
    have put : ∀ y : Int32, (nd_v (gcv G) (dg L code) = true → y = iI (nu G x (dg L code))) → ∀ l5, jx_W 9 jk_X7_gameNow 84 [some (.ref 0), some (.int x), some (.int k), some (.int (nI L)), some (.int (nI code)), l5] [.int y, .int (nI (bg L) + nI code), .ref 16] (jM v a' w u) Q := by
      intro y hy l5
      refine jx_steps 1 rfl ⟨by rw [nI_add]; show vp_in _ (a' 15).length; exact vp_in_nI (by omega) (by omega), trivial⟩ ?_
      rw [nI_add, nI_clamp (by omega)]
      refine jx_at (h' := jM v (jup a' 15 ((a' 15).set (bg L + code) y)) w u) ?_ rfl rfl rfl rfl
      refine jx_steps 2 rfl trivial ?_
      rw [nI_1]
      refine ih (code + 1) (by omega) (jup a' 15 ((a' 15).set (bg L + code) y)) l5 (hms.up15 (List.length_set.trans l15)) (fun M h1 h2 => gI_keep hL4 (by omega) h1 hcode (hI M h1 h2)) (fun c hc hv => ?_) kk
      show ((a' 15).set (bg L + code) y).getD (bg L + c) 0 = _
      by_cases e : c = code
      · subst e
        rw [jl_getset (by omega)]
        exact hy hv
      · rw [jl_getne (by omega)]
        exact hrow c (by omega) hv
    refine jx_auto rfl trivial ?_
    dsimp only
    rw [nI_1]
    refine jx_callE 1 rfl (by decide) (jm_beginningOf (by omega)) ?_
    refine jx_auto rfl trivial ?_
    refine jx_callE 1 rfl (by decide) (jm_beginningOf (by omega)) ?_
    refine jx_auto rfl trivial ?_
    dsimp only
    rw [hbd]
    refine jx_if rfl (fun c1 => absurd c1 (nI_ge (by omega) (by omega))) (fun _ => ?_)
    refine jx_auto rfl trivial ?_
    refine jx_callE 2 rfl (by decide) (jm_bestNext hG l15 hL4 hcode) ?_
    refine jx_auto rfl trivial ?_
    refine jx_callE 1 rfl (by decide) (jm_beginningOf (by omega)) ?_
    refine jx_auto rfl trivial ?_
    cases hq : bn_upto (bn_e (a' 15) L code) L (nd_d (dg L code)) (gcv G) with
    | none =>
      refine jx_if rfl (fun c1 => absurd rfl c1) (fun _ => ?_)
      refine jx_steps 2 rfl trivial ?_
      refine put 0 (fun hv => ?_) _
      obtain ⟨c, h1, h2, -⟩ := gbI_step (og_b h9 ho.1 x) (by omega) hL (hI (L + 1) (by omega) (by omega)) hcode hv
      have h3 : bn_upto (bn_e (a' 15) L code) L (nd_d (dg L code)) (gcv G) = some c := h2
      rw [hq] at h3
      cases h3
    | some b =>
      have hbl := bn_lt hq
      refine jx_if rfl (fun _ => ?_) (fun c1 => absurd (nI_ne1 (show b < 2 ^ 31 by omega)) c1)
      refine jx_auto rfl trivial ?_
      dsimp only
      rw [nI_1]
      refine jx_callE 1 rfl (by decide) (jm_beginningOf (by omega)) ?_
      have ix : nI (bg (L + 1)) + 4 * nI code + nI b = nI (bg (L + 1) + 4 * code + b) := by
        rw [show (4 : Int32) * nI code = nI (4 * code) from pk_mul 4 code, nI_add, nI_add]
      have hbb := hb2 b (by omega)
      refine jx_steps 7 rfl ⟨?_, trivial⟩ ?_
      · show vp_in (nI (bg (L + 1)) + 4 * nI code + nI b) (a' 15).length
        rw [ix]; exact vp_in_nI (by omega) (by omega)
      have ev : (a' 15).getD (nI (bg (L + 1)) + 4 * nI code + nI b).toNatClampNeg 0 = bn_e (a' 15) L code b := by
        rw [ix, nI_clamp (by omega)]; rfl
      refine jx_at (put (bn_e (a' 15) L code b) (fun hv => ?_) _) rfl rfl ?_ rfl
      · obtain ⟨c, h1, h2, h3, -⟩ := gbI_step (og_b h9 ho.1 x) (by omega) hL (hI (L + 1) (by omega) (by omega)) hcode hv
        have h4 : bn_upto (bn_e (a' 15) L code) L (nd_d (dg L code)) (gcv G) = some c := h2
        rw [hq] at h4
        rw [Option.some.inj h4]
        exact h3
      · rw [← ev]
        rfl
theorem jm_gameNow (h : jMG v a G) (hs : jMl a) (h9 : g9 G) (hg : 1 ≤ gcv G) {x k : Int32} : jx_W 9 jk_X7_gameNow 0 [some (.ref 0), some (.int x), some (.int k), none, none, none] [] (jM v a w u) (jMr v a w u (an_gm (og2 G x) k)) := by
  have ho := h.ok
  have exit : ∀ v' a' l3 l4 l5, jMs v a v' a' → gI G x (a' 15) 0 → gI G x (a' 15) 1 → jx_W 9 jk_X7_gameNow 97 [some (.ref 0), some (.int x), some (.int k), l3, l4, l5] [] (jM v' a' w u) (jMr v a w u (an_gm (og2 G x) k)) := by
    intro v' a' l3 l4 l5 hms h0 h1
    have l15 : (a' 15).length = 341 := hms.2.2.2.2.2.2.2
    have hG := hms.game h
    unfold an_gm
    refine jx_auto rfl trivial ?_
    refine jx_if rfl (fun c1 => ?_) (fun c1 => ?_)
    · rw [if_neg c1]
      refine jx_auto rfl trivial ?_
      refine jx_callE 2 rfl (by decide) (jm_bestNext (code := 0) (L := 0) hG l15 (by omega) (by decide)) ?_
      refine jx_auto rfl trivial ?_
      refine jx_done rfl trivial ⟨v', a', ?_, rfl, hms⟩
      obtain ⟨c, h2, h3, -, h5⟩ := gbI_step (code := 0) (L := 0) (og_b h9 ho.1 x) (by omega) hg h1 (by decide) rfl
      have h6 : bn_upto (bn_e (a' 15) 0 0) 0 (nd_d (dg 0 0)) (gcv G) = some c := h3
      have h7 : og2 G x = nd_wo (gcv G) (og G x) (oa G x) (gco G) (dg 0 0) c := by
        have := nd_best (n := gcv G) (g := og G x) (af := oa G x) (s0 := gco G) (r := dg 0 0) (by decide)
        rw [h5] at this
        exact this
      rw [h6, h7]
      rfl
    · rw [if_pos (Decidable.not_not.mp c1)]
      refine jx_auto rfl ⟨by show vp_in (nI 0) (a' 15).length; exact vp_in_nI (by omega) (by omega), trivial⟩ ?_
      refine jx_done rfl trivial ⟨v', a', ?_, rfl, hms⟩
      have h2 := h0 0 (by decide) rfl
      have h3 : nu G x (dg 0 0) = (og2 G x).1 := by
        show (0 : Int) + 1 * (og2 G x).1 = _
        rw [Int.one_mul, Int.zero_add]
      have h4 : (a' 15).getD 0 0 = iI (og2 G x).1 := by rw [← h3]; exact h2
      show some (Value.int ((a' 15).getD 0 0 + 500)) = _
      rw [h4, ← iI_add]
      rfl
  refine jx_auto rfl trivial ?_
  refine jx_call 8 rfl (by decide) (jm_layEnds h hs hg) (fun r h' hq => ?_)
  obtain ⟨v', a', rfl, rfl, hms, hlaid⟩ := hq
  have hend := gI_end ho.2.1 hlaid
  have hG := hms.game h
  have loop : ∀ j, j ≤ gcv G → ∀ a2 l4 l5, jMs v' a' v' a2 → (∀ M, j ≤ M → M ≤ gcv G → gI G x (a2 15) M) → jx_W 9 jk_X7_gameNow 12 [some (.ref 0), some (.int x), some (.int k), some (.int (nI j - 1)), l4, l5] [] (jM v' a2 w u) (jMr v a w u (an_gm (og2 G x) k)) := by
    intro j
    induction j with
    | zero =>
      intro hj a2 l4 l5 hms2 hI
      refine jx_auto rfl trivial ?_
      refine jx_if rfl (fun _ => ?_) (fun c1 => absurd (by decide) c1)
      exact exit v' a2 _ _ _ (hms.tr hms2) (hI 0 (by omega) (by omega)) (hI 1 (by omega) hg)
    | succ j ih =>
      intro hj a2 l4 l5 hms2 hI
      rw [nI_pred]
      refine jx_auto rfl trivial ?_
      refine jx_if rfl (fun c1 => absurd c1 (nI_pos (by omega))) (fun _ => ?_)
      refine jx_steps 2 rfl trivial ?_
      refine jm_gameRow (G := G) (hms2.game hG) h9 (L := j) hj (4 ^ j) 0 (by omega) a2 l5 (.rf hms2.2.2) (fun M h1 h2 => hI M h1 h2) (fun c hc => absurd hc (Nat.not_lt_zero c)) (fun a3 l4 l5 hms3 hI3 => ?_)
      refine jx_steps 2 rfl trivial ?_
      rw [← Int32.sub_eq_add_neg]
      exact ih (by omega) a3 l4 l5 (hms2.tr hms3) hI3
  refine jx_steps 5 rfl trivial ?_
  dsimp only
  rw [hG.coverts]
  exact loop (gcv G) (Nat.le_refl _) a' none none (.rf hms.2.2) (fun M h1 h2 => by rw [show M = gcv G by omega]; exact hend)
theorem jm_game (h : jMG v a G) (hs : jMl a) (h9 : g9 G) (hg : 0 < glg G → 0 < gcv G) {x k : Int32} : jx_W 10 jk_X7_game 0 [some (.ref 0), some (.int x), some (.int k)] [] (jM v a w u) (jMr v a w u (an_game G x k)) := by
  have ho := h.ok
  have bad : ¬ ((-1 ≤ x ∧ x ≤ 1) ∧ (0 ≤ k ∧ k ≤ 1)) → jx_W 10 jk_X7_game 16 [some (.ref 0), some (.int x), some (.int k)] [] (jM v a w u) (jMr v a w u (an_game G x k)) := by
    intro hn
    refine jx_auto rfl trivial ?_
    exact jx_done rfl trivial ⟨v, a, by rw [an_game, if_neg hn], rfl, .rf hs⟩
  refine jx_auto rfl trivial ?_
  refine jx_callE 2 rfl (by decide) jm_isWind ?_
  refine jx_if rfl (fun c1 => bad (fun q => by rw [if_pos q.1] at c1; cases c1)) (fun c1 => ?_)
  have hw : -1 ≤ x ∧ x ≤ 1 := by
    by_cases z : -1 ≤ x ∧ x ≤ 1
    · exact z
    · exact absurd (if_neg z) c1
  refine jx_auto rfl trivial ?_
  refine jx_callE 1 rfl (by decide) jm_within ?_
  refine jx_if rfl (fun c2 => ?_) (fun c2 => bad (fun q => c2 (by rw [if_pos q.2]; decide)))
  have hk : 0 ≤ k ∧ k ≤ 1 := by
    by_cases z : 0 ≤ k ∧ k ≤ 1
    · exact z
    · exact absurd (if_neg z) c2
  unfold an_game
  rw [if_pos ⟨hw, hk⟩]
  refine jx_auto rfl trivial ?_
  rw [h.laughs]
  refine jx_if rfl (fun c5 => ?_) (fun c5 => ?_)
  · have h0 : 0 < glg G := Nat.pos_of_ne_zero (fun e => c5 (by rw [e]; rfl))
    rw [if_pos h0]
    refine jx_auto rfl trivial ?_
    refine jx_call 9 rfl (by decide) (jm_gameNow h hs h9 (hg h0)) (fun r h' hq => ?_)
    obtain ⟨v', a', rfl, rfl, hms⟩ := hq
    refine jx_auto rfl trivial ?_
    exact jx_done rfl trivial ⟨v', a', rfl, rfl, hms⟩
  · have h0 : ¬ 0 < glg G := fun q => nI_ne0 q (by omega) (Decidable.not_not.mp c5)
    rw [if_neg h0]
    refine jx_auto rfl trivial ?_
    exact jx_done rfl trivial ⟨v, a, rfl, rfl, .rf hs⟩
end
