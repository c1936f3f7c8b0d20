/-! drive, both sides -/
def an_drive (G : jG) (x k : Int32) : Int32 := if sp_has (gcv G) x = 0 then -101 else if -1 ≤ k ∧ k ≤ 1 then (if gno G 1 < 999 then sp_many G x.toNatClampNeg k else -104) else -102
def up_driveO (G : jG) (x k : Int32) : jG := if sp_has (gcv G) x = 0 then G else if -1 ≤ k ∧ k ≤ 1 then (if gno G 1 < 999 then up_drive G x.toNatClampNeg k else G) else G
section
variable {v : Nat → Int32} {a : Nat → List Int32} {w u : Int64} {G : jG}
theorem jl_drive (h : jLG v a G) (hco : gcok G) {x k : Int32} : jx_W 7 jk_X6_drive 0 [some (.ref 0), some (.int x), some (.int k)] [] (jL v a w) (jLz v a w (an_drive G x k) (up_driveO G x k)) := by
  have ho := h.ok
  unfold an_drive up_driveO
  refine jx_auto rfl trivial ?_
  refine jx_callE 1 rfl (by decide) (jl_hasCovert h) ?_
  refine jx_if rfl (fun c1 => ?_) (fun c1 => ?_)
  · rw [if_neg c1, if_neg c1]
    obtain ⟨p, hp, rfl⟩ := sp_has_ex c1
    rw [nI_clamp (by omega)]
    refine jx_auto rfl trivial ?_
    refine jx_callE 1 rfl (by decide) jl_isWind ?_
    by_cases hw : -1 ≤ k ∧ k ≤ 1
    · rw [if_pos hw, if_pos hw, if_pos hw]
      refine jx_if rfl (fun _ => ?_) (fun c2 => absurd (show ¬ (1 : Int32) = 0 by decide) c2)
      refine jx_auto rfl trivial ?_
      have hd : v 13 = gno G 1 := h.drives
      rw [hd]
      refine jx_if rfl (fun c3 => ?_) (fun c3 => ?_)
      · have c4 : ¬ gno G 1 < 999 := Int32.not_lt.mpr c3
        rw [if_neg c4, if_neg c4]
        refine jx_auto rfl trivial ?_
        exact jx_done rfl trivial ⟨v, a, rfl, rfl, h, fun _ _ => rfl, fun _ _ => rfl⟩
      · have c4 : gno G 1 < 999 := Int32.not_le.mp c3
        rw [if_pos c4, if_pos c4]
        refine jx_auto rfl trivial ?_
        refine jx_call 6 rfl (by decide) (jl_driveNow h hco hp) (fun r h' hq => ?_)
        obtain ⟨v', a', rfl, rfl, q⟩ := hq
        refine jx_auto rfl trivial ?_
        exact jx_done rfl trivial ⟨v', a', rfl, rfl, q⟩
    · rw [if_neg hw, if_neg hw, if_neg hw]
      refine jx_if rfl (fun c2 => absurd rfl c2) (fun _ => ?_)
      refine jx_auto rfl trivial ?_
      exact jx_done rfl trivial ⟨v, a, rfl, rfl, h, fun _ _ => rfl, fun _ _ => rfl⟩
  · have c1 := Decidable.not_not.mp c1
    rw [if_pos c1, if_pos c1]
    refine jx_auto rfl trivial ?_
    exact jx_done rfl trivial ⟨v, a, rfl, rfl, h, fun _ _ => rfl, fun _ _ => rfl⟩
theorem jMG_drive (h : jMG v a G) {c : Nat} {x : Int32} {lh : Int32} {hb co lb : List Int32} (hl : lb.length = 6) (hb2 : ∀ p, p < gpg G → lb.getD p 0 = sp_bag G c x p) (hc : co.length = 6) (hc2 : ∀ l, l < glg G → co.getD l 0 = sp_after G c x l) : jMG (jup (jup (jup v 13 lh) 4 (v 4 + sp_gain G c x)) 5 (v 5 + 1)) (jup (jup (jup a 10 hb) 4 co) 1 lb) (up_drive G c x) := by
  obtain ⟨n0, ⟨l0, l1, l2, l3, l4, l5, l6, l7, l8⟩, h0, h1, h2, h3, h4, h5, h6, h7, h8, hr1, hr2⟩ := h
  refine ⟨n0, ⟨l0, hl, l2, l3, hc, l5, l6, l7, l8⟩, h0, hb2, h2, h3, hc2, h5, h6, h7, h8, ?_, ?_⟩
  · show v 4 + sp_gain G c x = gno G 0 + sp_gain G c x
    rw [hr1]
  · show v 5 + 1 = gno G 1 + 1
    rw [hr2]
theorem jm_drive (h : jMG v a G) (hs : jMl a) (h9 : ¬ 999 < gno G 1) {x k : Int32} : jx_W 8 jk_X7_drive 0 [some (.ref 0), some (.int x), some (.int k), none, none] [] (jM v a w u) (jMz v a w u (an_drive G x k) (up_driveO G x k)) := by
  have ho := h.ok
  have hn := h.lens
  unfold an_drive up_driveO
  refine jx_auto rfl trivial ?_
  refine jx_callE 2 rfl (by decide) (jm_isCovert h) ?_
  refine jx_if rfl (fun c1 => ?_) (fun c1 => ?_)
  · rw [if_neg c1, if_neg c1]
    obtain ⟨c, hc, rfl⟩ := sp_has_ex c1
    rw [nI_clamp (by omega)]
    refine jx_auto rfl trivial ?_
    refine jx_callE 2 rfl (by decide) jm_isWind ?_
    by_cases hw : -1 ≤ k ∧ k ≤ 1
    · rw [if_pos hw, if_pos hw, if_pos hw]
      refine jx_if rfl (fun _ => ?_) (fun c2 => absurd (show ¬ (1 : Int32) = 0 by decide) c2)
      refine jx_auto rfl trivial ?_
      rw [h.drives]
      refine jx_if rfl (fun c3 => ?_) (fun c3 => ?_)
      · have c4 : gno G 1 < 999 := by
          rw [Int32.lt_iff_toInt_lt] at h9 ⊢
          have e : ¬ (gno G 1).toInt = (999 : Int32).toInt := fun z => c3 (Int32.toInt_inj.mp z)
          omega
        rw [if_pos c4, if_pos c4]
        refine jx_auto rfl trivial ?_
        refine jx_call 6 rfl (by decide) (jm_driven h hs hc) (fun r h' hq => ?_)
        obtain ⟨hb, lh, co, rfl, rfl, q1, q2, q3, q4, q5⟩ := hq
        have loop : ∀ j i, i + j = gpg G → ∀ lb : List Int32, lb.length = 6 → (∀ p, p < i → lb.getD p 0 = sp_bag G c k p) → (∀ p, i ≤ p → p < gpg G → lb.getD p 0 = gbg G p) → jx_W 8 jk_X7_drive 54 [some (.ref 0), some (.int (nI c)), some (.int k), some (.int (sp_sum (fun p => sp_by (fun _ => 1) (sp_had G p c k)) i)), some (.int (nI i))] [] (jM (jup (jup v 13 lh) 4 (v 4 + sp_gain G c k)) (jup (jup (jup a 10 hb) 4 co) 1 lb) w u) (jMz v a w u (sp_many G c k) (up_drive G c k)) := by
          intro j
          induction j with
          | zero =>
            intro i hi lb hl hb1 hb2
            have e : i = gpg G := by omega
            subst e
            refine jx_auto rfl trivial ?_
            refine jx_if rfl (fun _ => ?_) (fun c1 => absurd (jc_end h.pegs (by omega) (by omega)) c1)
            refine jx_auto rfl trivial ?_
            refine jx_done rfl trivial ⟨jup (jup (jup v 13 lh) 4 (v 4 + sp_gain G c k)) 5 (v 5 + 1), jup (jup (jup a 10 hb) 4 co) 1 lb, rfl, rfl, jMG_drive h hl hb1 q4 q5, fun j hj => ?_, fun j hj => ?_, q1, hs.2⟩
            · rw [jup_n _ _ (by omega), jup_n _ _ (by omega), jup_n _ _ (by omega)]
            · rw [jup_n _ _ (by omega), jup_n _ _ (by omega), jup_n _ _ (by omega)]
          | succ j ih =>
            intro i hi lb hl hb1 hb2
            have hil : i < gpg G := by omega
            have iv : vp_in (nI i) lb.length := nI_in (by omega) (by omega)
            have iv2 : vp_in (nI i) hb.length := nI_in (by omega) (by omega)
            have eh : hb.getD (nI i).toNatClampNeg 0 = sp_opt (sp_had G i c k) := by rw [nI_clamp (by omega), q2 i hil]
            have el : lb.getD (nI i).toNatClampNeg 0 = gbg G i := by rw [nI_clamp (by omega), hb2 i (Nat.le_refl _) hil]
            have z2 := ih (i + 1) (by omega) (lb.set i (sp_bag G c k i)) (List.length_set.trans hl) (fun p hp => by
              by_cases e : p = i
              · subst e; rw [jl_getset (by omega)]
              · rw [jl_getne e, hb1 p (by omega)]) (fun p hp1 hp2 => by rw [jl_getne (by omega), hb2 p (by omega) hp2])
            refine jx_auto rfl trivial ?_
            refine jx_if rfl (fun c1 => absurd c1 (jc_on h.pegs (by omega) (by omega))) (fun _ => ?_)
            refine jx_auto rfl ⟨iv2, iv, trivial⟩ ?_
            have eh' : (jup (jup (jup a 10 hb) 4 co) 1 lb 10).getD (nI i).toNatClampNeg 0 = sp_opt (sp_had G i c k) := eh
            have el' : (jup (jup (jup a 10 hb) 4 co) 1 lb 1).getD (nI i).toNatClampNeg 0 = gbg G i := el
            rw [eh', el']
            have hlast : ∀ b, sp_had G i c k = some b → b < glg G := fun b hb => (sp_had_of hb).1
            cases hh : sp_had G i c k with
            | none =>
              rw [sp_sum, hh] at z2
              have hbag : sp_bag G c k i = gbg G i + 0 := by unfold sp_bag; rw [hh]; rfl
              refine jx_if rfl (fun c2 => absurd rfl c2) (fun _ => ?_)
              refine jx_auto rfl ⟨iv2, iv, trivial⟩ ?_
              have eh2 : (jup (jup (jup a 10 hb) 4 co) 1 lb 10).getD (nI i).toNatClampNeg 0 = -1 := by rw [eh', hh]; rfl
              rw [eh2]
              refine jx_if rfl (fun c2 => absurd rfl c2) (fun _ => ?_)
              refine jx_steps 6 rfl trivial ?_
              rw [nI_1]
              refine jx_at z2 rfl rfl rfl ?_
              rw [hbag, nI_clamp (by omega)]
              rfl
            | some b =>
              rw [sp_sum, hh] at z2
              have hbag : sp_bag G c k i = gbg G i + 1 := by unfold sp_bag; rw [hh]; rfl
              have hb9 : ¬ sp_opt (some b) = -1 := nI_ne1 (by have := hlast b hh; omega)
              refine jx_if rfl (fun _ => ?_) (fun c2 => absurd hb9 c2)
              refine jx_auto rfl ⟨iv2, iv, trivial⟩ ?_
              have eh2 : (jup (jup (jup a 10 hb) 4 co) 1 lb 10).getD (nI i).toNatClampNeg 0 = sp_opt (some b) := by rw [eh', hh]
              rw [eh2]
              refine jx_if rfl (fun _ => ?_) (fun c2 => absurd hb9 c2)
              refine jx_steps 5 rfl trivial ?_
              rw [nI_1]
              refine jx_at z2 rfl rfl rfl ?_
              rw [hbag, nI_clamp (by omega)]
              rfl
        refine jx_steps 6 rfl trivial ?_
        refine jx_at (loop (gpg G) 0 (by omega) (a 1) hn.2.1 (fun p hp => absurd hp (Nat.not_lt_zero _)) (fun p _ hp => h.bag hp)) rfl rfl rfl ?_
        rfl
      · have c4 : ¬ gno G 1 < 999 := by rw [Decidable.not_not.mp c3]; decide
        rw [if_neg c4, if_neg c4]
        refine jx_auto rfl trivial ?_
        exact jx_done rfl trivial ⟨v, a, rfl, rfl, h, fun _ _ => rfl, fun _ _ => rfl, hs⟩
    · rw [if_neg hw, if_neg hw, if_neg hw]
      refine jx_if rfl (fun c2 => absurd rfl c2) (fun _ => ?_)
      refine jx_auto rfl trivial ?_
      exact jx_done rfl trivial ⟨v, a, rfl, rfl, h, fun _ _ => rfl, fun _ _ => rfl, hs⟩
  · have c1 := Decidable.not_not.mp c1
    rw [if_pos c1, if_pos c1]
    refine jx_auto rfl trivial ?_
    exact jx_done rfl trivial ⟨v, a, rfl, rfl, h, fun _ _ => rfl, fun _ _ => rfl, hs⟩
end
