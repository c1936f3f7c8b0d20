section
variable {v : Nat → Int32} {a : Nat → List Int32} {w u : Int64} {G : jG}
theorem jl_getset {l : List Int32} {i : Nat} {x : Int32} (h : i < l.length) : (l.set i x).getD i 0 = x := by
  simp [List.getD, h]
theorem jl_getne {l : List Int32} {i j : Nat} {x : Int32} (h : j ≠ i) : (l.set i x).getD j 0 = l.getD j 0 := by
  simp [List.getD, List.getElem?_set_ne (Ne.symm h)]
/-- what driven() leaves -/
def jMd (v : Nat → Int32) (a : Nat → List Int32) (w u : Int64) (G : jG) (c : Nat) (x : Int32) : jx_Q := fun r h' =>
  ∃ (hb : List Int32) (lh : Int32) (co : List Int32), r = some (.int (sp_gain G c x)) ∧ h' = jM (jup v 13 lh) (jup (jup a 10 hb) 4 co) w u ∧ hb.length = 6 ∧ (∀ p, p < gpg G → hb.getD p 0 = sp_opt (sp_had G p c x)) ∧ jms lh (sp_taken G c x (gpg G)) ∧ co.length = 6 ∧ (∀ l, l < glg G → co.getD l 0 = sp_after G c x l)
theorem sp_rem {n : Nat} (hn : n ≤ 4) {c : Nat} (hc : c < n) : nI c + 1 - (nI c + 1) / nI n * nI n = nI (if c + 1 < n then c + 1 else 0) := by
  have : ∀ n, n ≤ 4 → ∀ c, c < n → nI c + 1 - (nI c + 1) / nI n * nI n = nI (if c + 1 < n then c + 1 else 0) := by decide +kernel
  exact this n hn c hc
theorem jm_driven (h : jMG v a G) (hs : jMl a) {c : Nat} (hc : c < gcv G) {x : Int32} : jx_W 6 jk_X7_driven 0 [some (.ref 0), some (.int (nI c)), some (.int x), none, none] [] (jM v a w u) (jMd v a w u G c x) := by
  have ho := h.ok
  have hn := h.lens
  -- the second loop
  have second : ∀ k i, i + k = glg G → ∀ (hb : List Int32) (lh : Int32) (co : List Int32), hb.length = 6 → (∀ p, p < gpg G → hb.getD p 0 = sp_opt (sp_had G p c x)) → jms lh (sp_taken G c x (gpg G)) → co.length = 6 → (∀ l, l < i → co.getD l 0 = sp_after G c x l) → (∀ l, i ≤ l → co.getD l 0 = (a 4).getD l 0) → jx_W 6 jk_X7_driven 106 [some (.ref 0), some (.int (nI c)), some (.int x), some (.int (sp_gain G c x)), some (.int (nI i))] [] (jM (jup v 13 lh) (jup (jup a 10 hb) 4 co) w u) (jMd v a w u G c x) := by
    intro k
    induction k with
    | zero =>
      intro i hi hb lh co q1 q2 q3 q4 q5 q6
      refine jx_auto rfl trivial ?_
      refine jx_if rfl (fun _ => ?_) (fun c1 => absurd (jc_end h.laughs (by omega) (by omega)) c1)
      refine jx_auto rfl trivial ?_
      exact jx_done rfl trivial ⟨hb, lh, co, rfl, rfl, q1, q2, q3, q4, fun l hl => q5 l (by omega)⟩
    | succ k ih =>
      intro i hi hb lh co q1 q2 q3 q4 q5 q6
      have hil : i < glg G := by omega
      have eco : (jup (jup a 10 hb) 4 co 4).getD (nI i).toNatClampNeg 0 = gco G i := by
        show co.getD (nI i).toNatClampNeg 0 = gco G i
        rw [nI_clamp (by omega), q6 i (Nat.le_refl i)]; exact h.co hil
      have stay : ∀ co2 : List Int32, co2.length = 6 → co2.getD i 0 = sp_after G c x i → (∀ l, l ≠ i → co2.getD l 0 = co.getD l 0) → jx_W 6 jk_X7_driven 157 [some (.ref 0), some (.int (nI c)), some (.int x), some (.int (sp_gain G c x)), some (.int (nI i))] [] (jM (jup v 13 lh) (jup (jup a 10 hb) 4 co2) w u) (jMd v a w u G c x) := by
        intro co2 r1 r2 r3
        refine jx_steps 2 rfl trivial ?_
        rw [nI_1]
        refine ih (i + 1) (by omega) hb lh co2 q1 q2 q3 r1 (fun l hl => ?_) (fun l hl => ?_)
        · by_cases e : l = i
          · rw [e]; exact r2
          · rw [r3 l e]; exact q5 l (by omega)
        · rw [r3 l (by omega)]; exact q6 l (by omega)
      refine jx_auto rfl trivial ?_
      refine jx_if rfl (fun c1 => absurd c1 (jc_on h.laughs (by omega) (by omega))) (fun _ => ?_)
      refine jx_auto rfl ⟨?_, trivial⟩ ?_
      · show vp_in (nI i) co.length
        exact vp_in_nI (by omega) (by omega)
      rw [eco]
      refine jx_if rfl (fun c1 => ?_) (fun c1 => ?_)
      · refine stay co q4 ?_ (fun l _ => rfl)
        rw [q6 i (Nat.le_refl i), sp_after, if_neg c1]; exact h.co hil
      · have c1 : gco G i = nI c := by simpa using c1
        refine jx_auto rfl trivial ?_
        refine jx_callE 1 rfl (by decide) (jm_isIn (x := lh) q3 (show i < 6 by omega)) ?_
        refine jx_if rfl (fun c2 => ?_) (fun c2 => ?_)
        · have c2 : ¬ sp_taken G c x (gpg G) i = true := fun z => by rw [if_pos z] at c2; cases c2
          have hcv : (jup v 13 lh 2) = nI (gcv G) := h.coverts
          refine jx_steps 6 rfl ⟨?_, trivial⟩ ?_
          · show ¬ (v 2 = 0)
            rw [h.coverts]; exact nI_ne0 (by omega) (by omega)
          dsimp only
          rw [hcv, sp_rem ho.2.1 hc]
          refine jx_steps 1 rfl ⟨?_, trivial⟩ ?_
          · show vp_in (nI i) co.length
            exact vp_in_nI (by omega) (by omega)
          rw [nI_clamp (by omega)]
          refine jx_at (stay (co.set i (nI (sp_next G c))) (by simpa using q4) ?_ (fun l hl => jl_getne hl)) rfl rfl rfl rfl
          rw [jl_getset (by omega), sp_after, if_pos c1, if_neg c2]
        · have c2 : sp_taken G c x (gpg G) i = true := by
            by_cases q : sp_taken G c x (gpg G) i = true
            · exact q
            · exact absurd (if_neg q) c2
          refine jx_steps 3 rfl ⟨?_, trivial⟩ ?_
          · show vp_in (nI i) co.length
            exact vp_in_nI (by omega) (by omega)
          rw [nI_clamp (by omega)]
          refine jx_at (stay (co.set i (-1)) (by simpa using q4) ?_ (fun l hl => jl_getne hl)) rfl rfl rfl rfl
          rw [jl_getset (by omega), sp_after, if_pos c1, if_pos c2]
  -- the first
  have first : ∀ k i, i + k = gpg G → ∀ (hb : List Int32) (lh : Int32), hb.length = 6 → (∀ p, p < i → hb.getD p 0 = sp_opt (sp_had G p c x)) → jms lh (sp_taken G c x i) → jx_W 6 jk_X7_driven 10 [some (.ref 0), some (.int (nI c)), some (.int x), some (.int (sp_sum (fun p => sp_by (fun b => sp_height G b c) (sp_had G p c x)) i)), some (.int (nI i))] [] (jM (jup v 13 lh) (jup a 10 hb) w u) (jMd v a w u G c x) := by
    intro k
    induction k with
    | zero =>
      intro i hi hb lh q1 q2 q3
      have e : i = gpg G := by omega
      refine jx_auto rfl trivial ?_
      refine jx_if rfl (fun _ => ?_) (fun c1 => absurd (jc_end h.pegs (by omega) (by omega)) c1)
      refine jx_steps 2 rfl trivial ?_
      subst e
      refine jx_at (second (glg G) 0 (by omega) hb lh (a 4) q1 q2 q3 hn.2.2.2.2.1 (fun l hl => absurd hl (Nat.not_lt_zero l)) (fun l _ => rfl)) rfl rfl rfl ?_
      rfl
    | succ k ih =>
      intro i hi hb lh q1 q2 q3
      have hip : i < gpg G := by omega
      refine jx_auto rfl trivial ?_
      refine jx_if rfl (fun c1 => absurd c1 (jc_on h.pegs (by omega) (by omega))) (fun _ => ?_)
      refine jx_auto rfl trivial ?_
      refine jx_callE 5 rfl (by decide) (jm_hadAt (v := jup v 13 lh) (a := jup a 10 hb) (w := w) (u := u) (G := G) h hip hc) ?_
      refine jx_steps 1 rfl ⟨?_, trivial⟩ ?_
      · show vp_in (nI i) hb.length
        exact vp_in_nI (by omega) (by omega)
      rw [nI_clamp (by omega)]
      obtain ⟨hb2, ehb⟩ : ∃ z, z = hb.set i (sp_opt (sp_had G i c x)) := ⟨_, rfl⟩
      have l2 : hb2.length = 6 := by rw [ehb]; simpa using q1
      have e2 : (jup a 10 hb2 10).getD (nI i).toNatClampNeg 0 = sp_opt (sp_had G i c x) := by
        show hb2.getD (nI i).toNatClampNeg 0 = _
        rw [nI_clamp (by omega), ehb, jl_getset (by omega)]
      have q2' : ∀ p, p < i + 1 → hb2.getD p 0 = sp_opt (sp_had G p c x) := by
        intro p hp
        by_cases e : p = i
        · rw [e, ehb, jl_getset (by omega)]
        · rw [ehb, jl_getne e]; exact q2 p (by omega)
      have hv : vp_in (nI i) (jup a 10 hb2 10).length := by
        show vp_in (nI i) hb2.length
        exact vp_in_nI (by omega) (by omega)
      refine jx_at (h' := jM (jup v 13 lh) (jup a 10 hb2) w u) ?_ rfl rfl rfl (by rw [ehb]; rfl)
      have last : ∀ lh2 : Int32, lh2 = (match sp_had G i c x with | none => 0 | some b => (1 : Int32) <<< (nI b &&& 31)) → jx_W 6 jk_X7_driven 93 [some (.ref 0), some (.int (nI c)), some (.int x), some (.int (sp_sum (fun p => sp_by (fun b => sp_height G b c) (sp_had G p c x)) (i + 1))), some (.int (nI i))] [.int lh2, .int lh, .ref 0] (jM (jup v 13 lh) (jup a 10 hb2) w u) (jMd v a w u G c x) := by
        intro lh2 elh
        refine jx_steps 4 rfl trivial ?_
        rw [nI_1]
        refine jx_at (ih (i + 1) (by omega) hb2 (lh ||| lh2) l2 q2' ?_) rfl rfl rfl rfl
        cases hq : sp_had G i c x with
        | none =>
          rw [hq] at elh
          dsimp only at elh
          rw [elh, Int32.or_zero]
          refine jms_congr q3 (fun l _ => ?_)
          rw [sp_taken, hq]; simp
        | some b =>
          rw [hq] at elh
          dsimp only at elh
          rw [elh]
          refine jms_congr (jms_or q3 (show b < 6 by have := (sp_had_of hq).1; omega)) (fun l _ => ?_)
          rw [sp_taken, hq]
          simp
      have mid : ∀ y : Int32, y = sp_by (fun b => sp_height G b c) (sp_had G i c x) → jx_W 6 jk_X7_driven 62 [some (.ref 0), some (.int (nI c)), some (.int x), some (.int (sp_sum (fun p => sp_by (fun b => sp_height G b c) (sp_had G p c x)) i)), some (.int (nI i))] [.int y, .int (sp_sum (fun p => sp_by (fun b => sp_height G b c) (sp_had G p c x)) i)] (jM (jup v 13 lh) (jup a 10 hb2) w u) (jMd v a w u G c x) := by
        intro y ey
        refine jx_auto rfl ⟨hv, trivial⟩ ?_
        rw [e2, ey]
        cases hq : sp_had G i c x with
        | none =>
          rw [hq] at last
          refine jx_if rfl (fun c1 => absurd rfl c1) (fun _ => ?_)
          refine jx_steps 2 rfl trivial ?_
          refine jx_at (last 0 rfl) rfl ?_
          rw [sp_sum, hq] <;> rfl
        | some b =>
          rw [hq] at last e2
          have hbl := (sp_had_of hq).1
          refine jx_if rfl (fun _ => ?_) (fun c1 => absurd (nI_ne1 (show b < 2 ^ 31 by omega)) c1)
          refine jx_steps 6 rfl ⟨hv, trivial⟩ ?_
          rw [e2]
          refine jx_at (last ((1 : Int32) <<< (nI b &&& 31)) rfl) rfl ?_
          rw [sp_sum, hq] <;> rfl
      refine jx_auto rfl ⟨hv, trivial⟩ ?_
      rw [e2]
      cases hq : sp_had G i c x with
      | none =>
        rw [hq] at mid
        refine jx_if rfl (fun c1 => absurd rfl c1) (fun _ => ?_)
        refine jx_steps 2 rfl trivial ?_
        exact mid 0 rfl
      | some b =>
        rw [hq] at mid e2
        have hbl := (sp_had_of hq).1
        refine jx_if rfl (fun _ => ?_) (fun c1 => absurd (nI_ne1 (show b < 2 ^ 31 by omega)) c1)
        refine jx_auto rfl ⟨hv, trivial⟩ ?_
        rw [e2]
        refine jx_callE 1 rfl (by decide) (jm_heightFrom (v := jup v 13 lh) (a := jup a 10 hb2) (w := w) (u := u) (G := G) h hbl hc) ?_
        exact mid (sp_height G b c) rfl
  refine jx_steps 7 rfl trivial ?_
  refine jx_at (first (gpg G) 0 (by omega) (a 10) 0 hs.1 (fun p hp => absurd hp (Nat.not_lt_zero p)) jms_0) rfl rfl rfl ?_
  rfl
end
