/-! the reference reads THE PAGE -/
theorem fig_k : ∀ c, c < 127 → ∀ m, m < 10 → ((0 : Int32) ≤ nI c - 48 ∧ nI c - 48 ≤ nI m ↔ 48 ≤ c ∧ c ≤ 48 + m) := by decide +kernel
def rl (cc : Nat → Nat) (q k : Nat) : Nat :=
  if jx_kindC (nI (cc k)) = -1 then k
  else if ¬ (dig (cc (k + 1)) ∧ cc (k + 1) < 48 + q) then k + 1
  else if ¬ dig (cc (k + 2)) then k + 2 else k + 3
theorem pgcc_b {t : Nat} {f : Nat → Int32} (h : pgok t f) (k : Nat) : pgcc t f k ≤ 126 := by
  by_cases hk : k < t
  · exact (pgcc_in h hk).2
  · rw [pgcc_out k (by omega)]; omega
section
variable {v : Nat → Int32} {a : Nat → List Int32} {w u : Int64} {t : Nat} {f : Nat → Int32}
theorem jm_kindBy {h : jx_H} {x : Int32} : jx_W 1 jk_X7_kindBy 0 [some (.int x)] [] h (jx_is (some (.int (jx_kindC x))) h) := by
  unfold jx_kindC
  refine jx_auto rfl trivial ?_
  refine jx_switch rfl ⟨fun e => ?_, fun e1 => ⟨fun e => ?_, fun e2 => ⟨fun e => ?_, fun e3 => ⟨fun e => ?_, fun e4 => ⟨fun e => ?_, fun e5 => ?_⟩⟩⟩⟩⟩
  · refine jx_auto rfl trivial ?_
    exact jx_ends rfl trivial (by rw [e]; rfl)
  · refine jx_auto rfl trivial ?_
    exact jx_ends rfl trivial (by rw [e]; rfl)
  · refine jx_auto rfl trivial ?_
    exact jx_ends rfl trivial (by rw [e]; rfl)
  · refine jx_auto rfl trivial ?_
    exact jx_ends rfl trivial (by rw [e]; rfl)
  · refine jx_auto rfl trivial ?_
    exact jx_ends rfl trivial (by rw [e]; rfl)
  · refine jx_auto rfl trivial ?_
    exact jx_ends rfl trivial (by rw [if_neg e4, if_neg e5, if_neg e2, if_neg e1, if_neg e3])
theorem jm_at (hp : jpgM v a t f) (hok : pgok t f) {k : Nat} (hk : k < 100) : jx_W 1 jk_X7_at 0 [some (.ref 0), some (.int (nI k))] [] (jM v a w u) (jx_is (some (.int (nI (pgcc t f k)))) (jM v a w u)) := by
  obtain ⟨p1, p2, p3, p4⟩ := hp
  refine jx_auto rfl trivial ?_
  rw [p1]
  by_cases hkt : k < t
  · refine jx_if rfl (fun c1 => absurd c1 (nI_ge hkt (by omega))) (fun _ => ?_)
    refine jx_auto rfl ⟨vp_in_nI (by omega) (by omega), trivial⟩ ?_
    refine jx_ends rfl trivial ?_
    rw [nI_clamp (by omega), p4 k hkt, (pgcc_in hok hkt).1]
  · refine jx_if rfl (fun _ => ?_) (fun c1 => absurd (nI_le (by omega) (by omega)) c1)
    refine jx_auto rfl trivial ?_
    refine jx_ends rfl trivial ?_
    rw [pgcc_out k (by omega)]
    rfl
theorem jm_isFigure (hp : jpgM v a t f) (hok : pgok t f) {k m : Nat} (hk : k < 100) (hm : m < 10) : jx_W 2 jk_X7_isFigure 0 [some (.ref 0), some (.int (nI k)), some (.int (nI m))] [] (jM v a w u) (jx_is (some (.int (if 48 ≤ pgcc t f k ∧ pgcc t f k ≤ 48 + m then 1 else 0))) (jM v a w u)) := by
  have hc := pgcc_b hok k
  refine jx_auto rfl trivial ?_
  refine jx_callE 1 rfl (by decide) (jm_at hp hok hk) ?_
  refine jx_auto rfl trivial ?_
  refine jx_callE 1 rfl (by decide) jm_within ?_
  have hi := fig_k (pgcc t f k) (by omega) m hm
  refine jx_ends rfl ⟨?_, trivial⟩ ?_
  · split
    · exact Or.inr rfl
    · exact Or.inl rfl
  · dsimp only
    by_cases z : 48 ≤ pgcc t f k ∧ pgcc t f k ≤ 48 + m
    · rw [if_pos z, if_pos (hi.mpr z)]
    · rw [if_neg z, if_neg (fun y => z (hi.mp y))]
theorem jm_figures (hp : jpgM v a t f) (hok : pgok t f) {k m : Nat} (hk : k < 50) (hm : m < 10) : jx_W 3 jk_X7_figures 0 [some (.ref 0), some (.int (nI k)), some (.int (nI m)), none] [] (jM v a w u) (jx_is (some (.int (nI (fgN (pgcc t f) k m)))) (jM v a w u)) := by
  have loop : ∀ n i, i + n = m → i + fgN (pgcc t f) (k + i) n = fgN (pgcc t f) k m → jx_W 3 jk_X7_figures 2 [some (.ref 0), some (.int (nI k)), some (.int (nI m)), some (.int (nI i))] [] (jM v a w u) (jx_is (some (.int (nI (fgN (pgcc t f) k m)))) (jM v a w u)) := by
    intro n
    induction n with
    | zero =>
      intro i hi he
      refine jx_auto rfl trivial ?_
      refine jx_if rfl (fun _ => ?_) (fun c1 => absurd (nI_le (by omega) (by omega)) c1)
      refine jx_auto rfl trivial ?_
      refine jx_ends rfl trivial ?_
      rw [← he]; rfl
    | succ n ih =>
      intro i hi he
      refine jx_auto rfl trivial ?_
      refine jx_if rfl (fun c1 => absurd c1 (nI_ge (by omega) (by omega))) (fun _ => ?_)
      refine jx_auto rfl trivial ?_
      dsimp only
      rw [nI_add]
      refine jx_callE 2 rfl (by decide) (jm_isFigure hp hok (k := k + i) (m := 9) (by omega) (by decide)) ?_
      rw [fgN] at he
      by_cases hd : dig (pgcc t f (k + i))
      · rw [if_pos hd] at he
        rw [if_pos (show 48 ≤ pgcc t f (k + i) ∧ pgcc t f (k + i) ≤ 48 + 9 by omega)]
        refine jx_if rfl (fun c1 => absurd (show (1 : Int32) = 0 from c1) (by decide)) (fun _ => ?_)
        refine jx_steps 2 rfl trivial ?_
        rw [nI_1]
        refine ih (i + 1) (by omega) ?_
        rw [show k + (i + 1) = k + i + 1 by omega]
        omega
      · rw [if_neg hd] at he
        rw [if_neg (show ¬ (48 ≤ pgcc t f (k + i) ∧ pgcc t f (k + i) ≤ 48 + 9) by omega)]
        refine jx_if rfl (fun _ => ?_) (fun c1 => absurd rfl c1)
        refine jx_auto rfl trivial ?_
        refine jx_ends rfl trivial ?_
        rw [← he]; rfl
  refine jx_steps 2 rfl trivial ?_
  exact loop m 0 (by omega) (by rw [Nat.add_zero, Nat.zero_add])
theorem jm_readLaugh (hp : jpgM v a t f) (hok : pgok t f) {k q : Nat} (hk : k < 90) (hq : v 11 = nI q) (hq1 : 1 ≤ q) (hq4 : q ≤ 4) : jx_W 3 jk_X7_readLaugh 0 [some (.ref 0), some (.int (nI k))] [] (jM v a w u) (jx_is (some (.int (nI (rl (pgcc t f) q k)))) (jM v a w u)) := by
  unfold rl
  refine jx_auto rfl trivial ?_
  refine jx_callE 1 rfl (by decide) (jm_at hp hok (by omega)) ?_
  refine jx_auto rfl trivial ?_
  refine jx_callE 1 rfl (by decide) jm_kindBy ?_
  refine jx_auto rfl trivial ?_
  refine jx_if rfl (fun c1 => ?_) (fun c1 => ?_)
  · rw [if_neg c1]
    refine jx_auto rfl trivial ?_
    dsimp only
    rw [nI_1, hq, show nI q - 1 = nI (q - 1) from pk_sub (b := 1) hq1]
    refine jx_callE 2 rfl (by decide) (jm_isFigure hp hok (k := k + 1) (m := q - 1) (by omega) (by omega)) ?_
    by_cases hd : dig (pgcc t f (k + 1)) ∧ pgcc t f (k + 1) < 48 + q
    · rw [if_neg (Decidable.not_not.mpr hd), if_pos (show 48 ≤ pgcc t f (k + 1) ∧ pgcc t f (k + 1) ≤ 48 + (q - 1) by omega)]
      refine jx_if rfl (fun _ => ?_) (fun c2 => absurd (show ¬ (1 : Int32) = 0 by decide) c2)
      refine jx_auto rfl trivial ?_
      dsimp only
      rw [show nI k + 2 = nI (k + 2) from nI_add k 2]
      refine jx_callE 2 rfl (by decide) (jm_isFigure hp hok (k := k + 2) (m := 9) (by omega) (by decide)) ?_
      by_cases hd2 : dig (pgcc t f (k + 2))
      · rw [if_neg (Decidable.not_not.mpr hd2), if_pos (show 48 ≤ pgcc t f (k + 2) ∧ pgcc t f (k + 2) ≤ 48 + 9 by omega)]
        refine jx_if rfl (fun _ => ?_) (fun c2 => absurd (show ¬ (1 : Int32) = 0 by decide) c2)
        refine jx_auto rfl trivial ?_
        refine jx_ends rfl trivial ?_
        rw [← nI_add k 3]
        rfl
      · rw [if_pos hd2, if_neg (show ¬ (48 ≤ pgcc t f (k + 2) ∧ pgcc t f (k + 2) ≤ 48 + 9) by omega)]
        refine jx_if rfl (fun c2 => absurd rfl c2) (fun _ => ?_)
        refine jx_auto rfl trivial ?_
        refine jx_ends rfl trivial ?_
        rw [← nI_add k 2]
        rfl
    · rw [if_pos hd, if_neg (show ¬ (48 ≤ pgcc t f (k + 1) ∧ pgcc t f (k + 1) ≤ 48 + (q - 1)) by omega)]
      refine jx_if rfl (fun c2 => absurd rfl c2) (fun _ => ?_)
      refine jx_auto rfl trivial ?_
      refine jx_ends rfl trivial ?_
      rw [← nI_add k 1]
      rfl
  · have c1 := Decidable.not_not.mp c1
    rw [if_pos c1]
    refine jx_auto rfl trivial ?_
    exact jx_ends rfl trivial
/-- what reading laughs leaves -/
def jMw (v : Nat → Int32) (a : Nat → List Int32) (w u : Int64) (B : Nat × Bool × Nat) : jx_Q := fun r h' => ∃ v', r = some (.int (nI B.1)) ∧ h' = jM v' a w u ∧ (∀ j, j ≠ 9 → j ≠ 12 → v' j = v j) ∧ v' 9 = (if B.2.1 = true then 1 else 0) ∧ (B.2.1 = true → v' 12 = nI B.2.2)
theorem jm_readLaughs (hp : jpgM v a t f) (hok : pgok t f) {q : Nat} (hq : v 11 = nI q) (hq1 : 1 ≤ q) (hq4 : q ≤ 4) {k0 : Nat} (hk0 : k0 ≤ 12) : jx_W 4 jk_X7_readLaughs 0 [some (.ref 0), some (.int (nI k0)), none, none] [] (jM (jup (jup v 9 0) 12 (nI 0)) a w u) (jMw v a w u (rd_l (pgcc t f) t q 6 0 k0)) := by
  have hcc : ∀ k, t ≤ k → pgcc t f k = 0 := pgcc_out
  have loop : ∀ n j k (z3 : Option Value), n + j = 6 → 0 < n → k + 4 * n ≤ 60 → jx_W 4 jk_X7_readLaughs 2 [some (.ref 0), some (.int (nI k0)), some (.int (nI k)), z3] [] (jM (jup (jup v 9 0) 12 (nI j)) a w u) (jMw v a w u (rd_l (pgcc t f) t q n j k)) := by
    intro n
    induction n with
    | zero => intro j k z3 _ h0; omega
    | succ n ih =>
      intro j k z3 hj h0 hk
      have hp1 : jpgM (jup (jup v 9 0) 12 (nI j)) a t f := hp
      have early : ∀ e, e ≠ k + 3 → e < 100 → rl (pgcc t f) q k = e → jx_W 4 jk_X7_readLaughs 16 [some (.ref 0), some (.int (nI k0)), some (.int (nI k)), z3] [.int (nI e)] (jM (jup (jup v 9 0) 12 (nI j)) a w u) (jMw v a w u (e, false, j)) := by
        intro e he he2 _
        refine jx_auto rfl trivial ?_
        dsimp only
        rw [show nI k + 3 = nI (k + 3) from nI_add k 3]
        refine jx_if rfl (fun c1 => absurd ((nI_eq (by omega) (by omega)).mp c1) he) (fun _ => ?_)
        refine jx_auto rfl trivial ?_
        exact jx_done rfl trivial ⟨_, rfl, rfl, fun i h9 h12 => by rw [jup_n _ _ h12, jup_n _ _ h9], rfl, fun z => by cases z⟩
      have hrl : ∀ e, rl (pgcc t f) q k = e → jx_W 4 jk_X7_readLaughs 16 [some (.ref 0), some (.int (nI k0)), some (.int (nI k)), z3] [.int (nI e)] (jM (jup (jup v 9 0) 12 (nI j)) a w u) (jMw v a w u (rd_l (pgcc t f) t q (n + 1) j k)) → jx_W 4 jk_X7_readLaughs 2 [some (.ref 0), some (.int (nI k0)), some (.int (nI k)), z3] [] (jM (jup (jup v 9 0) 12 (nI j)) a w u) (jMw v a w u (rd_l (pgcc t f) t q (n + 1) j k)) := by
        intro e he kk
        refine jx_auto rfl trivial ?_
        refine jx_if rfl (fun c1 => absurd c1 (nI_ge (b := 6) (by omega) (by decide))) (fun _ => ?_)
        refine jx_auto rfl trivial ?_
        refine jx_callE 3 rfl (by decide) (jm_readLaugh hp1 hok (by omega) hq hq1 hq4) ?_
        rw [he]
        exact kk
      rw [rd_l] at hrl ⊢
      by_cases h1 : jx_kindC (nI (pgcc t f k)) = -1
      · rw [if_pos h1] at hrl ⊢
        have e : rl (pgcc t f) q k = k := by unfold rl; rw [if_pos h1]
        exact hrl k e (early k (by omega) (by omega) e)
      · rw [if_neg h1] at hrl ⊢
        by_cases h2 : dig (pgcc t f (k + 1)) ∧ pgcc t f (k + 1) < 48 + q
        · rw [if_neg (Decidable.not_not.mpr h2)] at hrl ⊢
          by_cases h3 : dig (pgcc t f (k + 2))
          · rw [if_neg (Decidable.not_not.mpr h3)] at hrl ⊢
            have e : rl (pgcc t f) q k = k + 3 := by unfold rl; rw [if_neg h1, if_neg (Decidable.not_not.mpr h2), if_neg (Decidable.not_not.mpr h3)]
            refine hrl (k + 3) e ?_
            have hp2 : ∀ b : Int32, jpgM (jup (jup v 9 b) 12 (nI (j + 1))) a t f := fun b => hp
            -- behind a laugh
            have behind : ∀ b : Bool, b = (decide (k + 3 = t) && decide (1 < j + 1)) → jx_W 4 jk_X7_readLaughs 60 [some (.ref 0), some (.int (nI k0)), some (.int (nI (k + 3))), some (.int (nI (k + 3)))] [.int (if b = true then 1 else 0), .ref 0] (jM (jup (jup v 9 0) 12 (nI (j + 1))) a w u) (jMw v a w u (if n = 0 ∨ ¬ pgcc t f (k + 3) = 44 then (k + 3, decide (k + 3 = t) && decide (1 < j + 1), j + 1) else rd_l (pgcc t f) t q n (j + 1) (k + 4))) := by
              intro b hb
              have stop : n = 0 ∨ ¬ pgcc t f (k + 3) = 44 → jx_W 4 jk_X7_readLaughs 82 [some (.ref 0), some (.int (nI k0)), some (.int (nI (k + 3))), some (.int (nI (k + 3)))] [] (jM (jup (jup v 9 (if b = true then 1 else 0)) 12 (nI (j + 1))) a w u) (jMw v a w u (if n = 0 ∨ ¬ pgcc t f (k + 3) = 44 then (k + 3, decide (k + 3 = t) && decide (1 < j + 1), j + 1) else rd_l (pgcc t f) t q n (j + 1) (k + 4))) := by
                intro hs
                rw [if_pos hs, ← hb]
                refine jx_auto rfl trivial ?_
                exact jx_done rfl trivial ⟨_, rfl, rfl, fun i h9 h12 => by rw [jup_n _ _ h12, jup_n _ _ h9], rfl, fun _ => rfl⟩
              refine jx_steps 4 rfl ⟨by cases b; exact Or.inl rfl; exact Or.inr rfl, trivial⟩ ?_
              refine jx_at (h' := jM (jup (jup v 9 (if b = true then 1 else 0)) 12 (nI (j + 1))) a w u) ?_ rfl rfl rfl rfl
              by_cases hn : n = 0
              · refine jx_if rfl (fun _ => stop (Or.inl hn)) (fun c1 => absurd (show nI (j + 1) = 6 by rw [show j + 1 = 6 by omega]; rfl) c1)
              · refine jx_if rfl (fun c1 => absurd ((nI_eq (a := j + 1) (b := 6) (by omega) (by decide)).mp c1) (by omega)) (fun _ => ?_)
                refine jx_auto rfl trivial ?_
                refine jx_callE 1 rfl (by decide) (jm_at (hp2 _) hok (by omega)) ?_
                refine jx_auto rfl trivial ?_
                have hcb := pgcc_b hok (k + 3)
                by_cases h44 : pgcc t f (k + 3) = 44
                · refine jx_if rfl (fun _ => ?_) (fun c1 => absurd (show nI (pgcc t f (k + 3)) = 44 by rw [h44]; rfl) c1)
                  have hlt : k + 3 < t := by
                    by_cases z : t ≤ k + 3
                    · rw [hcc _ z] at h44; cases h44
                    · omega
                  have hbf : b = false := by
                    rw [hb]
                    have : decide (k + 3 = t) = false := by simp; omega
                    rw [this]; rfl
                  have hno : ¬ (n = 0 ∨ ¬ pgcc t f (k + 3) = 44) := fun y => y.elim hn (fun y2 => y2 h44)
                  rw [if_neg hno]
                  subst hbf
                  refine jx_steps 2 rfl trivial ?_
                  rw [nI_1]
                  exact ih (j + 1) (k + 4) _ (by omega) (by omega) (by omega)
                · refine jx_if rfl (fun c1 => absurd ((nI_eq (b := 44) (by omega) (by decide)).mp c1) h44) (fun _ => stop (Or.inr h44))
            refine jx_auto rfl trivial ?_
            dsimp only
            rw [show nI k + 3 = nI (k + 3) from nI_add k 3]
            refine jx_if rfl (fun _ => ?_) (fun c1 => absurd rfl c1)
            refine jx_auto rfl trivial ?_
            have ev : jup (jup v 9 0) 12 (nI j) 8 = nI t := hp.1
            have eW : ∀ h : jx_H, h = jM (jup (jup v 9 0) 12 (nI j + 1)) a w u → h = jM (jup (jup v 9 0) 12 (nI (j + 1))) a w u := fun h e => by rw [e, nI_1]
            refine jx_at (h' := jM (jup (jup v 9 0) 12 (nI (j + 1))) a w u) ?_ rfl rfl rfl (eW _ rfl)
            rw [ev]
            by_cases hkt : k + 3 = t
            · refine jx_if rfl (fun c1 => absurd (by rw [hkt]) c1) (fun _ => ?_)
              refine jx_auto rfl trivial ?_
              by_cases hj1 : 1 < j + 1
              · refine jx_if rfl (fun c1 => absurd c1 (nI_ge (a := 1) (b := j + 1) hj1 (by omega))) (fun _ => ?_)
                refine jx_steps 2 rfl trivial ?_
                exact behind true (by simp [hkt, hj1])
              · refine jx_if rfl (fun _ => ?_) (fun c1 => absurd (nI_le (a := j + 1) (b := 1) (by omega) (by decide)) c1)
                refine jx_steps 1 rfl trivial ?_
                exact behind false (by simp [hj1])
            · refine jx_if rfl (fun _ => ?_) (fun c1 => absurd (fun z => hkt ((nI_eq (by omega) (by have := hp.2.1; omega)).mp z)) c1)
              refine jx_steps 1 rfl trivial ?_
              exact behind false (by simp [hkt])
          · rw [if_pos h3] at hrl ⊢
            have e : rl (pgcc t f) q k = k + 2 := by unfold rl; rw [if_neg h1, if_neg (Decidable.not_not.mpr h2), if_pos h3]
            exact hrl (k + 2) e (early (k + 2) (by omega) (by omega) e)
        · rw [if_pos h2] at hrl ⊢
          have e : rl (pgcc t f) q k = k + 1 := by unfold rl; rw [if_neg h1, if_pos h2]
          exact hrl (k + 1) e (early (k + 1) (by omega) (by omega) e)
  refine jx_steps 2 rfl trivial ?_
  exact loop 6 0 k0 none (by omega) (by omega) (by omega)
end
