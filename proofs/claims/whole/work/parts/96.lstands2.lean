/-! stands, LaughDrive's side -/
theorem st_row {G : jG} {c : Nat} {x : Int32} (h : gpg G ≤ 6) : (st G c x).2.length = gpg G ∧ ∀ k ∈ (st G c x).2, k < gpg G := pl_best_row (nx_ch6 (gpg G) (by omega))
theorem sV_cons {G : jG} {c : Nat} {x : Int32} (hp : gpg G ≤ 6) {g : Nat} (hg : g < 2 ^ gpg G) {k : Nat} {r : List Nat} (h : (sV G c x g).2 = k :: r) : g < 2 ^ gpg G - 1 ∧ k < gpg G ∧ g.testBit k = false ∧ r = (sV G c x (g ||| 2 ^ k)).2 := by
  have hlt : g < 2 ^ gpg G - 1 := by
    by_cases e : g = 2 ^ gpg G - 1
    · rw [e, sV_end hp] at h; cases h
    · omega
  obtain ⟨k2, h1, h2, h3⟩ := sw_some (c := c) (x := x) hp hlt
  rw [sV_step hp hlt, h3] at h
  have h4 : k2 :: (sV G c x (g ||| 2 ^ k2)).2 = k :: r := h
  obtain ⟨rfl, rfl⟩ := List.cons.inj h4
  exact ⟨hlt, h1, h2, rfl⟩
def an_stands (G : jG) (s : Nat) (x y k : Int32) : Int32 := if sp_has (gcv G) x = 0 then -101 else if (-1 ≤ y ∧ y ≤ 1) ∧ sp_row k 6 = 1 then (if s < 20 then an_row (gpg G) (st G x.toNatClampNeg y) k else -103) else -102
def up_asks (G : jG) (s : Nat) (x y k : Int32) : Nat := if sp_has (gcv G) x = 0 then s else if (-1 ≤ y ∧ y ≤ 1) ∧ sp_row k 6 = 1 then (if s < 20 then s + 1 else s) else s
def jLu (v : Nat → Int32) (a : Nat → List Int32) (w : Int64) (r : Int32) (s : Nat) : jx_Q := fun r' h' => ∃ v' a', r' = some (.int r) ∧ h' = jL v' a' w ∧ v' 2 = nI s ∧ (∀ j, j ≠ 2 → v' j = v j) ∧ (∀ j, j < 17 → a' j = a j) ∧ jLl a'
section
variable {v : Nat → Int32} {a : Nat → List Int32} {w : Int64} {G : jG}
theorem jl_standsPeg (h : jLG v a G) {c : Nat} {x : Int32} {lw ln : List Int32} (hT : sT G c x lw ln 0) {m : Nat} (hm : m < 6) : jx_W 2 jk_X2_standsPeg 0 [some (.ref 5), some (.int (nI m)), none, none] [] (jL v (jup (jup a 18 lw) 19 ln) w) (jx_is (some (.int (an_row (gpg G) (st G c x) (nI (10 + m))))) (jL v (jup (jup a 18 lw) 19 ln) w)) := by
  have ho := h.ok
  have h64 : 2 ^ gpg G ≤ 64 := Nat.pow_le_pow_right (n := 2) (by decide) ho.1
  have h1 : 1 ≤ 2 ^ gpg G := Nat.one_le_two_pow
  obtain ⟨hT1, hT2, hT3⟩ := hT
  obtain ⟨hZ1, hZ2⟩ := st_row (G := G) (c := c) (x := x) ho.1
  have hG1 : jLG v (jup (jup a 18 lw) 19 ln) G := h
  have exit : ∀ t g, t ≤ gpg G → (t = m ∨ (t = gpg G ∧ gpg G ≤ m)) → g < 2 ^ gpg G → (st G c x).2.drop t = (sV G c x g).2 → jx_W 2 jk_X2_standsPeg 39 [some (.ref 5), some (.int (nI m)), some (.int (nI g)), some (.int (nI t))] [] (jL v (jup (jup a 18 lw) 19 ln) w) (jx_is (some (.int (an_row (gpg G) (st G c x) (nI (10 + m))))) (jL v (jup (jup a 18 lw) 19 ln) w)) := by
    intro t g ht hc1 hg hrow
    unfold an_row
    rw [if_neg (row_n0 hm), row_sub, nI_clamp (by omega)]
    refine jx_auto rfl trivial ?_
    refine jx_callE 1 rfl (by decide) (jl_hasPeg hG1) ?_
    by_cases hmn : m < gpg G
    · rw [sp_has_in hmn (by omega), if_pos hmn]
      have etm : t = m := by rcases hc1 with q | q; exact q; omega
      subst etm
      have hget : (st G c x).2.drop t = (st G c x).2.getD t 0 :: (st G c x).2.drop (t + 1) := by
        rw [List.drop_eq_getElem_cons (by omega)]
        congr 1
        rw [List.getD, List.getElem?_eq_getElem (by omega)]
        rfl
      have hn := (hT3 g (Nat.zero_le _) hg).2 _ _ (hrow.symm.trans hget)
      refine jx_if rfl (fun c2 => absurd (show (1 : Int32) = 0 from c2) (by decide)) (fun _ => ?_)
      refine jx_auto rfl trivial ?_
      refine jx_callE 1 rfl (by decide) (jr_at (q := 29) (l := ln) (by omega) rfl rfl) ?_
      rw [jp_at_in (by omega) (by omega), hn]
      refine jx_auto rfl trivial ?_
      exact jx_ends rfl trivial
    · rw [sp_has_out (by omega) (by omega), if_neg hmn]
      refine jx_if rfl (fun _ => ?_) (fun c2 => absurd rfl c2)
      refine jx_auto rfl trivial ?_
      exact jx_ends rfl trivial
  have loop : ∀ k t, t + k = gpg G → t ≤ m → ∀ g, g < 2 ^ gpg G → (st G c x).2.drop t = (sV G c x g).2 → jx_W 2 jk_X2_standsPeg 4 [some (.ref 5), some (.int (nI m)), some (.int (nI g)), some (.int (nI t))] [] (jL v (jup (jup a 18 lw) 19 ln) w) (jx_is (some (.int (an_row (gpg G) (st G c x) (nI (10 + m))))) (jL v (jup (jup a 18 lw) 19 ln) w)) := by
    intro k
    induction k with
    | zero =>
      intro t ht htm g hg hrow
      have e : t = gpg G := by omega
      refine jx_auto rfl trivial ?_
      refine jx_if rfl (fun _ => exit t g (by omega) (Or.inr ⟨e, by omega⟩) hg hrow) (fun _ => ?_)
      refine jx_auto rfl trivial ?_
      exact jx_if rfl (fun _ => exit t g (by omega) (Or.inr ⟨e, by omega⟩) hg hrow) (fun c1 => absurd (jc_end h.pegs (by omega) (by omega)) c1)
    | succ k ih =>
      intro t ht htm g hg hrow
      by_cases etm : t = m
      · refine jx_auto rfl trivial ?_
        exact jx_if rfl (fun _ => exit t g (by omega) (Or.inl etm) hg hrow) (fun c1 => absurd (nI_le (by omega) (by omega)) c1)
      · have hget : (st G c x).2.drop t = (st G c x).2.getD t 0 :: (st G c x).2.drop (t + 1) := by
          rw [List.drop_eq_getElem_cons (by omega)]
          congr 1
          rw [List.getD, List.getElem?_eq_getElem (by omega)]
          rfl
        have hcons := hrow.symm.trans hget
        generalize hcc : (st G c x).2.getD t 0 = b at hcons
        obtain ⟨q1, q2, q3, q4⟩ := sV_cons ho.1 hg hcons
        have hn := (hT3 g (Nat.zero_le _) hg).2 _ _ hcons
        refine jx_auto rfl trivial ?_
        refine jx_if rfl (fun c1 => absurd c1 (nI_ge (by omega) (by omega))) (fun _ => ?_)
        refine jx_auto rfl trivial ?_
        refine jx_if rfl (fun c1 => absurd c1 (jc_on h.pegs (by omega) (by omega))) (fun _ => ?_)
        refine jx_auto rfl trivial ?_
        refine jx_callE 1 rfl (by decide) (jr_at (q := 29) (l := ln) (by omega) rfl rfl) ?_
        rw [jp_at_in (by omega) (by omega), hn]
        refine jx_steps 5 rfl trivial ?_
        dsimp only
        rw [jb_one b (by omega), jb_or, nI_1]
        exact ih (t + 1) (by omega) (by omega) _ (or_k (gpg G) (by omega) g hg b q2) q4
  refine jx_steps 4 rfl trivial ?_
  exact loop (gpg G) 0 (by omega) (by omega) 0 (by omega) (by rw [sV_0]; rfl)
theorem jl_stands (h : jLG v a G) (h9 : g9 G) (hl : jLl a) {s : Nat} (hs : v 2 = nI s) (hs20 : s ≤ 20) {x y k : Int32} : jx_W 8 jk_X6_stands 0 [some (.ref 0), some (.int x), some (.int y), some (.int k)] [] (jL v a w) (jLu v a w (an_stands G s x y k) (up_asks G s x y k)) := by
  have ho := h.ok
  unfold an_stands up_asks
  refine jx_auto rfl trivial ?_
  refine jx_callE 1 rfl (by decide) (jl_hasCovert h) ?_
  refine jx_if rfl (fun c1 => ?_) (fun c1 => ?_)
  · rw [if_neg c1, if_neg c1]
    obtain ⟨c, hc, rfl⟩ := sp_has_ex c1
    rw [nI_clamp (by omega)]
    have bad : ¬ ((-1 ≤ y ∧ y ≤ 1) ∧ sp_row k 6 = 1) → jx_W 8 jk_X6_stands 30 [some (.ref 0), some (.int (nI c)), some (.int y), some (.int k)] [] (jL v a w) (jLu v a w (if (-1 ≤ y ∧ y ≤ 1) ∧ sp_row k 6 = 1 then (if s < 20 then an_row (gpg G) (st G c y) k else -103) else -102) (if (-1 ≤ y ∧ y ≤ 1) ∧ sp_row k 6 = 1 then (if s < 20 then s + 1 else s) else s)) := by
      intro hn
      rw [if_neg hn, if_neg hn]
      refine jx_auto rfl trivial ?_
      exact jx_done rfl trivial ⟨v, a, rfl, rfl, hs, fun _ _ => rfl, fun _ _ => rfl, hl⟩
    refine jx_auto rfl trivial ?_
    refine jx_callE 1 rfl (by decide) jl_isWind ?_
    refine jx_if rfl (fun c2 => bad (fun q => by rw [if_pos q.1] at c2; cases c2)) (fun c2 => ?_)
    have hw : -1 ≤ y ∧ y ≤ 1 := by
      by_cases z : -1 ≤ y ∧ y ≤ 1
      · exact z
      · exact absurd (if_neg z) c2
    refine jx_auto rfl trivial ?_
    refine jx_callE 1 rfl (by decide) jl_isHow ?_
    refine jx_if rfl (fun c3 => ?_) (fun c3 => bad (fun q => c3 (by rw [q.2]; decide)))
    have hr : sp_row k 6 = 1 := (sp_row_01 k 6).resolve_left c3
    have hy : (-1 ≤ y ∧ y ≤ 1) ∧ sp_row k 6 = 1 := ⟨hw, hr⟩
    rw [if_pos hy, if_pos hy]
    refine jx_auto rfl trivial ?_
    rw [hs]
    refine jx_if rfl (fun c4 => ?_) (fun c4 => ?_)
    · have h20 : s < 20 := by
        by_cases q : s < 20
        · exact q
        · exact absurd c4 (nI_nlt (b := 20) (by omega) (by omega))
      rw [if_pos h20, if_pos h20]
      refine jx_auto rfl trivial ?_
      have hG1 : jLG (jup v 2 (v 2 + 1)) a G := h
      refine jx_call 7 rfl (by decide) (jx_at (jl_findStands hG1 h9 hl hc) rfl rfl rfl rfl) (fun r h' hq => ?_)
      obtain ⟨rfl, lw, ln, rfl, hT⟩ := hq
      have e2 : v 2 + 1 = nI (s + 1) := by rw [hs, nI_1]
      have hll : jLl (jup (jup a 18 lw) 19 ln) := ⟨hl.1, hT.1, hT.2.1⟩
      refine jx_auto rfl trivial ?_
      refine jx_if rfl (fun c5 => ?_) (fun c5 => ?_)
      · obtain ⟨m, hm, rfl⟩ := (row_of (N := 6) (by omega) hr).resolve_left c5
        refine jx_auto rfl trivial ?_
        dsimp only
        rw [row_sub]
        refine jx_callE 2 rfl (by decide) (jl_standsPeg hG1 hT hm) ?_
        refine jx_auto rfl trivial ?_
        exact jx_done rfl trivial ⟨_, _, rfl, rfl, e2, fun j hj => jup_n _ _ hj, fun j hj => by rw [jup_n _ _ (by omega), jup_n _ _ (by omega)], hll⟩
      · have c5 := Decidable.not_not.mp c5
        have sport : jx_W 2 jk_X2_standsSport 0 [some (.ref 5)] [] (jL (jup v 2 (v 2 + 1)) (jup (jup a 18 lw) 19 ln) w) (jx_is (some (.int (iI (st G c y).1))) (jL (jup v 2 (v 2 + 1)) (jup (jup a 18 lw) 19 ln) w)) := by
          refine jx_auto rfl trivial ?_
          refine jx_callE 1 rfl (by decide) (jr_at (q := 27) (l := lw) (by have := hT.1; omega) rfl rfl) ?_
          have e3 : jp_at lw 0 = iI (st G c y).1 := by
            have z : jp_at lw (nI 0) = lw.getD 0 0 := jp_at_in (by have := hT.1; omega) (by have := hT.1; omega)
            rw [← sV_0]
            exact z.trans (hT.2.2 0 (Nat.le_refl 0) Nat.one_le_two_pow).1
          rw [e3]
          refine jx_auto rfl trivial ?_
          exact jx_ends rfl trivial
        refine jx_auto rfl trivial ?_
        refine jx_callE 2 rfl (by decide) sport ?_
        refine jx_auto rfl trivial ?_
        refine jx_done rfl trivial ⟨_, _, ?_, rfl, e2, fun j hj => jup_n _ _ hj, fun j hj => by rw [jup_n _ _ (by omega), jup_n _ _ (by omega)], hll⟩
        rw [an_row, if_pos c5]
    · have h20 : ¬ s < 20 := fun q => c4 (nI_lt (b := 20) q (by decide))
      rw [if_neg h20, if_neg h20]
      refine jx_auto rfl trivial ?_
      exact jx_done rfl trivial ⟨v, a, rfl, rfl, hs, fun _ _ => rfl, fun _ _ => rfl, hl⟩
  · have c1 := Decidable.not_not.mp c1
    rw [if_pos c1, if_pos c1]
    refine jx_auto rfl trivial ?_
    exact jx_done rfl trivial ⟨v, a, rfl, rfl, hs, fun _ _ => rfl, fun _ _ => rfl, hl⟩
end
