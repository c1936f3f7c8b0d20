/-! digest: LaughDrive's side -/
def mxL (h : Int64) (x : Int32) : Int64 := Int64.ofNat 31 * h + x.toInt64
def dgF (g : Nat → Int32) (h : Int64) : Nat → Int64
  | 0 => h
  | n + 1 => mxL (dgF g h n) (g n)
def dgP (G : jG) (h : Int64) : Nat → Int64
  | 0 => h
  | n + 1 => mxL (mxL (dgP G h n) (grc G n)) (gbg G n)
def dgC (G : jG) (h : Int64) : Nat → Int64
  | 0 => h
  | n + 1 => mxL (mxL (dgC G h n) (gfe G n)) (jb_set (fun l => decide (gco G l = nI n)) (glg G))
def dgL (G : jG) (h : Int64) : Nat → Int64
  | 0 => h
  | n + 1 => dgF (fun k => sp_pegA G n (gco G n) (nI k - 1)) (dgF (fun k => an_laugh G n (nI k)) (dgL G h n) 7) 3
def dgR (G : jG) (x : Int32) (h : Int64) : Int64 := mxL (mxL (dgF (fun k => an_row (gcv G) (ob G x) (nI (10 + k))) (mxL h (iI (ob G x).1)) 4) (iI ((og2 G x).1 + 500))) (nI ((og2 G x).2.headD 0))
def dgW (G : jG) (h : Int64) : Nat → Int64
  | 0 => h
  | n + 1 => dgR G (nI n - 1) (dgW G h n)
def dgN (G : jG) (h : Int64) : Int64 := if 0 < glg G then dgW G h 3 else h
def an_digest (G : jG) (t : Nat) (f : Nat → Int32) (m s : Int32) : Int64 := dgF (fun k => an_count G t m s (nI k)) (dgF f (dgN G (dgL G (dgC G (dgP G (Int64.ofNat 1231) (gpg G)) (gcv G)) (glg G))) t) 13
theorem og2_b {G : jG} (h : g9 G) (hp : gpg G ≤ 6) (x : Int32) : -216 ≤ (og2 G x).1 ∧ (og2 G x).1 ≤ 216 := by
  have := pl_best_b (n := gcv G) (g := og G x) (af := oa G x) (sg := -1) (Or.inr rfl) (og_b h hp x) 4 (fun _ => false) (gco G)
  unfold og2
  omega
theorem iI_500 {m : Int} (h1 : -216 ≤ m) (h2 : m ≤ 216) : (iI m).toInt64 + Int64.ofNat 500 = (iI (m + 500)).toInt64 := by
  have e1 : Int32.minValue.toInt = -2147483648 := by decide
  have e2 : Int32.maxValue.toInt = 2147483647 := by decide
  unfold iI
  rw [Int32.toInt64_ofInt (by omega) (by omega), Int32.toInt64_ofInt (by omega) (by omega), Int64.ofInt_add]
  rfl
theorem mx500 (X : Int64) {m : Int} (h1 : -216 ≤ m) (h2 : m ≤ 216) (y : Int32) : Int64.ofNat 31 * (Int64.ofNat 31 * X + (iI m).toInt64 + Int64.ofNat 500) + y.toInt64 = mxL (mxL X (iI (m + 500))) y := by
  unfold mxL
  rw [← iI_500 h1 h2, ← Int64.add_assoc]
section
variable {v : Nat → Int32} {a : Nat → List Int32} {w : Int64} {G : jG} {t : Nat} {f : Nat → Int32}
theorem jl_dgP (h : jLG v a G) {h0 : Int64} {z4 : Option Value} {Q : jx_Q} (kk : jx_W 14 jk_X6_digest 51 [some (.ref 0), some (.long (dgP G h0 (gpg G))), none, some (.int (nI (gpg G))), z4] [] (jL v a w) Q) : ∀ k i, i + k = gpg G → jx_W 14 jk_X6_digest 6 [some (.ref 0), some (.long (dgP G h0 i)), none, some (.int (nI i)), z4] [] (jL v a w) Q := by
  have ho := h.ok
  intro k
  induction k with
  | zero =>
    intro i hi
    have e : i = gpg G := by omega
    subst e
    refine jx_auto rfl trivial ?_
    refine jx_if rfl (fun _ => kk) (fun c1 => absurd (jc_end h.pegs (by omega) (by omega)) c1)
  | succ k ih =>
    intro i hi
    have hil : i < gpg G := by omega
    refine jx_auto rfl trivial ?_
    refine jx_if rfl (fun c1 => absurd c1 (jc_on h.pegs (by omega) (by omega))) (fun _ => ?_)
    refine jx_auto rfl trivial ?_
    refine jx_callE 4 rfl (by decide) (jl_peg h) ?_
    rw [if_neg (show ¬ sp_has (gpg G) (nI i) = 0 by rw [sp_has_in hil (by omega)]; decide), nI_clamp (by omega), show an_peg G i 0 = grc G i from if_pos rfl]
    refine jx_auto rfl trivial ?_
    refine jx_callE 4 rfl (by decide) (jl_peg h) ?_
    rw [if_neg (show ¬ sp_has (gpg G) (nI i) = 0 by rw [sp_has_in hil (by omega)]; decide), nI_clamp (by omega), show an_peg G i 1 = gbg G i from rfl]
    refine jx_steps 5 rfl trivial ?_
    rw [nI_1]
    exact ih (i + 1) (by omega)
theorem jl_dgC (h : jLG v a G) {h0 : Int64} {z4 : Option Value} {Q : jx_Q} (kk : jx_W 14 jk_X6_digest 98 [some (.ref 0), some (.long (dgC G h0 (gcv G))), none, some (.int (nI (gcv G))), z4] [] (jL v a w) Q) : ∀ k i, i + k = gcv G → jx_W 14 jk_X6_digest 53 [some (.ref 0), some (.long (dgC G h0 i)), none, some (.int (nI i)), z4] [] (jL v a w) Q := by
  have ho := h.ok
  intro k
  induction k with
  | zero =>
    intro i hi
    have e : i = gcv G := by omega
    subst e
    refine jx_auto rfl trivial ?_
    refine jx_if rfl (fun _ => kk) (fun c1 => absurd (jc_end h.coverts (by omega) (by omega)) c1)
  | succ k ih =>
    intro i hi
    have hil : i < gcv G := by omega
    refine jx_auto rfl trivial ?_
    refine jx_if rfl (fun c1 => absurd c1 (jc_on h.coverts (by omega) (by omega))) (fun _ => ?_)
    refine jx_auto rfl trivial ?_
    refine jx_callE 4 rfl (by decide) (jl_covert h) ?_
    rw [if_neg (show ¬ sp_has (gcv G) (nI i) = 0 by rw [sp_has_in hil (by omega)]; decide), nI_clamp (by omega), show an_cov G i 0 = gfe G i from if_pos rfl]
    refine jx_auto rfl trivial ?_
    refine jx_callE 4 rfl (by decide) (jl_covert h) ?_
    rw [if_neg (show ¬ sp_has (gcv G) (nI i) = 0 by rw [sp_has_in hil (by omega)]; decide), nI_clamp (by omega), show an_cov G i 1 = jb_set (fun l => decide (gco G l = nI i)) (glg G) from rfl]
    refine jx_steps 5 rfl trivial ?_
    rw [nI_1]
    exact ih (i + 1) (by omega)
theorem jl_dgL (h : jLG v a G) {h0 : Int64} {Q : jx_Q} (kk : ∀ z4, jx_W 14 jk_X6_digest 178 [some (.ref 0), some (.long (dgL G h0 (glg G))), none, some (.int (nI (glg G))), z4] [] (jL v a w) Q) : ∀ k i, i + k = glg G → ∀ z4, jx_W 14 jk_X6_digest 100 [some (.ref 0), some (.long (dgL G h0 i)), none, some (.int (nI i)), z4] [] (jL v a w) Q := by
  have ho := h.ok
  intro k
  induction k with
  | zero =>
    intro i hi z4
    have e : i = glg G := by omega
    subst e
    refine jx_auto rfl trivial ?_
    refine jx_if rfl (fun _ => kk z4) (fun c1 => absurd (jc_end h.laughs (by omega) (by omega)) c1)
  | succ k ih =>
    intro i hi z4
    have hil : i < glg G := by omega
    have hhas : ¬ sp_has (glg G) (nI i) = 0 := by rw [sp_has_in hil (by omega)]; decide
    have overs : ∀ m j, j + m = 3 → jx_W 14 jk_X6_digest 145 [some (.ref 0), some (.long (dgF (fun k => sp_pegA G i (gco G i) (nI k - 1)) (dgF (fun k => an_laugh G i (nI k)) (dgL G h0 i) 7) j)), none, some (.int (nI i)), some (.int (nI j - 1))] [] (jL v a w) Q := by
      intro m
      induction m with
      | zero =>
        intro j hj
        have e : j = 3 := by omega
        subst e
        refine jx_auto rfl trivial ?_
        refine jx_if rfl (fun _ => ?_) (fun c1 => absurd (by decide) c1)
        refine jx_steps 2 rfl trivial ?_
        rw [nI_1]
        exact ih (i + 1) (by omega) _
      | succ m ih2 =>
        intro j hj
        have hlt : ∀ j, j < 3 → ¬ (1 : Int32) < nI j - 1 := by decide
        have hw : ∀ j, j < 3 → (-1 : Int32) ≤ nI j - 1 ∧ nI j - 1 ≤ 1 := by decide
        refine jx_auto rfl trivial ?_
        refine jx_if rfl (fun c1 => absurd c1 (hlt j (by omega))) (fun _ => ?_)
        refine jx_auto rfl trivial ?_
        refine jx_callE 5 rfl (by decide) (jl_over h) ?_
        rw [if_neg hhas, nI_clamp (by omega), show an_over G i (nI j - 1) = sp_pegA G i (gco G i) (nI j - 1) from if_pos (hw j (by omega))]
        refine jx_steps 5 rfl trivial ?_
        have z := ih2 (j + 1) (by omega)
        rw [← nI_1, show nI j + 1 - 1 = nI j - 1 + 1 from by rw [Int32.sub_eq_add_neg, Int32.sub_eq_add_neg, Int32.add_assoc, Int32.add_assoc, Int32.add_comm 1 (-1)]] at z
        exact z
    have laughs : ∀ m j, j + m = 7 → jx_W 14 jk_X6_digest 114 [some (.ref 0), some (.long (dgF (fun k => an_laugh G i (nI k)) (dgL G h0 i) j)), none, some (.int (nI i)), some (.int (nI j))] [] (jL v a w) Q := by
      intro m
      induction m with
      | zero =>
        intro j hj
        have e : j = 7 := by omega
        subst e
        refine jx_auto rfl trivial ?_
        refine jx_if rfl (fun _ => ?_) (fun c1 => absurd (by decide) c1)
        refine jx_steps 2 rfl trivial ?_
        exact overs 3 0 rfl
      | succ m ih2 =>
        intro j hj
        have hlt : ∀ j, j < 7 → ¬ (7 : Int32) ≤ nI j := by decide
        refine jx_auto rfl trivial ?_
        refine jx_if rfl (fun c1 => absurd c1 (hlt j (by omega))) (fun _ => ?_)
        refine jx_auto rfl trivial ?_
        refine jx_callE 8 rfl (by decide) (jl_laugh h) ?_
        rw [if_neg hhas, nI_clamp (by omega)]
        refine jx_steps 5 rfl trivial ?_
        rw [nI_1]
        exact ih2 (j + 1) (by omega)
    refine jx_auto rfl trivial ?_
    refine jx_if rfl (fun c1 => absurd c1 (jc_on h.laughs (by omega) (by omega))) (fun _ => ?_)
    refine jx_steps 2 rfl trivial ?_
    exact laughs 7 0 rfl
theorem jl_dgW (h : jLG v a G) (h9 : g9 G) (hg : 0 < gcv G) (hl : jLl a) {x : Int32} {h0 : Int64} {z4 : Option Value} {Q : jx_Q} (kk : ∀ v' a' z, jLs v a v' a' → jx_W 14 jk_X6_digest 292 [some (.ref 0), some (.long (dgR G x h0)), none, some (.int x), z] [] (jL v' a' w) Q) : jx_W 14 jk_X6_digest 195 [some (.ref 0), some (.long h0), none, some (.int x), z4] [] (jL v a w) Q := by
  have ho := h.ok
  refine jx_auto rfl trivial ?_
  refine jx_call 12 rfl (by decide) (jl_findOrder h h9 hl.1) (fun r h' hq => ?_)
  obtain ⟨rfl, l, rfl, hl17, hrow⟩ := hq
  have hs : jLs v a (jup v 22 (iI (ob G x).1)) (jup a 17 l) := ⟨fun j hj => jup_n _ _ (by omega), fun j hj => jup_n _ _ (by omega), hl17, hl.2⟩
  have hG1 := hs.game h
  have loop : ∀ m j, j + m = 4 → jx_W 14 jk_X6_digest 221 [some (.ref 0), some (.long (dgF (fun k => an_row (gcv G) (ob G x) (nI (10 + k))) (mxL h0 (iI (ob G x).1)) j)), none, some (.int x), some (.int (nI j))] [] (jL (jup v 22 (iI (ob G x).1)) (jup a 17 l) w) Q := by
    intro m
    induction m with
    | zero =>
      intro j hj
      have e : j = 4 := by omega
      subst e
      refine jx_auto rfl trivial ?_
      refine jx_if rfl (fun _ => ?_) (fun c1 => absurd (by decide) c1)
      refine jx_auto rfl trivial ?_
      refine jx_call 12 rfl (by decide) (jl_findGame hG1 h9 hl17) (fun r h' hq => ?_)
      obtain ⟨rfl, l2, y, rfl, hl2, hy⟩ := hq
      obtain ⟨c, rest, e⟩ := og2_ne (x := x) hg
      have hy := hy c rest e
      have hs2 : jLs v a (jup (jup (jup v 22 (iI (ob G x).1)) 23 (iI (og2 G x).1)) 24 y) (jup (jup a 17 l) 17 l2) := ⟨fun j hj => by rw [jup_n _ _ (by omega), jup_n _ _ (by omega), jup_n _ _ (by omega)], fun j hj => by rw [jup_n _ _ (by omega), jup_n _ _ (by omega)], hl2, hl.2⟩
      have hb := og2_b h9 ho.1 x
      have z := kk _ _ (some (.int (nI 4))) hs2
      rw [dgR, e, show (c :: rest).headD 0 = c from rfl, ← hy, ← mx500 _ hb.1 hb.2 y] at z
      refine jx_steps 20 rfl trivial ?_
      exact jx_at z
    | succ m ih =>
      intro j hj
      have hlt : ∀ j, j < 4 → ¬ (4 : Int32) ≤ nI j := by decide
      refine jx_auto rfl trivial ?_
      refine jx_if rfl (fun c1 => absurd c1 (hlt j (by omega))) (fun _ => ?_)
      refine jx_auto rfl trivial ?_
      refine jx_callE 2 rfl (by decide) (jl_orderCovert hG1 hl17) ?_
      rw [show (if sp_has (gcv G) (nI j) = 0 then -1 else jp_at (jup a 17 l 17) (nI j)) = an_row (gcv G) (ob G x) (nI (10 + j)) from row_ans ho.2.1 hl17 hrow (by omega)]
      refine jx_steps 5 rfl trivial ?_
      rw [nI_1]
      exact ih (j + 1) (by omega)
  refine jx_steps 11 rfl trivial ?_
  exact loop 4 0 rfl
end
