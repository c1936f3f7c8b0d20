/-! count, both sides -/
def an_count (G : jG) (t : Nat) (m s : Int32) (k : Int32) : Int32 :=
  if k = 0 then nI (gpg G) else if k = 1 then nI (gcv G) else if k = 2 then nI (glg G) else if k = 3 then nI (sp_cnt (fun l => decide (gco G l ≠ -1)) (glg G)) else if k = 4 then sp_sum (gbg G) (gpg G) else if k = 5 then gno G 0 else if k = 6 then gno G 1 else if k = 7 then sp_sum (gfe G) (gcv G) else if k = 8 then sp_sum (grc G) (gpg G) else if k = 9 then nI (gsn G) else if k = 10 then nI t else if k = 11 then m else if k = 12 then s else -102
theorem jp_sum_sp (l : List Int32) : ∀ n, jp_sum l n = sp_sum (fun k => l.getD k 0) n
  | 0 => rfl
  | n + 1 => by rw [jp_sum, sp_sum, jp_sum_sp l n]
section
variable {v : Nat → Int32} {a : Nat → List Int32} {w u : Int64} {G : jG} {t : Nat} {f : Nat → Int32}
theorem jl_count (h : jLG v a G) (hp : jpgL v a t f) {k : Int32} : jx_W 4 jk_X6_count 0 [some (.ref 0), some (.int k)] [] (jL v a w) (jx_is (some (.int (an_count G t (v 1) (v 2) k))) (jL v a w)) := by
  have ho := h.ok
  have hn := h.lens
  unfold an_count
  refine jx_auto rfl trivial ?_
  refine jx_switch rfl ⟨fun e => ?_, fun e0 => ⟨fun e => ?_, fun e1 => ⟨fun e => ?_, fun e2 => ⟨fun e => ?_, fun e3 => ⟨fun e => ?_, fun e4 => ⟨fun e => ?_, fun e5 => ⟨fun e => ?_, fun e6 => ⟨fun e => ?_, fun e7 => ⟨fun e => ?_, fun e8 => ⟨fun e => ?_, fun e9 => ⟨fun e => ?_, fun e10 => ⟨fun e => ?_, fun e11 => ⟨fun e => ?_, fun e12 => ?_⟩⟩⟩⟩⟩⟩⟩⟩⟩⟩⟩⟩⟩
  · refine jx_auto rfl trivial ?_
    exact jx_ends rfl trivial (by rw [if_pos e, ← h.pegs])
  · refine jx_auto rfl trivial ?_
    exact jx_ends rfl trivial (by rw [if_neg e0, if_pos e, ← h.coverts])
  · refine jx_auto rfl trivial ?_
    exact jx_ends rfl trivial (by rw [if_neg e0, if_neg e1, if_pos e, ← h.laughs])
  · refine jx_auto rfl trivial ?_
    refine jx_callE 2 rfl (by decide) (jl_inCoverts h h.places) ?_
    refine jx_auto rfl trivial ?_
    exact jx_ends rfl trivial (by rw [if_neg e0, if_neg e1, if_neg e2, if_pos e])
  · refine jx_auto rfl trivial ?_
    rw [show v 8 = nI (gpg G) from h.pegs]
    refine jx_callE 1 rfl (by decide) (jr_sum (q := 10) (l := a 2) (by omega) (by omega) rfl rfl) ?_
    refine jx_auto rfl trivial ?_
    exact jx_ends rfl trivial (by rw [if_neg e0, if_neg e1, if_neg e2, if_neg e3, if_pos e, jp_sum_sp, sp_sum_congr (fun j hj => h.bag hj)])
  · refine jx_auto rfl trivial ?_
    exact jx_ends rfl trivial (by rw [if_neg e0, if_neg e1, if_neg e2, if_neg e3, if_neg e4, if_pos e, ← h.sport])
  · refine jx_auto rfl trivial ?_
    exact jx_ends rfl trivial (by rw [if_neg e0, if_neg e1, if_neg e2, if_neg e3, if_neg e4, if_neg e5, if_pos e, ← h.drives])
  · refine jx_auto rfl trivial ?_
    rw [show v 9 = nI (gcv G) from h.coverts]
    refine jx_callE 1 rfl (by decide) (jr_sum (q := 12) (l := a 3) (by omega) (by omega) rfl rfl) ?_
    refine jx_auto rfl trivial ?_
    exact jx_ends rfl trivial (by rw [if_neg e0, if_neg e1, if_neg e2, if_neg e3, if_neg e4, if_neg e5, if_neg e6, if_pos e, jp_sum_sp, sp_sum_congr (fun j hj => h.feed hj)])
  · refine jx_auto rfl trivial ?_
    rw [show v 8 = nI (gpg G) from h.pegs]
    refine jx_callE 1 rfl (by decide) (jr_sum (q := 8) (l := a 1) (by omega) (by omega) rfl rfl) ?_
    refine jx_auto rfl trivial ?_
    exact jx_ends rfl trivial (by rw [if_neg e0, if_neg e1, if_neg e2, if_neg e3, if_neg e4, if_neg e5, if_neg e6, if_neg e7, if_pos e, jp_sum_sp, sp_sum_congr (fun j hj => h.reach hj)])
  · refine jx_auto rfl trivial ?_
    exact jx_ends rfl trivial (by rw [if_neg e0, if_neg e1, if_neg e2, if_neg e3, if_neg e4, if_neg e5, if_neg e6, if_neg e7, if_neg e8, if_pos e, ← h.seen])
  · refine jx_auto rfl trivial ?_
    exact jx_ends rfl trivial (by rw [if_neg e0, if_neg e1, if_neg e2, if_neg e3, if_neg e4, if_neg e5, if_neg e6, if_neg e7, if_neg e8, if_neg e9, if_pos e, ← hp.1])
  · refine jx_auto rfl trivial ?_
    exact jx_ends rfl trivial (by rw [if_neg e0, if_neg e1, if_neg e2, if_neg e3, if_neg e4, if_neg e5, if_neg e6, if_neg e7, if_neg e8, if_neg e9, if_neg e10, if_pos e])
  · refine jx_auto rfl trivial ?_
    exact jx_ends rfl trivial (by rw [if_neg e0, if_neg e1, if_neg e2, if_neg e3, if_neg e4, if_neg e5, if_neg e6, if_neg e7, if_neg e8, if_neg e9, if_neg e10, if_neg e11, if_pos e])
  · refine jx_auto rfl trivial ?_
    exact jx_ends rfl trivial (by rw [if_neg e0, if_neg e1, if_neg e2, if_neg e3, if_neg e4, if_neg e5, if_neg e6, if_neg e7, if_neg e8, if_neg e9, if_neg e10, if_neg e11, if_neg e12])
/-- what the pegs' rows come to -/
theorem jm_ofPegs (h : jMG v a G) {b : Int32} : jx_W 3 jk_X7_ofPegs 0 [some (.ref 0), some (.int b), none, none] [] (jM v a w u) (jx_is (some (.int (sp_sum (if b = 0 then grc G else gbg G) (gpg G)))) (jM v a w u)) := by
  have ho := h.ok
  have hn := h.lens
  refine jx_steps 4 rfl trivial ?_
  have loop : ∀ k i, i + k = gpg G → jx_W 3 jk_X7_ofPegs 4 [some (.ref 0), some (.int b), some (.int (sp_sum (if b = 0 then grc G else gbg G) i)), some (.int (nI i))] [] (jM v a w u) (jx_is (some (.int (sp_sum (if b = 0 then grc G else gbg G) (gpg G)))) (jM v a w u)) := by
    intro k
    induction k with
    | zero =>
      intro i hi
      have e : i = gpg G := by omega
      refine jx_auto rfl trivial ?_
      refine jx_if rfl (fun _ => ?_) (fun c1 => absurd (jc_end h.pegs (by omega) (by omega)) c1)
      refine jx_auto rfl trivial ?_
      exact jx_ends rfl trivial (by rw [e])
    | succ k ih =>
      intro i hi
      have hil : i < gpg G := by omega
      have z := ih (i + 1) (by omega)
      refine jx_auto rfl trivial ?_
      refine jx_if rfl (fun c1 => absurd c1 (jc_on h.pegs (by omega) (by omega))) (fun _ => ?_)
      refine jx_auto rfl trivial ?_
      refine jx_if rfl (fun c2 => ?_) (fun c2 => ?_)
      · refine jx_steps 8 rfl ⟨nI_in (by omega) (by omega), trivial⟩ ?_
        rw [nI_1]
        refine jx_at z rfl ?_
        rw [sp_sum, if_pos c2, nI_clamp (by omega), h.reach hil]
      · refine jx_steps 9 rfl ⟨nI_in (by omega) (by omega), trivial⟩ ?_
        rw [nI_1]
        refine jx_at z rfl ?_
        rw [sp_sum, if_neg c2, nI_clamp (by omega), h.bag hil]
  exact loop (gpg G) 0 (by omega)
theorem jm_fed (h : jMG v a G) : jx_W 3 jk_X7_fed 0 [some (.ref 0), none, none] [] (jM v a w u) (jx_is (some (.int (sp_sum (gfe G) (gcv G)))) (jM v a w u)) := by
  have ho := h.ok
  have hn := h.lens
  refine jx_steps 4 rfl trivial ?_
  have loop : ∀ k i, i + k = gcv G → jx_W 3 jk_X7_fed 4 [some (.ref 0), some (.int (sp_sum (gfe G) i)), some (.int (nI i))] [] (jM v a w u) (jx_is (some (.int (sp_sum (gfe G) (gcv G)))) (jM v a w u)) := by
    intro k
    induction k with
    | zero =>
      intro i hi
      have e : i = gcv G := by omega
      refine jx_auto rfl trivial ?_
      refine jx_if rfl (fun _ => ?_) (fun c1 => absurd (jc_end h.coverts (by omega) (by omega)) c1)
      refine jx_auto rfl trivial ?_
      exact jx_ends rfl trivial (by rw [e])
    | succ k ih =>
      intro i hi
      have hil : i < gcv G := by omega
      have z := ih (i + 1) (by omega)
      refine jx_auto rfl trivial ?_
      refine jx_if rfl (fun c1 => absurd c1 (jc_on h.coverts (by omega) (by omega))) (fun _ => ?_)
      refine jx_steps 9 rfl ⟨nI_in (by omega) (by omega), trivial⟩ ?_
      rw [nI_1]
      refine jx_at z rfl ?_
      rw [sp_sum, nI_clamp (by omega), h.feed hil]
  exact loop (gcv G) 0 (by omega)
theorem jm_howMany (h : jMG v a G) (hp : jpgM v a t f) {k : Int32} : jx_W 4 jk_X7_howMany 0 [some (.ref 0), some (.int k)] [] (jM v a w u) (jx_is (some (.int (an_count G t (v 0) (v 6) k))) (jM v a w u)) := by
  have ho := h.ok
  have hn := h.lens
  unfold an_count
  refine jx_auto rfl trivial ?_
  refine jx_switch rfl ⟨fun e => ?_, fun e0 => ⟨fun e => ?_, fun e1 => ⟨fun e => ?_, fun e2 => ⟨fun e => ?_, fun e3 => ⟨fun e => ?_, fun e4 => ⟨fun e => ?_, fun e5 => ⟨fun e => ?_, fun e6 => ⟨fun e => ?_, fun e7 => ⟨fun e => ?_, fun e8 => ⟨fun e => ?_, fun e9 => ⟨fun e => ?_, fun e10 => ⟨fun e => ?_, fun e11 => ⟨fun e => ?_, fun e12 => ?_⟩⟩⟩⟩⟩⟩⟩⟩⟩⟩⟩⟩⟩
  · refine jx_auto rfl trivial ?_
    exact jx_ends rfl trivial (by rw [if_pos e, ← h.pegs])
  · refine jx_auto rfl trivial ?_
    exact jx_ends rfl trivial (by rw [if_neg e0, if_pos e, ← h.coverts])
  · refine jx_auto rfl trivial ?_
    exact jx_ends rfl trivial (by rw [if_neg e0, if_neg e1, if_pos e, ← h.laughs])
  · refine jx_auto rfl trivial ?_
    refine jx_callE 1 rfl (by decide) (jm_inCoverts h) ?_
    refine jx_auto rfl trivial ?_
    exact jx_ends rfl trivial (by rw [if_neg e0, if_neg e1, if_neg e2, if_pos e])
  · refine jx_auto rfl trivial ?_
    refine jx_callE 3 rfl (by decide) (jm_ofPegs h) ?_
    refine jx_auto rfl trivial ?_
    exact jx_ends rfl trivial (by rw [if_neg e0, if_neg e1, if_neg e2, if_neg e3, if_pos e]; rfl)
  · refine jx_auto rfl trivial ?_
    exact jx_ends rfl trivial (by rw [if_neg e0, if_neg e1, if_neg e2, if_neg e3, if_neg e4, if_pos e, ← h.sport])
  · refine jx_auto rfl trivial ?_
    exact jx_ends rfl trivial (by rw [if_neg e0, if_neg e1, if_neg e2, if_neg e3, if_neg e4, if_neg e5, if_pos e, ← h.drives])
  · refine jx_auto rfl trivial ?_
    refine jx_callE 3 rfl (by decide) (jm_fed h) ?_
    refine jx_auto rfl trivial ?_
    exact jx_ends rfl trivial (by rw [if_neg e0, if_neg e1, if_neg e2, if_neg e3, if_neg e4, if_neg e5, if_neg e6, if_pos e])
  · refine jx_auto rfl trivial ?_
    refine jx_callE 3 rfl (by decide) (jm_ofPegs h) ?_
    refine jx_auto rfl trivial ?_
    exact jx_ends rfl trivial (by rw [if_neg e0, if_neg e1, if_neg e2, if_neg e3, if_neg e4, if_neg e5, if_neg e6, if_neg e7, if_pos e]; rfl)
  · refine jx_auto rfl trivial ?_
    exact jx_ends rfl trivial (by rw [if_neg e0, if_neg e1, if_neg e2, if_neg e3, if_neg e4, if_neg e5, if_neg e6, if_neg e7, if_neg e8, if_pos e, ← h.seen])
  · refine jx_auto rfl trivial ?_
    exact jx_ends rfl trivial (by rw [if_neg e0, if_neg e1, if_neg e2, if_neg e3, if_neg e4, if_neg e5, if_neg e6, if_neg e7, if_neg e8, if_neg e9, if_pos e, ← hp.1])
  · refine jx_auto rfl trivial ?_
    exact jx_ends rfl trivial (by rw [if_neg e0, if_neg e1, if_neg e2, if_neg e3, if_neg e4, if_neg e5, if_neg e6, if_neg e7, if_neg e8, if_neg e9, if_neg e10, if_pos e])
  · refine jx_auto rfl trivial ?_
    exact jx_ends rfl trivial (by rw [if_neg e0, if_neg e1, if_neg e2, if_neg e3, if_neg e4, if_neg e5, if_neg e6, if_neg e7, if_neg e8, if_neg e9, if_neg e10, if_neg e11, if_pos e])
  · refine jx_auto rfl trivial ?_
    exact jx_ends rfl trivial (by rw [if_neg e0, if_neg e1, if_neg e2, if_neg e3, if_neg e4, if_neg e5, if_neg e6, if_neg e7, if_neg e8, if_neg e9, if_neg e10, if_neg e11, if_neg e12])
theorem jm_count (h : jMG v a G) (hp : jpgM v a t f) {k : Int32} : jx_W 5 jk_X7_count 0 [some (.ref 0), some (.int k)] [] (jM v a w u) (jx_is (some (.int (an_count G t (v 0) (v 6) k))) (jM v a w u)) := by
  refine jx_auto rfl trivial ?_
  refine jx_callE 4 rfl (by decide) (jm_howMany h hp) ?_
  refine jx_auto rfl trivial ?_
  exact jx_ends rfl trivial
end
