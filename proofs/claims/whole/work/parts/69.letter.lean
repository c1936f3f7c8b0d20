/-! letter, blank, both sides -/
def jpgL (v : Nat → Int32) (a : Nat → List Int32) (t : Nat) (f : Nat → Int32) : Prop := v 3 = nI t ∧ t ≤ 40 ∧ (a 0).length = 40 ∧ ∀ k, k < t → (a 0).getD k 0 = f k
def jpgM (v : Nat → Int32) (a : Nat → List Int32) (t : Nat) (f : Nat → Int32) : Prop := v 8 = nI t ∧ t ≤ 40 ∧ (a 9).length = 40 ∧ ∀ k, k < t → (a 9).getD k 0 = f k
def an_let (t : Nat) (x : Int32) : Int32 := if 32 ≤ x ∧ x ≤ 126 then (if t < 40 then nI (t + 1) else -104) else -102
def up_let (t : Nat) (x : Int32) : Nat := if 32 ≤ x ∧ x ≤ 126 then (if t < 40 then t + 1 else t) else t
def jLp (v : Nat → Int32) (a : Nat → List Int32) (w : Int64) (r : Int32) (t : Nat) (f : Nat → Int32) : jx_Q := fun r' h' => ∃ v' a', r' = some (.int r) ∧ h' = jL v' a' w ∧ jpgL v' a' t f ∧ (∀ j, j ≠ 3 → v' j = v j) ∧ ∀ j, j ≠ 0 → a' j = a j
def jMp (v : Nat → Int32) (a : Nat → List Int32) (w u : Int64) (r : Int32) (t : Nat) (f : Nat → Int32) : jx_Q := fun r' h' => ∃ v' a', r' = some (.int r) ∧ h' = jM v' a' w u ∧ jpgM v' a' t f ∧ (∀ j, j ≠ 8 → v' j = v j) ∧ ∀ j, j ≠ 9 → a' j = a j
theorem uf_lt {f : Nat → Int32} {t k : Nat} {x : Int32} (h : k < t) : uf f t x k = f k := if_neg (by omega)
theorem jp_ascii {x : Int32} (h1 : 32 ≤ x) (h2 : x ≤ 126) : x.toInt8.toInt32.toInt8.toInt32 = x := by
  have h0 : ¬ x < 0 := fun z => by
    rw [Int32.lt_iff_toInt_lt] at z
    rw [Int32.le_iff_toInt_le] at h1
    have e1 : (32 : Int32).toInt = 32 := by decide
    have e2 : (0 : Int32).toInt = 0 := by decide
    omega
  obtain ⟨n, hn, rfl⟩ := nI_of2 (M := 126) (n := 126) rfl h0 h2
  have : ∀ n, n ≤ 126 → (nI n).toInt8.toInt32.toInt8.toInt32 = nI n := by decide +kernel
  exact this n hn
section
variable {v : Nat → Int32} {a : Nat → List Int32} {w u : Int64} {t : Nat} {f : Nat → Int32}
theorem jpgL.same (h : jpgL v a t f) {x : Int32} : jpgL v a t (uf f t x) := ⟨h.1, h.2.1, h.2.2.1, fun k hk => by rw [uf_lt hk]; exact h.2.2.2 k hk⟩
theorem jpgM.same (h : jpgM v a t f) {x : Int32} : jpgM v a t (uf f t x) := ⟨h.1, h.2.1, h.2.2.1, fun k hk => by rw [uf_lt hk]; exact h.2.2.2 k hk⟩
theorem jl_letter (h : jpgL v a t f) {x : Int32} : jx_W 4 jk_X6_letter 0 [some (.ref 0), some (.int x)] [] (jL v a w) (jLp v a w (an_let t x) (up_let t x) (uf f t x)) := by
  obtain ⟨p1, p2, p3, p4⟩ := id h
  unfold an_let up_let
  refine jx_auto rfl trivial ?_
  refine jx_if rfl (fun c1 => ?_) (fun c1 => ?_)
  · have hn : ¬ (32 ≤ x ∧ x ≤ 126) := fun z => absurd c1 (Int32.not_lt.mpr z.1)
    rw [if_neg hn, if_neg hn]
    refine jx_auto rfl trivial ?_
    exact jx_done rfl trivial ⟨v, a, rfl, rfl, h.same, fun _ _ => rfl, fun _ _ => rfl⟩
  · refine jx_auto rfl trivial ?_
    refine jx_if rfl (fun c2 => ?_) (fun c2 => ?_)
    · have hy : 32 ≤ x ∧ x ≤ 126 := ⟨Int32.not_lt.mp c1, c2⟩
      rw [if_pos hy, if_pos hy]
      have full : jx_W 1 jk_X1_isFull 0 [some (.ref 1)] [] (jL v a w) (jx_is (some (.int (if t < 40 then 0 else 1))) (jL v a w)) := by
        refine jx_auto rfl trivial ?_
        refine jx_if rfl (fun d1 => ?_) (fun d1 => ?_)
        · rw [p1] at d1
          refine jx_auto rfl trivial ?_
          refine jx_ends rfl ⟨Or.inl rfl, trivial⟩ ?_
          by_cases ht : t < 40
          · rw [if_pos ht]
          · exact absurd d1 (nI_nlt (b := 40) (by omega) (by omega))
        · rw [p1] at d1
          refine jx_auto rfl trivial ?_
          refine jx_ends rfl ⟨Or.inr rfl, trivial⟩ ?_
          by_cases ht : t < 40
          · exact absurd (nI_lt (b := 40) ht (by decide)) d1
          · rw [if_neg ht]
      refine jx_auto rfl trivial ?_
      refine jx_callE 1 rfl (by decide) full ?_
      by_cases ht : t < 40
      · rw [if_pos ht, if_pos ht, if_pos ht]
        refine jx_if rfl (fun _ => ?_) (fun d => absurd rfl d)
        have add : jx_W 2 jk_X1_add 0 [some (.ref 1), some (.int x)] [] (jL v a w) (jx_is (some (.int (nI (t + 1)))) (jL (jup v 3 (nI (t + 1))) (jup a 0 ((a 0).set t x)) w)) := by
          refine jx_auto rfl trivial ?_
          rw [p1]
          refine jx_callE 1 rfl (by decide) (jr_set_in (k := t) (q := 3) (l := a 0) (by omega) (by omega) rfl rfl) ?_
          refine jx_auto rfl trivial ?_
          rw [p1]
          dsimp only
          rw [nI_1]
          exact jx_ends rfl trivial
        refine jx_auto rfl trivial ?_
        refine jx_callE 2 rfl (by decide) add ?_
        refine jx_auto rfl trivial ?_
        exact jx_done rfl trivial ⟨_, _, rfl, rfl, ⟨rfl, ht, List.length_set.trans p3, uf_get1 (by omega) p4⟩, fun j hj => jup_n _ _ hj, fun j hj => jup_n _ _ hj⟩
      · rw [if_neg ht, if_neg ht, if_neg ht]
        refine jx_if rfl (fun d => absurd d (by decide)) (fun _ => ?_)
        refine jx_auto rfl trivial ?_
        exact jx_done rfl trivial ⟨v, a, rfl, rfl, h.same, fun _ _ => rfl, fun _ _ => rfl⟩
    · have hn : ¬ (32 ≤ x ∧ x ≤ 126) := fun z => c2 z.2
      rw [if_neg hn, if_neg hn]
      refine jx_auto rfl trivial ?_
      exact jx_done rfl trivial ⟨v, a, rfl, rfl, h.same, fun _ _ => rfl, fun _ _ => rfl⟩
theorem jl_blank (h : jpgL v a t f) : jx_W 3 jk_X6_blank 0 [some (.ref 0)] [] (jL v a w) (jLp v a w (nI t) 0 f) := by
  have clear : jx_W 1 jk_X1_clear 0 [some (.ref 1), none] [] (jL v a w) (jx_is (some (.int (v 3))) (jL (jup v 3 0) a w)) := by
    refine jx_auto rfl trivial ?_
    exact jx_ends rfl trivial
  refine jx_auto rfl trivial ?_
  refine jx_callE 1 rfl (by decide) clear ?_
  refine jx_auto rfl trivial ?_
  refine jx_done rfl trivial ⟨_, a, ?_, rfl, ⟨rfl, Nat.zero_le _, h.2.2.1, fun k hk => absurd hk (Nat.not_lt_zero _)⟩, fun j hj => jup_n _ _ hj, fun _ _ => rfl⟩
  rw [h.1]
theorem jm_letter (h : jpgM v a t f) {x : Int32} : jx_W 4 jk_X7_letter 0 [some (.ref 0), some (.int x)] [] (jM v a w u) (jMp v a w u (an_let t x) (up_let t x) (uf f t x)) := by
  obtain ⟨p1, p2, p3, p4⟩ := id h
  unfold an_let up_let
  refine jx_auto rfl trivial ?_
  refine jx_callE 1 rfl (by decide) jm_within ?_
  by_cases hy : 32 ≤ x ∧ x ≤ 126
  · rw [if_pos hy, if_pos hy, if_pos hy]
    refine jx_if rfl (fun _ => ?_) (fun c2 => absurd (show ¬ (1 : Int32) = 0 by decide) c2)
    refine jx_auto rfl trivial ?_
    rw [p1]
    by_cases ht : t < 40
    · have e6 : ¬ nI t = 40 := fun q => by have := (nI_eq (a := t) (b := 40) (by omega) (by decide)).mp q; omega
      rw [if_pos ht, if_pos ht]
      refine jx_if rfl (fun _ => ?_) (fun c3 => absurd e6 c3)
      have w0 : vp_in (v 8) (a 9).length := by rw [p1]; exact nI_in (by omega) (by omega)
      refine jx_auto rfl ⟨w0, trivial⟩ ?_
      rw [p1]
      dsimp only
      rw [nI_1, nI_clamp (by omega), jp_ascii hy.1 hy.2]
      exact jx_done rfl trivial ⟨jup v 8 (nI (t + 1)), jup a 9 ((a 9).set t x), rfl, rfl, ⟨rfl, ht, List.length_set.trans p3, uf_get1 (by omega) p4⟩, fun j hj => jup_n _ _ hj, fun j hj => jup_n _ _ hj⟩
    · have e6 : nI t = 40 := by rw [show t = 40 by omega]; rfl
      rw [if_neg ht, if_neg ht]
      refine jx_if rfl (fun c3 => absurd e6 c3) (fun _ => ?_)
      refine jx_auto rfl trivial ?_
      exact jx_done rfl trivial ⟨v, a, rfl, rfl, h.same, fun _ _ => rfl, fun _ _ => rfl⟩
  · rw [if_neg hy, if_neg hy, if_neg hy]
    refine jx_if rfl (fun c2 => absurd rfl c2) (fun _ => ?_)
    refine jx_auto rfl trivial ?_
    exact jx_done rfl trivial ⟨v, a, rfl, rfl, h.same, fun _ _ => rfl, fun _ _ => rfl⟩
theorem jm_blank (h : jpgM v a t f) : jx_W 3 jk_X7_blank 0 [some (.ref 0), none] [] (jM v a w u) (jMp v a w u (nI t) 0 f) := by
  refine jx_auto rfl trivial ?_
  refine jx_done rfl trivial ⟨jup v 8 0, a, ?_, rfl, ⟨rfl, Nat.zero_le _, h.2.2.1, fun k hk => absurd hk (Nat.not_lt_zero _)⟩, fun j hj => jup_n _ _ hj, fun _ _ => rfl⟩
  rw [h.1]
end
