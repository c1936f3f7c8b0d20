/-! the reference's moor -/
def mx (v : Nat → Int32) (a : Nat → List Int32) (w u : Int64) (p q l : Nat) (s0 s1 s2 s3 s4 s5 : List Int32) : jx_H := jM (jup (jup (jup v 1 (nI p)) 2 (nI q)) 3 (nI l)) (jup (jup (jup (jup (jup (jup a 0 s0) 1 s1) 2 s2) 3 s3) 4 s4) 5 s5) w u
def jMm (v : Nat → Int32) (a : Nat → List Int32) (w u : Int64) (t : Nat) (f : Nat → Int32) : jx_Q := fun r h' =>
  ((rd (pgcc t f) t).2.1 = true ∧ ∃ v' a', r = some (.int (an_moor t f)) ∧ h' = jM v' a' w u ∧ jMG v' a' (gnew t f) ∧ v' 0 = v 0 + 1 ∧ v' 6 = v 6 ∧ v' 8 = 0 ∧ (∀ j, 13 < j → v' j = v j) ∧ ∀ j, 9 ≤ j → a' j = a j) ∨
  ((rd (pgcc t f) t).2.1 = false ∧ ∃ v', r = some (.int (an_moor t f)) ∧ h' = jM v' a w u ∧ ∀ j, j < 9 ∨ 12 < j → v' j = v j)
section
variable {v : Nat → Int32} {a : Nat → List Int32} {w u : Int64} {t : Nat} {f : Nat → Int32}
theorem mx_game {p q l : Nat} {s0 s1 s2 s3 s4 s5 : List Int32} (hp : p ≤ 6) (hq : q ≤ 4) (hl : l ≤ 6) (h0 : s0.length = 6 ∧ ∀ k, k < p → s0.getD k 0 = f k - 48) (h1 : s1.length = 6 ∧ ∀ k, k < p → s1.getD k 0 = 0) (h2 : s2.length = 4 ∧ ∀ k, k < q → s2.getD k 0 = f (p + 1 + k) - 48) (h3 : s3.length = 6 ∧ ∀ k, k < l → s3.getD k 0 = jx_kindC (f (p + q + 2 + 4 * k))) (h4 : s4.length = 6 ∧ ∀ k, k < l → s4.getD k 0 = f (p + q + 2 + 4 * k + 1) - 48) (h5 : s5.length = 6 ∧ ∀ k, k < l → s5.getD k 0 = f (p + q + 2 + 4 * k + 2) - 48) (l6 : (a 6).length = 6) (l7 : (a 7).length = 6) (l8 : (a 8).length = 6) {x : Int32} : jMG (jup (jup (jup (jup (jup (jup (jup (jup v 1 (nI p)) 2 (nI q)) 3 (nI l)) 4 0) 5 0) 0 x) 7 0) 8 0) (jup (jup (jup (jup (jup (jup a 0 s0) 1 s1) 2 s2) 3 s3) 4 s4) 5 s5) (gnw p q l f) :=
  ⟨⟨rfl, rfl, rfl, rfl, hp, hq, hl, Nat.zero_le _⟩, ⟨h0.1, h1.1, h2.1, h3.1, h4.1, h5.1, l6, l7, l8⟩, h0.2, h1.2, h2.2, h3.2, h4.2, h5.2, fun k hk => absurd hk (Nat.not_lt_zero k), fun k hk => absurd hk (Nat.not_lt_zero k), fun k hk => absurd hk (Nat.not_lt_zero k), rfl, rfl⟩
theorem jm_layReach0 {p q l : Nat} (hp : p ≤ 6) (l9 : (a 9).length = 40) (h9 : ∀ k, k < t → (a 9).getD k 0 = f k) (ht : p ≤ t) (ht4 : t ≤ 40) {s2 s3 s4 s5 : List Int32} {Q : jx_Q} (kk : ∀ s0 s1 : List Int32, s0.length = 6 → s1.length = 6 → (∀ k, k < p → s0.getD k 0 = f k - 48) → (∀ k, k < p → s1.getD k 0 = 0) → ∀ z, jx_W 6 jk_X7_moor 77 [some (.ref 0), z, none] [] (mx v a w u p q l s0 s1 s2 s3 s4 s5) Q) : ∀ m i, i + m = p → ∀ s0 s1 : List Int32, s0.length = 6 → s1.length = 6 → (∀ k, k < i → s0.getD k 0 = f k - 48) → (∀ k, k < i → s1.getD k 0 = 0) → jx_W 6 jk_X7_moor 41 [some (.ref 0), some (.int (nI i)), none] [] (mx v a w u p q l s0 s1 s2 s3 s4 s5) Q := by
  intro m
  induction m with
  | zero =>
    intro i hi s0 s1 k0 k1 m0 m1
    refine jx_auto rfl trivial ?_
    refine jx_if rfl (fun _ => ?_) (fun c1 => absurd (show nI p ≤ nI i from nI_le (by omega) (by omega)) c1)
    exact kk s0 s1 k0 k1 (fun k hk => m0 k (by omega)) (fun k hk => m1 k (by omega)) _
  | succ m ih =>
    intro i hi s0 s1 k0 k1 m0 m1
    refine jx_auto rfl trivial ?_
    refine jx_if rfl (fun c1 => absurd (show nI p ≤ nI i from c1) (nI_ge (by omega) (by omega))) (fun _ => ?_)
    refine jx_steps 7 rfl ⟨by show vp_in (nI i) (a 9).length; exact vp_in_nI (by omega) (by omega), trivial⟩ ?_
    have e1 : (a 9).getD (nI i).toNatClampNeg 0 = f i := by rw [nI_clamp (by omega), h9 i (by omega)]
    have e2 : (jup (jup (jup (jup (jup (jup a 0 s0) 1 s1) 2 s2) 3 s3) 4 s4) 5 s5 9).getD (nI i).toNatClampNeg 0 = f i := e1
    rw [e2]
    refine jx_steps 3 rfl ⟨by show vp_in (nI i) s0.length; exact vp_in_nI (by omega) (by omega), trivial⟩ ?_
    dsimp only
    rw [nI_clamp (by omega)]
    refine jx_at (h' := mx v a w u p q l (s0.set i (f i - 48)) s1 s2 s3 s4 s5) ?_ rfl rfl rfl rfl
    refine jx_steps 5 rfl ⟨by show vp_in (nI i) s1.length; exact vp_in_nI (by omega) (by omega), trivial⟩ ?_
    rw [nI_clamp (by omega)]
    refine jx_steps 2 rfl trivial ?_
    rw [nI_1]
    refine jx_at (ih (i + 1) (by omega) (s0.set i (f i - 48)) (s1.set i 0) (List.length_set.trans k0) (List.length_set.trans k1) (fun k hk => ?_) (fun k hk => ?_)) rfl rfl rfl rfl
    · by_cases e : k = i
      · subst e; exact jl_getset (by omega)
      · rw [jl_getne e]; exact m0 k (by omega)
    · by_cases e : k = i
      · subst e; exact jl_getset (by omega)
      · rw [jl_getne e]; exact m1 k (by omega)
theorem jm_layFeed {p q l : Nat} (hp : p ≤ 6) (hq : q ≤ 4) (l9 : (a 9).length = 40) (h9 : ∀ k, k < t → (a 9).getD k 0 = f k) (ht : p + 1 + q ≤ t) (ht4 : t ≤ 40) {s0 s1 s3 s4 s5 : List Int32} {Q : jx_Q} (kk : ∀ s2 : List Int32, s2.length = 4 → (∀ k, k < q → s2.getD k 0 = f (p + 1 + k) - 48) → ∀ z, jx_W 6 jk_X7_moor 115 [some (.ref 0), z, none] [] (mx v a w u p q l s0 s1 s2 s3 s4 s5) Q) : ∀ m i, i + m = q → ∀ s2 : List Int32, s2.length = 4 → (∀ k, k < i → s2.getD k 0 = f (p + 1 + k) - 48) → jx_W 6 jk_X7_moor 79 [some (.ref 0), some (.int (nI i)), none] [] (mx v a w u p q l s0 s1 s2 s3 s4 s5) Q := by
  intro m
  induction m with
  | zero =>
    intro i hi s2 k2 m2
    refine jx_auto rfl trivial ?_
    refine jx_if rfl (fun _ => ?_) (fun c1 => absurd (show nI q ≤ nI i from nI_le (by omega) (by omega)) c1)
    exact kk s2 k2 (fun k hk => m2 k (by omega)) _
  | succ m ih =>
    intro i hi s2 k2 m2
    have ix : nI p + 1 + nI i = nI (p + 1 + i) := by rw [nI_1, nI_add]
    refine jx_auto rfl trivial ?_
    refine jx_if rfl (fun c1 => absurd (show nI q ≤ nI i from c1) (nI_ge (by omega) (by omega))) (fun _ => ?_)
    refine jx_steps 11 rfl trivial ?_
    dsimp only
    refine jx_at (st' := [.int (nI (p + 1 + i)), .ref 10, .int (nI i), .ref 3]) ?_ rfl rfl (by rw [← ix]; rfl) rfl
    refine jx_steps 1 rfl ⟨by show vp_in (nI (p + 1 + i)) (a 9).length; exact vp_in_nI (by omega) (by omega), trivial⟩ ?_
    have e1 : (a 9).getD (nI (p + 1 + i)).toNatClampNeg 0 = f (p + 1 + i) := by rw [nI_clamp (by omega), h9 _ (by omega)]
    have e2 : (jup (jup (jup (jup (jup (jup a 0 s0) 1 s1) 2 s2) 3 s3) 4 s4) 5 s5 9).getD (nI (p + 1 + i)).toNatClampNeg 0 = f (p + 1 + i) := e1
    rw [e2]
    refine jx_steps 3 rfl ⟨by show vp_in (nI i) s2.length; exact vp_in_nI (by omega) (by omega), trivial⟩ ?_
    dsimp only
    rw [nI_clamp (by omega)]
    refine jx_steps 2 rfl trivial ?_
    rw [nI_1]
    refine jx_at (ih (i + 1) (by omega) (s2.set i (f (p + 1 + i) - 48)) (List.length_set.trans k2) (fun k hk => ?_)) rfl rfl rfl rfl
    by_cases e : k = i
    · subst e; exact jl_getset (by omega)
    · rw [jl_getne e]; exact m2 k (by omega)
theorem jm_layLaughs {p q l : Nat} (hx : tx_ok t f p q l) (l9 : (a 9).length = 40) (h9 : ∀ k, k < t → (a 9).getD k 0 = f k) (ht4 : t ≤ 40) {s0 s1 s2 : List Int32} {Q : jx_Q} (kk : ∀ (s3 s4 s5 : List Int32), s3.length = 6 → s4.length = 6 → s5.length = 6 → (∀ k, k < l → s3.getD k 0 = jx_kindC (f (p + q + 2 + 4 * k))) → (∀ k, k < l → s4.getD k 0 = f (p + q + 2 + 4 * k + 1) - 48) → (∀ k, k < l → s5.getD k 0 = f (p + q + 2 + 4 * k + 2) - 48) → ∀ z, jx_W 6 jk_X7_moor 204 [some (.ref 0), some (.int (nI (p + q + 2))), z] [] (mx v a w u p q l s0 s1 s2 s3 s4 s5) Q) : ∀ m i, i + m = l → ∀ (s3 s4 s5 : List Int32), s3.length = 6 → s4.length = 6 → s5.length = 6 → (∀ k, k < i → s3.getD k 0 = jx_kindC (f (p + q + 2 + 4 * k))) → (∀ k, k < i → s4.getD k 0 = f (p + q + 2 + 4 * k + 1) - 48) → (∀ k, k < i → s5.getD k 0 = f (p + q + 2 + 4 * k + 2) - 48) → jx_W 6 jk_X7_moor 129 [some (.ref 0), some (.int (nI (p + q + 2))), some (.int (nI i))] [] (mx v a w u p q l s0 s1 s2 s3 s4 s5) Q := by
  obtain ⟨hp, hq, hl, hsum, hl2, hch, hdig⟩ := hx
  intro m
  induction m with
  | zero =>
    intro i hi s3 s4 s5 k3 k4 k5 m3 m4 m5
    refine jx_auto rfl trivial ?_
    refine jx_if rfl (fun _ => ?_) (fun c1 => absurd (show nI l ≤ nI i from nI_le (by omega) (by omega)) c1)
    exact kk s3 s4 s5 k3 k4 k5 (fun k hk => m3 k (by omega)) (fun k hk => m4 k (by omega)) (fun k hk => m5 k (by omega)) _
  | succ m ih =>
    intro i hi s3 s4 s5 k3 k4 k5 m3 m4 m5
    have hil : i < l := by omega
    have ix : nI (p + q + 2) + 4 * nI i = nI (p + q + 2 + 4 * i) := by
      rw [show (4 : Int32) * nI i = nI (4 * i) from pk_mul 4 i, nI_add]
    have rd9 : ∀ (s3 s4 s5 : List Int32) (j : Nat), j < t → (jup (jup (jup (jup (jup (jup a 0 s0) 1 s1) 2 s2) 3 s3) 4 s4) 5 s5 9).getD (nI j).toNatClampNeg 0 = f j := fun s3 s4 s5 j hj => by
      show (a 9).getD (nI j).toNatClampNeg 0 = f j
      rw [nI_clamp (by omega), h9 j hj]
    have in9 : ∀ j, j < t → vp_in (nI j) (a 9).length := fun j hj => vp_in_nI (by omega) (by omega)
    refine jx_auto rfl trivial ?_
    refine jx_if rfl (fun c1 => absurd (show nI l ≤ nI i from c1) (nI_ge (by omega) (by omega))) (fun _ => ?_)
    -- the kind
    refine jx_steps 10 rfl trivial ?_
    dsimp only
    rw [ix]
    refine jx_steps 1 rfl ⟨in9 (p + q + 2 + 4 * i) (by omega), trivial⟩ ?_
    rw [rd9 _ _ _ (p + q + 2 + 4 * i) (by omega)]
    refine jx_callE 1 rfl (by decide) jm_kindBy ?_
    refine jx_steps 1 rfl ⟨by show vp_in (nI i) s3.length; exact vp_in_nI (by omega) (by omega), trivial⟩ ?_
    rw [nI_clamp (by omega)]
    refine jx_at (h' := mx v a w u p q l s0 s1 s2 (s3.set i (jx_kindC (f (p + q + 2 + 4 * i)))) s4 s5) ?_ rfl rfl rfl rfl
    -- the covert
    refine jx_steps 12 rfl trivial ?_
    dsimp only
    rw [ix, nI_1]
    refine jx_steps 1 rfl ⟨in9 (p + q + 2 + 4 * i + 1) (by omega), trivial⟩ ?_
    rw [rd9 _ _ _ (p + q + 2 + 4 * i + 1) (by omega)]
    refine jx_steps 3 rfl ⟨by show vp_in (nI i) s4.length; exact vp_in_nI (by omega) (by omega), trivial⟩ ?_
    dsimp only
    rw [nI_clamp (by omega)]
    refine jx_at (h' := mx v a w u p q l s0 s1 s2 (s3.set i (jx_kindC (f (p + q + 2 + 4 * i)))) (s4.set i (f (p + q + 2 + 4 * i + 1) - 48)) s5) ?_ rfl rfl rfl rfl
    -- how high
    refine jx_steps 12 rfl trivial ?_
    dsimp only
    rw [ix, show nI (p + q + 2 + 4 * i) + 2 = nI (p + q + 2 + 4 * i + 2) from nI_add _ 2]
    refine jx_steps 1 rfl ⟨in9 (p + q + 2 + 4 * i + 2) (by omega), trivial⟩ ?_
    rw [rd9 _ _ _ (p + q + 2 + 4 * i + 2) (by omega)]
    refine jx_steps 3 rfl ⟨by show vp_in (nI i) s5.length; exact vp_in_nI (by omega) (by omega), trivial⟩ ?_
    dsimp only
    rw [nI_clamp (by omega)]
    refine jx_steps 2 rfl trivial ?_
    rw [nI_1]
    refine jx_at (ih (i + 1) (by omega) (s3.set i (jx_kindC (f (p + q + 2 + 4 * i)))) (s4.set i (f (p + q + 2 + 4 * i + 1) - 48)) (s5.set i (f (p + q + 2 + 4 * i + 2) - 48)) (List.length_set.trans k3) (List.length_set.trans k4) (List.length_set.trans k5) (fun k hk => ?_) (fun k hk => ?_) (fun k hk => ?_)) rfl rfl rfl rfl
    · by_cases e : k = i
      · subst e; exact jl_getset (by omega)
      · rw [jl_getne e]; exact m3 k (by omega)
    · by_cases e : k = i
      · subst e; exact jl_getset (by omega)
      · rw [jl_getne e]; exact m4 k (by omega)
    · by_cases e : k = i
      · subst e; exact jl_getset (by omega)
      · rw [jl_getne e]; exact m5 k (by omega)
theorem jm_moor {G : jG} (h : jMG v a G) (hp : jpgM v a t f) (hok : pgok t f) : jx_W 6 jk_X7_moor 0 [some (.ref 0), none, none] [] (jM v a w u) (jMm v a w u t f) := by
  have hn := h.lens
  obtain ⟨p1, p2, p3, p4⟩ := id hp
  refine jx_auto rfl trivial ?_
  refine jx_call 5 rfl (by decide) (jm_read hp hok) (fun r h' hq => ?_)
  obtain ⟨v1, rfl, rfl, q1, q2, q3⟩ := hq
  by_cases hyes : (rd (pgcc t f) t).2.1 = true
  · rw [if_pos hyes] at q2
    obtain ⟨x1, x2, x3⟩ := q3 hyes
    have hx := tx_of hok hyes
    have hgn : gnew t f = gnw (rd_p (pgcc t f)) (rd_q (pgcc t f)) (rd (pgcc t f) t).2.2 f := rfl
    have han : an_moor t f = nI (rd (pgcc t f) t).2.2 := if_pos hyes
    generalize rd_p (pgcc t f) = p at x1 hx hgn
    generalize rd_q (pgcc t f) = q at x2 hx hgn
    generalize (rd (pgcc t f) t).2.2 = l at x3 hx hgn han
    have hx2 := hx
    obtain ⟨xp, xq, xl, xs, xl2, xc, xd⟩ := hx2
    refine jx_auto rfl trivial ?_
    rw [q2]
    refine jx_if rfl (fun _ => ?_) (fun c2 => absurd (show ¬ (1 : Int32) = 0 by decide) c2)
    refine jx_steps 14 rfl trivial ?_
    refine jx_at (h' := mx v1 a w u p q l (a 0) (a 1) (a 2) (a 3) (a 4) (a 5)) (pc' := 41) (ls' := [some (.ref 0), some (.int (nI 0)), none]) (st' := []) ?_ rfl rfl rfl (by unfold mx; rw [← x1, ← x2, ← x3]; rfl)
    refine jm_layReach0 (t := t) (f := f) xp p3 p4 (by omega) p2 (fun s0 s1 a0 a1 b0 b1 y => ?_) p 0 (by omega) (a 0) (a 1) hn.1 hn.2.1 (fun k hk => absurd hk (Nat.not_lt_zero k)) (fun k hk => absurd hk (Nat.not_lt_zero k))
    refine jx_steps 2 rfl trivial ?_
    refine jm_layFeed (t := t) (f := f) xp xq p3 p4 (by omega) p2 (fun s2 a2 b2 y => ?_) q 0 (by omega) (a 2) hn.2.2.1 (fun k hk => absurd hk (Nat.not_lt_zero k))
    refine jx_steps 10 rfl trivial ?_
    refine jx_at (ls' := [some (.ref 0), some (.int (nI (p + q + 2))), some (.int (nI 0))]) ?_ rfl ?_ rfl rfl
    · refine jm_layLaughs (t := t) (f := f) hx p3 p4 p2 (fun s3 s4 s5 a3 a4 a5 b3 b4 b5 y => ?_) l 0 (by omega) (a 3) (a 4) (a 5) hn.2.2.2.1 hn.2.2.2.2.1 hn.2.2.2.2.2.1 (fun k hk => absurd hk (Nat.not_lt_zero k)) (fun k hk => absurd hk (Nat.not_lt_zero k)) (fun k hk => absurd hk (Nat.not_lt_zero k))
      refine jx_auto rfl trivial ?_
      refine jx_done rfl trivial (Or.inl ⟨hyes, jup (jup (jup (jup (jup (jup (jup (jup v1 1 (nI p)) 2 (nI q)) 3 (nI l)) 4 0) 5 0) 0 (v1 0 + 1)) 7 0) 8 0, jup (jup (jup (jup (jup (jup a 0 s0) 1 s1) 2 s2) 3 s3) 4 s4) 5 s5, by rw [han]; rfl, rfl, ?_, ?_, ?_, rfl, fun j hj => ?_, fun j hj => ?_⟩)
      · rw [hgn]
        exact mx_game xp xq xl ⟨a0, b0⟩ ⟨a1, b1⟩ ⟨a2, b2⟩ ⟨a3, b3⟩ ⟨a4, b4⟩ ⟨a5, b5⟩ hn.2.2.2.2.2.2.1 hn.2.2.2.2.2.2.2.1 hn.2.2.2.2.2.2.2.2
      · show v1 0 + 1 = v 0 + 1
        rw [q1 0 (by omega)]
      · show v1 6 = v 6
        rw [q1 6 (by omega)]
      · rw [jup_n _ _ (by omega), jup_n _ _ (by omega), jup_n _ _ (by omega), jup_n _ _ (by omega), jup_n _ _ (by omega), jup_n _ _ (by omega), jup_n _ _ (by omega), jup_n _ _ (by omega)]
        exact q1 j (by omega)
      · rw [jup_n _ _ (by omega), jup_n _ _ (by omega), jup_n _ _ (by omega), jup_n _ _ (by omega), jup_n _ _ (by omega), jup_n _ _ (by omega)]
    · show [some (Value.ref 0), some (Value.int (nI p + nI q + 2)), some (Value.int 0)] = _
      rw [nI_add, show nI (p + q) + 2 = nI (p + q + 2) from nI_add _ 2]
      rfl
  · rw [if_neg hyes] at q2
    refine jx_auto rfl trivial ?_
    rw [q2]
    refine jx_if rfl (fun c2 => absurd rfl c2) (fun _ => ?_)
    refine jx_auto rfl trivial ?_
    exact jx_done rfl trivial (Or.inr ⟨by simpa using hyes, v1, by rw [an_moor, if_neg hyes], rfl, q1⟩)
end
