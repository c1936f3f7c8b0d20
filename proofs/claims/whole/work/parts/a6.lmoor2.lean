/-! LaughDrive's moor: readInto, moor -/
theorem tx_of {t : Nat} {f : Nat → Int32} (hok : pgok t f) (h : (rd (pgcc t f) t).2.1 = true) : tx_ok t f (rd_p (pgcc t f)) (rd_q (pgcc t f)) (rd (pgcc t f) t).2.2 := by
  obtain ⟨h1, h2, h3, h4, h5, h6, h7, h8, h9, h10⟩ := rd_whole h
  refine ⟨h2, h4, h6, h7, h5, hok, fun i hi => ?_⟩
  obtain ⟨⟨k1, k2⟩, k3⟩ := h10 i hi
  have hlt : rd_p (pgcc t f) + rd_q (pgcc t f) + 2 + 4 * i + 1 < t := by omega
  have hin := (pgcc_in hok hlt).1
  refine ⟨pgcc t f (rd_p (pgcc t f) + rd_q (pgcc t f) + 2 + 4 * i + 1) - 48, by omega, ?_⟩
  rw [hin]
  exact pk_sub (b := 48) k1.1
def an_moor (t : Nat) (f : Nat → Int32) : Int32 := if (rd (pgcc t f) t).2.1 = true then nI (rd (pgcc t f) t).2.2 else -103
/-- what moor() leaves -/
def jLm (v : Nat → Int32) (a : Nat → List Int32) (w : Int64) (t : Nat) (f : Nat → Int32) : jx_Q := fun r h' =>
  ((rd (pgcc t f) t).2.1 = true ∧ ∃ v' a', r = some (.int (an_moor t f)) ∧ h' = jL v' a' w ∧ jLG v' a' (gnew t f) ∧ v' 0 = 0 ∧ v' 1 = v 1 + 1 ∧ v' 2 = v 2 ∧ v' 3 = 0 ∧ (∀ j, 14 < j → v' j = v j) ∧ ∀ j, j = 0 ∨ 8 < j → a' j = a j) ∨
  ((rd (pgcc t f) t).2.1 = false ∧ jLf v a w (an_moor t f) r h')
section
variable {v : Nat → Int32} {a : Nat → List Int32} {w : Int64} {t : Nat} {f : Nat → Int32}
theorem mw_game {p q l : Nat} {P : Int32} {s1 s2 s3 s4 s5 : List Int32} (hp : p ≤ 6) (hq : q ≤ 4) (hl : l ≤ 6) (h1 : s1.length = 6 ∧ ∀ k, k < p → s1.getD k 0 = f k - 48) (h2 : s2.length = 6 ∧ ∀ k, k < 6 → s2.getD k 0 = 0) (h3 : s3.length = 4 ∧ ∀ k, k < q → s3.getD k 0 = f (p + 1 + k) - 48) (h4 : s4.length = 6 ∧ ∀ k, k < l → s4.getD k 0 = jx_kindC (f (p + q + 2 + 4 * k))) (h5 : s5.length = 6 ∧ ∀ k, k < l → s5.getD k 0 = f (p + q + 2 + 4 * k + 2) - 48) (l6 : (a 6).length = 6) (l7 : (a 7).length = 6) (l8 : (a 8).length = 6) (hP : jpk P (fun i => f (p + q + 2 + 4 * i + 1) - 48) l) : jLG (jup (jup (jup (jup (jup (jup (jup v 8 (nI p)) 9 (nI q)) 10 (nI l)) 14 0) 11 P) 12 0) 13 0) (jup (jup (jup (jup (jup a 2 s2) 1 s1) 3 s3) 4 s4) 5 s5) (gnw p q l f) :=
  ⟨⟨rfl, rfl, rfl, rfl, hp, hq, hl, Nat.zero_le _⟩, ⟨h1.1, h2.1, h3.1, h4.1, h5.1, l6, l7, l8⟩, h1.2, fun k hk => h2.2 k (by have : k < p := hk; omega), h3.2, h4.2, h5.2, fun k hk => absurd hk (Nat.not_lt_zero k), fun k hk => absurd hk (Nat.not_lt_zero k), fun k hk => absurd hk (Nat.not_lt_zero k), hP, rfl, rfl⟩
theorem jl_isWhole (s : auS) : jx_W 1 jk_X3_isWhole 0 [some (.ref 4)] [] (jL (auV v s) a w) (jx_is (some (.int (if nI s.1 = 5 ∧ ¬ nI s.2.2.2 < 2 then 1 else 0))) (jL (auV v s) a w)) := by
  refine jx_auto rfl trivial ?_
  refine jx_if rfl (fun c1 => ?_) (fun c1 => ?_)
  · have c1 : ¬ nI s.1 = 5 := c1
    rw [if_neg (show ¬ (nI s.1 = 5 ∧ ¬ nI s.2.2.2 < 2) from fun y => c1 y.1)]
    refine jx_auto rfl trivial ?_
    exact jx_ends rfl ⟨Or.inl rfl, trivial⟩
  · have c1 : nI s.1 = 5 := Decidable.not_not.mp c1
    refine jx_auto rfl trivial ?_
    refine jx_if rfl (fun c2 => ?_) (fun c2 => ?_)
    · have c2 : nI s.2.2.2 < 2 := c2
      rw [if_neg (show ¬ (nI s.1 = 5 ∧ ¬ nI s.2.2.2 < 2) from fun y => y.2 c2)]
      refine jx_auto rfl trivial ?_
      exact jx_ends rfl ⟨Or.inl rfl, trivial⟩
    · have c2 : ¬ nI s.2.2.2 < 2 := c2
      rw [if_pos (show nI s.1 = 5 ∧ ¬ nI s.2.2.2 < 2 from ⟨c1, c2⟩)]
      refine jx_auto rfl trivial ?_
      exact jx_ends rfl ⟨Or.inr rfl, trivial⟩
theorem auI_run {cc : Nat → Nat} : ∀ (m : Nat) (s : auS) (k : Nat), auI s → auI (au_run cc m s k).2
  | 0, s, k, h => h
  | m + 1, s, k, h => by
    rw [au_run]
    cases e : au_step s (cc k) with
    | none => exact h
    | some s' => exact auI_run m s' (k + 1) (auI_step h e)
/-- what readInto leaves -/
def jLr (v : Nat → Int32) (a : Nat → List Int32) (w : Int64) (t : Nat) (f : Nat → Int32) : jx_Q := fun r h' =>
  ((rd (pgcc t f) t).2.1 = true ∧ ∃ v' a', r = some (.int 1) ∧ h' = jL v' a' w ∧ jLG v' a' (gnew t f) ∧ (∀ j, j < 4 ∨ 14 < j → v' j = v j) ∧ ∀ j, j = 0 ∨ 8 < j → a' j = a j) ∨
  ((rd (pgcc t f) t).2.1 = false ∧ jLf v a w 0 r h')
theorem jl_readInto {G : jG} (h : jLG v a G) (hp : jpgL v a t f) (hok : pgok t f) : jx_W 11 jk_X1_readInto 0 [some (.ref 1), some (.ref 6), none, none, none, none] [] (jL v a w) (jLr v a w t f) := by
  have hn := h.lens
  obtain ⟨p1, p2, p3, p4⟩ := id hp
  have hall := au_all (cc := pgcc t f) (t := t) pgcc_out
  have hle := au_le (cc := pgcc t f) t au0 0
  have hI := auI_run (cc := pgcc t f) t au0 0 auI_0
  have hall : au_ok t (rd_p (pgcc t f)) (rd_q (pgcc t f)) (au_run (pgcc t f) t au0 0) (rd (pgcc t f) t) := hall
  generalize hA : au_run (pgcc t f) t au0 0 = A at hall hle hI
  obtain ⟨e1, e2, e3⟩ := hall
  have no : ¬ (rd (pgcc t f) t).2.1 = true → jx_W 11 jk_X1_readInto 25 [some (.ref 1), some (.ref 6), none, none, none, none] [] (jL (auV v A.2) a w) (jLr v a w t f) := by
    intro hno
    refine jx_auto rfl trivial ?_
    refine jx_done rfl ⟨Or.inl rfl, trivial⟩ (Or.inr ⟨by simpa using hno, _, rfl, rfl, fun j hj => auV_n hj⟩)
  refine jx_auto rfl trivial ?_
  refine jx_callE 10 rfl (by decide) (jl_faultPlace hp hok) ?_
  rw [hA]
  refine jx_auto rfl trivial ?_
  rw [show auV v A.2 3 = nI t from p1]
  refine jx_if rfl (fun c1 => no (fun y => ?_)) (fun c1 => ?_)
  · have := (nI_ltI (by omega) (by omega)).mp c1
    have := (e2.mp y).1
    omega
  have ht : A.1 = t := by
    have : ¬ A.1 < t := fun y => c1 (nI_lt y (by omega))
    omega
  refine jx_auto rfl trivial ?_
  refine jx_callE 1 rfl (by decide) (jl_isWhole A.2) ?_
  unfold auI at hI
  by_cases hw : nI A.2.1 = 5 ∧ ¬ nI A.2.2.2.2 < 2
  · rw [if_pos hw]
    refine jx_if rfl (fun _ => ?_) (fun c2 => absurd (show ¬ (1 : Int32) = 0 by decide) c2)
    have hyes : (rd (pgcc t f) t).2.1 = true := e2.mpr ⟨ht, (nI_eq (b := 5) (by omega) (by decide)).mp hw.1, by
      have : ¬ A.2.2.2.2 < 2 := fun y => hw.2 (nI_lt (b := 2) y (by decide))
      omega⟩
    obtain ⟨x1, x2, x3⟩ := e3 hyes
    have hx := tx_of hok hyes
    have hgn : gnew t f = gnw (rd_p (pgcc t f)) (rd_q (pgcc t f)) (rd (pgcc t f) t).2.2 f := rfl
    generalize rd_p (pgcc t f) = p at x1 hx hgn
    generalize rd_q (pgcc t f) = q at x2 hx hgn
    generalize hL : (rd (pgcc t f) t).2.2 = l at x3 hx hgn
    have hx2 := hx
    obtain ⟨xp, xq, xl, xs, xl2, xc, xd⟩ := hx2
    refine jx_auto rfl trivial ?_
    rw [show auV v A.2 4 = nI p from by rw [← x1]; rfl, show auV v A.2 5 = nI q from by rw [← x2]; rfl, show auV v A.2 6 = nI l from by rw [← x3]; rfl]
    have l2 : (a 2).length = 6 := hn.2.1
    refine jx_call 2 rfl (by decide) (jl_moorBegin (p := p) (q := q) (l := l) l2 (Q := fun r h' => r = none ∧ ∃ s2 : List Int32, h' = mw (auV v A.2) a w p q l 0 (a 1) s2 (a 3) (a 4) (a 5) ∧ s2.length = 6 ∧ ∀ k, k < 6 → s2.getD k 0 = 0) (fun s2 k1 k2 => ⟨rfl, s2, rfl, k1, k2⟩)) (fun r h' hq => ?_)
    obtain ⟨rfl, s2, rfl, k1, k2⟩ := hq
    refine jx_steps 14 rfl trivial ?_
    refine jx_at (st' := []) (h' := mw (auV v A.2) a w p q l 0 (a 1) s2 (a 3) (a 4) (a 5)) (pc' := 71) (ls' := [some (.ref 1), some (.ref 6), some (.int (nI (p + 1))), some (.int (nI (p + q + 2))), some (.int (nI 0)), none]) ?_ rfl ?_ rfl rfl
    · refine jl_layReach (t := t) (f := f) xp p3 p4 (by omega) p2 (fun s1 a1 a2 y => ?_) p 0 (by omega) (a 1) hn.1 (fun k hk => absurd hk (Nat.not_lt_zero k))
      refine jx_steps 2 rfl trivial ?_
      refine jl_layFeed (t := t) (f := f) xq p3 p4 (by omega) p2 (fun s3 b1 b2 y => ?_) q 0 (by omega) (a 3) hn.2.2.1 (fun k hk => absurd hk (Nat.not_lt_zero k))
      refine jx_steps 2 rfl trivial ?_
      refine jl_layLaughs (t := t) (f := f) hx p3 p4 p2 (fun P s4 s5 c1 c2 c3 c4 c5 => ?_) l 0 (by omega) 0 (a 4) (a 5) none (jpk_congr (jpk_0 l) (fun j _ => by rw [if_neg (Nat.not_lt_zero j)])) hn.2.2.2.1 hn.2.2.2.2.1 (fun k hk => absurd hk (Nat.not_lt_zero k)) (fun k hk => absurd hk (Nat.not_lt_zero k))
      refine Or.inl ⟨hyes, _, _, rfl, rfl, ?_, fun j hj => ?_, fun j hj => ?_⟩
      · rw [hgn]
        exact mw_game xp xq xl ⟨a1, a2⟩ ⟨k1, k2⟩ ⟨b1, b2⟩ ⟨c2, c4⟩ ⟨c3, c5⟩ hn.2.2.2.2.2.1 hn.2.2.2.2.2.2.1 hn.2.2.2.2.2.2.2 c1
      · rw [jup_n _ _ (by omega), jup_n _ _ (by omega), jup_n _ _ (by omega), jup_n _ _ (by omega), jup_n _ _ (by omega), jup_n _ _ (by omega), jup_n _ _ (by omega)]
        exact auV_n (by omega)
      · rw [jup_n _ _ (by omega), jup_n _ _ (by omega), jup_n _ _ (by omega), jup_n _ _ (by omega), jup_n _ _ (by omega)]
    · show [some (Value.ref 1), some (Value.ref 6), some (Value.int (nI p + 1)), some (Value.int (nI p + 1 + nI q + 1)), some (Value.int 0), none] = _
      rw [nI_1, nI_add, nI_1, show p + 1 + q + 1 = p + q + 2 by omega]
      rfl
  · rw [if_neg hw]
    refine jx_if rfl (fun c2 => absurd rfl c2) (fun _ => no (fun y => hw ?_))
    obtain ⟨-, y2, y3⟩ := e2.mp y
    exact ⟨by rw [y2]; rfl, fun y4 => by have := (nI_ltI (b := 2) (by omega) (by decide)).mp y4; omega⟩
theorem jl_moor {G : jG} (h : jLG v a G) (hp : jpgL v a t f) (hok : pgok t f) : jx_W 12 jk_X6_moor 0 [some (.ref 0)] [] (jL v a w) (jLm v a w t f) := by
  refine jx_auto rfl trivial ?_
  refine jx_call 11 rfl (by decide) (jl_readInto h hp hok) (fun r h' hq => ?_)
  rcases hq with ⟨hyes, v', a', rfl, rfl, hG, hv, ha⟩ | ⟨hno, v', rfl, rfl, hv⟩
  · refine jx_if rfl (fun _ => ?_) (fun c2 => absurd (show ¬ (1 : Int32) = 0 by decide) c2)
    have clear : jx_W 1 jk_X1_clear 0 [some (.ref 1), none] [] (jL v' a' w) (jx_is (some (.int (v' 3))) (jL (jup v' 3 0) a' w)) := by
      refine jx_auto rfl trivial ?_
      exact jx_ends rfl trivial
    refine jx_auto rfl trivial ?_
    refine jx_callE 1 rfl (by decide) clear ?_
    refine jx_auto rfl ⟨Or.inl rfl, trivial⟩ ?_
    refine jx_done rfl trivial (Or.inl ⟨hyes, jup (jup (jup v' 3 0) 0 0) 1 (v' 1 + 1), a', ?_, rfl, hG, rfl, ?_, ?_, rfl, fun j hj => ?_, ha⟩)
    · rw [an_moor, if_pos hyes]
      have e : v' 10 = nI (glg (gnew t f)) := hG.laughs
      show some (Value.int (v' 10)) = _
      rw [e]; rfl
    · show v' 1 + 1 = v 1 + 1
      rw [hv 1 (by omega)]
    · show v' 2 = v 2
      rw [hv 2 (by omega)]
    · rw [jup_n _ _ (by omega), jup_n _ _ (by omega), jup_n _ _ (by omega)]
      exact hv j (by omega)
  · refine jx_if rfl (fun c2 => absurd rfl c2) (fun _ => ?_)
    refine jx_auto rfl trivial ?_
    exact jx_done rfl trivial (Or.inr ⟨hno, v', by rw [an_moor, if_neg (by rw [hno]; decide)], rfl, hv⟩)
end
