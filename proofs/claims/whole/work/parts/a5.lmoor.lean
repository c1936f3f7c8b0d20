/-! LaughDrive's moor: the new game -/
def gnw (p q l : Nat) (f : Nat → Int32) : jG := (fun k => match k with
  | 0 => p
  | 1 => q
  | 2 => l
  | _ => 0, fun r => match r with
  | 0 => fun i => f i - 48
  | 2 => fun i => f (p + 1 + i) - 48
  | 3 => fun i => jx_kindC (f (p + q + 2 + 4 * i))
  | 4 => fun i => f (p + q + 2 + 4 * i + 2) - 48
  | 5 => fun i => f (p + q + 2 + 4 * i + 1) - 48
  | _ => fun _ => 0)
def gnew (t : Nat) (f : Nat → Int32) : jG := gnw (rd_p (pgcc t f)) (rd_q (pgcc t f)) (rd (pgcc t f) t).2.2 f
theorem au_le {cc : Nat → Nat} : ∀ (m : Nat) (s : auS) (k : Nat), (au_run cc m s k).1 ≤ m + k
  | 0, s, k => by rw [au_run]; show k ≤ 0 + k; omega
  | m + 1, s, k => by
    rw [au_run]
    cases au_step s (cc k) with
    | none => show k ≤ m + 1 + k; omega
    | some s' => have := au_le (cc := cc) m s' (k + 1); show (au_run cc m s' (k + 1)).1 ≤ m + 1 + k; omega
/-- what is asked of the text: its sizes, its places -/
def tx_ok (t : Nat) (f : Nat → Int32) (p q l : Nat) : Prop := p ≤ 6 ∧ q ≤ 4 ∧ l ≤ 6 ∧ p + q + 2 + 4 * l = t + 1 ∧ 2 ≤ l ∧ (∀ k, k < t → ∃ m, m ≤ 126 ∧ f k = nI m) ∧ ∀ i, i < l → ∃ d, d < q ∧ f (p + q + 2 + 4 * i + 1) - 48 = nI d
section
variable {v : Nat → Int32} {a : Nat → List Int32} {w : Int64} {t : Nat} {f : Nat → Int32}
theorem jl_digitAt (l0 : (a 0).length = 40) {k : Nat} (hk : k < 40) {y : Int32} (hy : (a 0).getD k 0 = y) : jx_W 2 jk_X1_digitAt 0 [some (.ref 1), some (.int (nI k))] [] (jL v a w) (jx_is (some (.int (y - 48))) (jL v a w)) := by
  refine jx_auto rfl trivial ?_
  refine jx_callE 1 rfl (by decide) (jr_at (q := 3) (l := a 0) (by omega) rfl rfl) ?_
  rw [jp_at_in (by omega) (by omega), hy]
  refine jx_auto rfl trivial ?_
  exact jx_ends rfl trivial
/-- the world while it is laid -/
def mw (v : Nat → Int32) (a : Nat → List Int32) (w : Int64) (p q l : Nat) (P : Int32) (s1 s2 s3 s4 s5 : List Int32) : jx_H := jL (jup (jup (jup (jup (jup (jup (jup v 8 (nI p)) 9 (nI q)) 10 (nI l)) 14 0) 11 P) 12 0) 13 0) (jup (jup (jup (jup (jup a 2 s2) 1 s1) 3 s3) 4 s4) 5 s5) w
theorem jl_moorBegin {p q l : Nat} (l2 : (a 2).length = 6) {Q : jx_Q} (kk : ∀ s2 : List Int32, s2.length = 6 → (∀ k, k < 6 → s2.getD k 0 = 0) → Q none (mw v a w p q l 0 (a 1) s2 (a 3) (a 4) (a 5))) : jx_W 2 jk_X0_begin 0 [some (.ref 6), some (.int (nI p)), some (.int (nI q)), some (.int (nI l))] [] (jL v a w) Q := by
  refine jx_auto rfl trivial ?_
  refine jx_at (h' := jL (jup (jup (jup v 8 (nI p)) 9 (nI q)) 10 (nI l)) a w) ?_ rfl rfl rfl rfl
  refine jx_call 1 rfl (by decide) (jr_clear (q := 10) (l := a 2) (by omega) rfl rfl) (fun r h' hq => ?_)
  obtain ⟨rfl, s2, rfl, k1, k2⟩ := hq
  refine jx_auto rfl trivial ?_
  refine jx_at (h' := jL (jup (jup (jup v 8 (nI p)) 9 (nI q)) 10 (nI l)) (jup a 2 s2) w) ?_ rfl rfl rfl rfl
  refine jx_callE 1 rfl (by decide) jl_seenClear ?_
  refine jx_auto rfl trivial ?_
  refine jx_done rfl trivial ?_
  exact kk s2 (by omega) (fun k hk => k2 k (by omega))
theorem jl_layReach {p q l : Nat} (hp : p ≤ 6) (l0 : (a 0).length = 40) (h0 : ∀ k, k < t → (a 0).getD k 0 = f k) (ht : p ≤ t) (ht4 : t ≤ 40) {P : Int32} {s2 s3 s4 s5 : List Int32} {x2 x3 : Int32} {Q : jx_Q} (kk : ∀ s1 : List Int32, s1.length = 6 → (∀ k, k < p → s1.getD k 0 = f k - 48) → ∀ z, jx_W 11 jk_X1_readInto 101 [some (.ref 1), some (.ref 6), some (.int x2), some (.int x3), z, none] [] (mw v a w p q l P s1 s2 s3 s4 s5) Q) : ∀ m i, i + m = p → ∀ s1 : List Int32, s1.length = 6 → (∀ k, k < i → s1.getD k 0 = f k - 48) → jx_W 11 jk_X1_readInto 71 [some (.ref 1), some (.ref 6), some (.int x2), some (.int x3), some (.int (nI i)), none] [] (mw v a w p q l P s1 s2 s3 s4 s5) Q := by
  intro m
  induction m with
  | zero =>
    intro i hi s1 k1 k2
    refine jx_auto rfl trivial ?_
    refine jx_if rfl (fun _ => ?_) (fun c1 => absurd (show nI p ≤ nI i from nI_le (by omega) (by omega)) c1)
    exact kk s1 k1 (fun k hk => k2 k (by omega)) _
  | succ m ih =>
    intro i hi s1 k1 k2
    refine jx_auto rfl trivial ?_
    refine jx_if rfl (fun c1 => absurd (show nI p ≤ nI i from c1) (nI_ge (by omega) (by omega))) (fun _ => ?_)
    refine jx_auto rfl trivial ?_
    refine jx_callE 2 rfl (by decide) (jl_digitAt (v := jup (jup (jup (jup (jup (jup (jup v 8 (nI p)) 9 (nI q)) 10 (nI l)) 14 0) 11 P) 12 0) 13 0) (a := jup (jup (jup (jup (jup a 2 s2) 1 s1) 3 s3) 4 s4) 5 s5) (w := w) l0 (k := i) (by omega) (h0 i (by omega))) ?_
    refine jx_auto rfl trivial ?_
    refine jx_callE 1 rfl (by decide) (jr_set_in (k := i) (q := 8) (l := s1) (by omega) (by omega) rfl rfl) ?_
    refine jx_steps 2 rfl trivial ?_
    rw [nI_1]
    refine jx_at (ih (i + 1) (by omega) (s1.set i (f i - 48)) (List.length_set.trans k1) (fun k hk => ?_)) rfl rfl rfl rfl
    by_cases e : k = i
    · subst e; exact jl_getset (by omega)
    · rw [jl_getne e]; exact k2 k (by omega)
theorem jl_layFeed {p q l : Nat} (hq : q ≤ 4) (l0 : (a 0).length = 40) (h0 : ∀ k, k < t → (a 0).getD k 0 = f k) (ht : p + 1 + q ≤ t) (ht4 : t ≤ 40) {P : Int32} {s1 s2 s4 s5 : List Int32} {x3 : Int32} {Q : jx_Q} (kk : ∀ s3 : List Int32, s3.length = 4 → (∀ k, k < q → s3.getD k 0 = f (p + 1 + k) - 48) → ∀ z, jx_W 11 jk_X1_readInto 136 [some (.ref 1), some (.ref 6), some (.int (nI (p + 1))), some (.int x3), z, none] [] (mw v a w p q l P s1 s2 s3 s4 s5) Q) : ∀ m i, i + m = q → ∀ s3 : List Int32, s3.length = 4 → (∀ k, k < i → s3.getD k 0 = f (p + 1 + k) - 48) → jx_W 11 jk_X1_readInto 104 [some (.ref 1), some (.ref 6), some (.int (nI (p + 1))), some (.int x3), some (.int (nI i)), none] [] (mw v a w p q l P s1 s2 s3 s4 s5) Q := by
  intro m
  induction m with
  | zero =>
    intro i hi s3 k1 k2
    refine jx_auto rfl trivial ?_
    refine jx_if rfl (fun _ => ?_) (fun c1 => absurd (show nI q ≤ nI i from nI_le (by omega) (by omega)) c1)
    exact kk s3 k1 (fun k hk => k2 k (by omega)) _
  | succ m ih =>
    intro i hi s3 k1 k2
    refine jx_auto rfl trivial ?_
    refine jx_if rfl (fun c1 => absurd (show nI q ≤ nI i from c1) (nI_ge (by omega) (by omega))) (fun _ => ?_)
    refine jx_auto rfl trivial ?_
    dsimp only
    rw [nI_add]
    refine jx_callE 2 rfl (by decide) (jl_digitAt (v := jup (jup (jup (jup (jup (jup (jup v 8 (nI p)) 9 (nI q)) 10 (nI l)) 14 0) 11 P) 12 0) 13 0) (a := jup (jup (jup (jup (jup a 2 s2) 1 s1) 3 s3) 4 s4) 5 s5) (w := w) l0 (k := p + 1 + i) (by omega) (h0 (p + 1 + i) (by omega))) ?_
    refine jx_auto rfl trivial ?_
    refine jx_callE 1 rfl (by decide) (jr_set_in (k := i) (q := 12) (l := s3) (by omega) (by omega) rfl rfl) ?_
    refine jx_steps 2 rfl trivial ?_
    rw [nI_1]
    refine jx_at (ih (i + 1) (by omega) (s3.set i (f (p + 1 + i) - 48)) (List.length_set.trans k1) (fun k hk => ?_)) rfl rfl rfl rfl
    by_cases e : k = i
    · subst e; exact jl_getset (by omega)
    · rw [jl_getne e]; exact k2 k (by omega)
theorem jl_layLaughs {p q l : Nat} (hx : tx_ok t f p q l) (l0 : (a 0).length = 40) (h0 : ∀ k, k < t → (a 0).getD k 0 = f k) (ht4 : t ≤ 40) {s1 s2 s3 : List Int32} {x2 : Int32} {Q : jx_Q} (kk : ∀ (P : Int32) (s4 s5 : List Int32), jpk P (fun i => f (p + q + 2 + 4 * i + 1) - 48) l → s4.length = 6 → s5.length = 6 → (∀ k, k < l → s4.getD k 0 = jx_kindC (f (p + q + 2 + 4 * k))) → (∀ k, k < l → s5.getD k 0 = f (p + q + 2 + 4 * k + 2) - 48) → Q (some (.int 1)) (mw v a w p q l P s1 s2 s3 s4 s5)) : ∀ m i, i + m = l → ∀ (P : Int32) (s4 s5 : List Int32) (z5 : Option Value), jpk P (fun j => if j < i then f (p + q + 2 + 4 * j + 1) - 48 else -1) l → s4.length = 6 → s5.length = 6 → (∀ k, k < i → s4.getD k 0 = jx_kindC (f (p + q + 2 + 4 * k))) → (∀ k, k < i → s5.getD k 0 = f (p + q + 2 + 4 * k + 2) - 48) → jx_W 11 jk_X1_readInto 139 [some (.ref 1), some (.ref 6), some (.int x2), some (.int (nI (p + q + 2))), some (.int (nI i)), z5] [] (mw v a w p q l P s1 s2 s3 s4 s5) Q := by
  obtain ⟨hp, hq, hl, hsum, hl2, hch, hdig⟩ := hx
  intro m
  induction m with
  | zero =>
    intro i hi P s4 s5 z5 hP k4 k5 m4 m5
    refine jx_auto rfl trivial ?_
    refine jx_if rfl (fun _ => ?_) (fun c1 => absurd (show nI l ≤ nI i from nI_le (by omega) (by omega)) c1)
    refine jx_auto rfl trivial ?_
    refine jx_done rfl ⟨Or.inr rfl, trivial⟩ ?_
    exact kk P s4 s5 (jpk_congr hP (fun j hj => by rw [if_pos (by omega)])) k4 k5 (fun k hk => m4 k (by omega)) (fun k hk => m5 k (by omega))
  | succ m ih =>
    intro i hi P s4 s5 z5 hP k4 k5 m4 m5
    have hil : i < l := by omega
    obtain ⟨d, hd, ed⟩ := hdig i hil
    obtain ⟨mk, hmk, ek⟩ := hch (p + q + 2 + 4 * i) (by omega)
    have ix : nI (p + q + 2) + 4 * nI i = nI (p + q + 2 + 4 * i) := by
      rw [show (4 : Int32) * nI i = nI (4 * i) from pk_mul 4 i, nI_add]
    refine jx_auto rfl trivial ?_
    refine jx_if rfl (fun c1 => absurd (show nI l ≤ nI i from c1) (nI_ge (by omega) (by omega))) (fun _ => ?_)
    refine jx_auto rfl trivial ?_
    dsimp only
    rw [ix]
    refine jx_callE 1 rfl (by decide) (jr_at (q := 3) (l := a 0) (by omega) rfl rfl) ?_
    rw [jp_at_in (by omega) (by omega), h0 (p + q + 2 + 4 * i) (by omega)]
    refine jx_auto rfl trivial ?_
    refine jx_callE 8 rfl (by decide) (jx_kind_of ⟨rfl, rfl⟩) ?_
    rw [show jx_kindOf (f (p + q + 2 + 4 * i)) = jx_kindC (f (p + q + 2 + 4 * i)) by rw [ek]; exact kind_c mk hmk]
    refine jx_callE 1 rfl (by decide) (jr_set_in (k := i) (q := 14) (l := s4) (by omega) (by omega) rfl rfl) ?_
    refine jx_at (pc' := 177) (h' := mw v a w p q l P s1 s2 s3 (s4.set i (jx_kindC (f (p + q + 2 + 4 * i)))) s5) ?_ rfl rfl rfl rfl
    refine jx_auto rfl trivial ?_
    dsimp only
    rw [nI_1]
    refine jx_callE 2 rfl (by decide) (jl_digitAt (v := jup (jup (jup (jup (jup (jup (jup v 8 (nI p)) 9 (nI q)) 10 (nI l)) 14 0) 11 P) 12 0) 13 0) (a := jup (jup (jup (jup (jup a 2 s2) 1 s1) 3 s3) 4 (s4.set i (jx_kindC (f (p + q + 2 + 4 * i))))) 5 s5) (w := w) l0 (k := p + q + 2 + 4 * i + 1) (by omega) (h0 (p + q + 2 + 4 * i + 1) (by omega))) ?_
    refine jx_auto rfl trivial ?_
    refine jx_callE 1 rfl (by decide) jl_withPlace ?_
    refine jx_auto rfl trivial ?_
    refine jx_at (h' := mw v a w p q l (jp_wp P i (f (p + q + 2 + 4 * i + 1) - 48)) s1 s2 s3 (s4.set i (jx_kindC (f (p + q + 2 + 4 * i)))) s5) ?_ rfl rfl rfl rfl
    dsimp only
    rw [show nI (p + q + 2 + 4 * i) + 2 = nI (p + q + 2 + 4 * i + 2) from nI_add _ 2]
    refine jx_callE 2 rfl (by decide) (jl_digitAt (v := jup (jup (jup (jup (jup (jup (jup v 8 (nI p)) 9 (nI q)) 10 (nI l)) 14 0) 11 (jp_wp P i (f (p + q + 2 + 4 * i + 1) - 48))) 12 0) 13 0) (a := jup (jup (jup (jup (jup a 2 s2) 1 s1) 3 s3) 4 (s4.set i (jx_kindC (f (p + q + 2 + 4 * i))))) 5 s5) (w := w) l0 (k := p + q + 2 + 4 * i + 2) (by omega) (h0 (p + q + 2 + 4 * i + 2) (by omega))) ?_
    refine jx_auto rfl trivial ?_
    refine jx_callE 1 rfl (by decide) (jr_set_in (k := i) (q := 16) (l := s5) (by omega) (by omega) rfl rfl) ?_
    refine jx_steps 2 rfl trivial ?_
    rw [nI_1]
    refine jx_at (ih (i + 1) (by omega) (jp_wp P i (f (p + q + 2 + 4 * i + 1) - 48)) (s4.set i (jx_kindC (f (p + q + 2 + 4 * i)))) (s5.set i (f (p + q + 2 + 4 * i + 2) - 48)) _ ?_ (List.length_set.trans k4) (List.length_set.trans k5) (fun k hk => ?_) (fun k hk => ?_)) rfl rfl rfl rfl
    · refine jpk_congr (jpk_set hP hl (l := i) (by omega) (c1 := d + 1) (by omega) (c := f (p + q + 2 + 4 * i + 1) - 48) (by rw [ed, nI_1])) (fun j hj => ?_)
      by_cases e : j = i
      · subst e; rw [jup_s, if_pos (by omega)]
      · rw [jup_n _ _ e]
        by_cases e2 : j < i
        · rw [if_pos e2, if_pos (by omega)]
        · rw [if_neg e2, if_neg (by omega)]
    · by_cases e : k = i
      · subst e; exact jl_getset (by omega)
      · rw [jl_getne e]; exact m4 k (by omega)
    · by_cases e : k = i
      · subst e; exact jl_getset (by omega)
      · rw [jl_getne e]; exact m5 k (by omega)
end
