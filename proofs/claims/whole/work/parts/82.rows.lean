/-! the next row of numbers: the reference's exchange, nextRow, firstRow, keepRow -/
def nx_k (q : List Nat) : Nat → Option Nat
  | 0 => none
  | k + 1 => if q.getD (k + 1) 0 < q.getD k 0 then nx_k q k else some k
def nx_e (q : List Nat) (k : Nat) : Nat → Nat
  | 0 => 0
  | e + 1 => if q.getD (e + 1) 0 < q.getD k 0 then nx_e q k e else e + 1
def nx_ex (q : List Nat) (a b : Nat) : List Nat := (q.set a (q.getD b 0)).set b (q.getD a 0)
def nx_rv : Nat → Nat → Nat → List Nat → List Nat
  | 0, _, _, q => q
  | f + 1, lo, hi, q => if lo < hi then nx_rv f (lo + 1) (hi - 1) (nx_ex q lo hi) else q
def nx (n : Nat) (q : List Nat) : Option (List Nat) := match nx_k q (n - 1) with
  | none => none
  | some k => some (nx_rv 6 (k + 1) (n - 1) (nx_ex q k (nx_e q k (n - 1))))
/-- a row of n numbers, as it lies in the reference's row of 6 -/
def nx_ro (n : Nat) (p : List Nat) : List Nat := p ++ (List.range 6).drop n
def nx_good (q : List Nat) : Prop := q.length = 6 ∧ ∀ k, k < 6 → q.getD k 0 < 6
def nx_ch (n : Nat) : List (List Nat) → Bool
  | [] => true
  | p :: r => decide (p.length = n) && p.all (fun k => decide (k < n)) && (match r with
    | [] => decide (nx n (nx_ro n p) = none)
    | q :: _ => decide (nx n (nx_ro n p) = some (nx_ro n q))) && nx_ch n r
theorem nx_ch4 : ∀ n, n < 5 → nx_ch n (pl_seqs n 4 (fun _ => false)) = true := by decide +kernel
theorem nx_ch6 : ∀ n, n < 7 → nx_ch n (pl_seqs n 6 (fun _ => false)) = true := by decide +kernel
theorem nx_first4 : ∀ n, n < 5 → (pl_seqs n 4 (fun _ => false)).head? = some (List.range n) := by decide +kernel
theorem nx_first6 : ∀ n, n < 7 → (pl_seqs n 6 (fun _ => false)).head? = some (List.range n) := by decide +kernel
theorem nx_range {n : Nat} (h : n ≤ 6) : nx_ro n (List.range n) = List.range 6 := by
  have : ∀ n, n < 7 → nx_ro n (List.range n) = List.range 6 := by decide
  exact this n (by omega)
theorem nx_ro_get {n : Nat} {p : List Nat} (h : p.length = n) {k : Nat} (hk : k < n) : (nx_ro n p).getD k 0 = p.getD k 0 := by
  unfold nx_ro
  rw [List.getD, List.getD, List.getElem?_append_left (by omega)]
theorem nx_ro_good {n : Nat} {p : List Nat} (hn : n ≤ 6) (h : p.length = n) (h6 : ∀ k ∈ p, k < n) : nx_good (nx_ro n p) := by
  refine ⟨by unfold nx_ro; simp; omega, fun k hk => ?_⟩
  by_cases e : k < n
  · rw [nx_ro_get h e, List.getD, List.getElem?_eq_getElem (by omega)]
    have := h6 (p[k]'(by omega)) (List.getElem_mem (by omega))
    show p[k]'(by omega) < 6
    omega
  · unfold nx_ro
    rw [List.getD, List.getElem?_append_right (by omega), List.getElem?_drop, List.getElem?_eq_getElem (by simp; omega)]
    simp
    omega
theorem nx_map_get (q : List Nat) (k : Nat) : (q.map nI).getD k 0 = nI (q.getD k 0) := by
  rw [List.getD, List.getD, List.getElem?_map]
  cases q[k]? with
  | none => rfl
  | some x => rfl
theorem nx_map_ex (q : List Nat) (i j : Nat) : ((q.map nI).set i ((q.map nI).getD j 0)).set j ((q.map nI).getD i 0) = (nx_ex q i j).map nI := by
  unfold nx_ex
  rw [nx_map_get, nx_map_get, ← List.map_set, ← List.map_set]
theorem nx_ex_good {q : List Nat} {i j : Nat} (h : nx_good q) (hi : i < 6) (hj : j < 6) : nx_good (nx_ex q i j) := by
  obtain ⟨h1, h2⟩ := h
  refine ⟨by unfold nx_ex; simp [h1], fun k hk => ?_⟩
  unfold nx_ex
  by_cases e : k = j
  · subst e
    rw [List.getD, List.getElem?_set_self (by simp; omega)]
    exact h2 i hi
  · rw [List.getD, List.getElem?_set_ne (Ne.symm e)]
    by_cases e2 : k = i
    · subst e2
      rw [List.getElem?_set_self (by omega)]
      exact h2 j hj
    · rw [List.getElem?_set_ne (Ne.symm e2)]
      exact h2 k hk
section
variable {v : Nat → Int32} {a : Nat → List Int32} {w u : Int64}
theorem jm_exchange {q : List Nat} (hq : q.length = 6) {i j : Nat} (hi : i < 6) (hj : j < 6) : jx_W 1 jk_X7_exchange 0 [some (.ref 0), some (.int (nI i)), some (.int (nI j)), none] [] (jM v (jup a 12 (q.map nI)) w u) (jx_is none (jM v (jup a 12 ((nx_ex q i j).map nI)) w u)) := by
  have hl : (q.map nI).length = 6 := by simpa using hq
  refine jx_steps 4 rfl ⟨?_, trivial⟩ ?_
  · show vp_in (nI i) (q.map nI).length
    exact vp_in_nI (by omega) (by omega)
  refine jx_steps 9 rfl ⟨?_, ?_, trivial⟩ ?_
  · show vp_in (nI i) (q.map nI).length
    exact vp_in_nI (by omega) (by omega)
  · show vp_in (nI j) (q.map nI).length
    exact vp_in_nI (by omega) (by omega)
  rw [nI_clamp (by omega), nI_clamp (by omega)]
  refine jx_auto rfl ⟨?_, trivial⟩ ?_
  · show vp_in (nI j) ((q.map nI).set i _).length
    rw [List.length_set]
    exact vp_in_nI (by omega) (by omega)
  rw [nI_clamp (by omega)]
  refine jx_ends rfl trivial rfl ?_
  rw [← nx_map_ex]
  rfl
theorem jm_nextRow {n : Nat} (hn : 1 ≤ n) (hn6 : n ≤ 6) {q : List Nat} (hq : nx_good q) : jx_W 2 jk_X7_nextRow 0 [some (.ref 0), some (.int (nI n)), none, none, none, none] [] (jM v (jup a 12 (q.map nI)) w u) (jx_is (some (.int (if (nx n q).isSome = true then 1 else 0))) (jM v (jup a 12 (((nx n q).getD q).map nI)) w u)) := by
  have hl : (q.map nI).length = 6 := by simpa using hq.1
  have get : ∀ k, k < 6 → (jup a 12 (q.map nI) 12).getD (nI k).toNatClampNeg 0 = nI (q.getD k 0) := by
    intro k hk
    rw [nI_clamp (by omega)]
    exact nx_map_get q k
  have ins : ∀ k, k < 6 → vp_in (nI k) (jup a 12 (q.map nI) 12).length := by
    intro k hk
    show vp_in (nI k) (q.map nI).length
    exact vp_in_nI (by omega) (by omega)
  have b6 : ∀ k, k < 6 → q.getD k 0 < 2 ^ 31 := fun k hk => by have := hq.2 k hk; omega
  -- the last loop
  have rv : ∀ f lo hi (q : List Nat), nx_good q → hi ≤ lo + 2 * f → hi < 6 → lo < 7 → ∀ x1 x2 : Int32, jx_W 2 jk_X7_nextRow 78 [some (.ref 0), some (.int (nI n)), some (.int x1), some (.int x2), some (.int (nI lo)), some (.int (nI hi))] [] (jM v (jup a 12 (q.map nI)) w u) (jx_is (some (.int 1)) (jM v (jup a 12 ((nx_rv f lo hi q).map nI)) w u)) := by
    intro f
    induction f with
    | zero =>
      intro lo hi q hq h1 h2 h3 x1 x2
      refine jx_auto rfl trivial ?_
      refine jx_if rfl (fun _ => ?_) (fun c1 => absurd (nI_le (by omega) (by omega)) c1)
      refine jx_auto rfl trivial ?_
      exact jx_ends rfl ⟨Or.inr rfl, trivial⟩
    | succ f ih =>
      intro lo hi q hq h1 h2 h3 x1 x2
      refine jx_auto rfl trivial ?_
      by_cases hlt : lo < hi
      · refine jx_if rfl (fun c1 => absurd c1 (nI_ge hlt (by omega))) (fun _ => ?_)
        refine jx_auto rfl trivial ?_
        refine jx_callE 1 rfl (by decide) (jm_exchange hq.1 (by omega) (by omega)) ?_
        refine jx_steps 3 rfl trivial ?_
        rw [nI_1, show nI hi + (-1) = nI (hi - 1) from by rw [show hi = hi - 1 + 1 by omega, pk_m1]; rfl]
        rw [nx_rv, if_pos hlt]
        exact ih (lo + 1) (hi - 1) _ (nx_ex_good hq (by omega) (by omega)) (by omega) (by omega) (by omega) x1 x2
      · refine jx_if rfl (fun _ => ?_) (fun c1 => absurd (nI_le (by omega) (by omega)) c1)
        rw [nx_rv, if_neg hlt]
        refine jx_auto rfl trivial ?_
        exact jx_ends rfl ⟨Or.inr rfl, trivial⟩
  -- from the place found
  have second : ∀ k, nx_k q (n - 1) = some k → k + 1 < n → ∀ e, k ≤ e → e + 1 ≤ n → nx_e q k e = nx_e q k (n - 1) → jx_W 2 jk_X7_nextRow 41 [some (.ref 0), some (.int (nI n)), some (.int (nI k)), some (.int (nI e)), none, none] [] (jM v (jup a 12 (q.map nI)) w u) (jx_is (some (.int (if (nx n q).isSome = true then 1 else 0))) (jM v (jup a 12 (((nx n q).getD q).map nI)) w u)) := by
    intro k hk hkn e
    have fin : ∀ e, k ≤ e → e + 1 ≤ n → e = nx_e q k (n - 1) → jx_W 2 jk_X7_nextRow 62 [some (.ref 0), some (.int (nI n)), some (.int (nI k)), some (.int (nI e)), none, none] [] (jM v (jup a 12 (q.map nI)) w u) (jx_is (some (.int (if (nx n q).isSome = true then 1 else 0))) (jM v (jup a 12 (((nx n q).getD q).map nI)) w u)) := by
      intro e h1 h2 h3
      refine jx_auto rfl trivial ?_
      refine jx_callE 1 rfl (by decide) (jm_exchange hq.1 (by omega) (by omega)) ?_
      refine jx_steps 8 rfl trivial ?_
      dsimp only
      rw [nI_1, show nI n - 1 = nI (n - 1) from by rw [show n = n - 1 + 1 by omega, nI_pred]; rfl]
      have z := rv 6 (k + 1) (n - 1) (nx_ex q k e) (nx_ex_good hq (by omega) (by omega)) (by omega) (by omega) (by omega) (nI k) (nI e)
      unfold nx
      rw [hk]
      rw [h3] at z ⊢
      exact z
    induction e with
    | zero =>
      intro h1 h2 h3
      have e0 : k = 0 := by omega
      subst e0
      refine jx_auto rfl ⟨ins 0 (by omega), ins 0 (by omega), trivial⟩ ?_
      refine jx_if rfl (fun _ => ?_) (fun c1 => absurd (Int32.le_refl _) c1)
      exact fin 0 h1 h2 h3
    | succ e ih =>
      intro h1 h2 h3
      refine jx_auto rfl ⟨ins k (by omega), ins (e + 1) (by omega), trivial⟩ ?_
      rw [get k (by omega), get (e + 1) (by omega)]
      by_cases hlt : q.getD (e + 1) 0 < q.getD k 0
      · refine jx_if rfl (fun c1 => absurd c1 (nI_ge hlt (b6 k (by omega)))) (fun _ => ?_)
        have hke : k ≤ e := by
          by_cases z : k = e + 1
          · rw [z] at hlt; omega
          · omega
        refine jx_steps 2 rfl trivial ?_
        rw [pk_m1]
        refine ih hke (by omega) ?_
        rw [← h3, nx_e, if_pos hlt]
      · refine jx_if rfl (fun _ => ?_) (fun c1 => absurd (nI_le (by omega) (b6 _ (by omega))) c1)
        refine fin (e + 1) h1 h2 ?_
        rw [← h3, nx_e, if_neg hlt]
  have first : ∀ j, j + 1 ≤ n → nx_k q j = nx_k q (n - 1) → jx_W 2 jk_X7_nextRow 4 [some (.ref 0), some (.int (nI n)), some (.int (nI j - 1)), none, none, none] [] (jM v (jup a 12 (q.map nI)) w u) (jx_is (some (.int (if (nx n q).isSome = true then 1 else 0))) (jM v (jup a 12 (((nx n q).getD q).map nI)) w u)) := by
    intro j
    induction j with
    | zero =>
      intro h1 h2
      refine jx_auto rfl trivial ?_
      refine jx_if rfl (fun _ => ?_) (fun c1 => absurd (by decide) c1)
      refine jx_auto rfl trivial ?_
      refine jx_if rfl (fun c1 => absurd c1 (by decide)) (fun _ => ?_)
      have e : nx n q = none := by unfold nx; rw [← h2]; rfl
      rw [e]
      refine jx_auto rfl trivial ?_
      exact jx_ends rfl ⟨Or.inl rfl, trivial⟩
    | succ j ih =>
      intro h1 h2
      rw [nI_pred]
      refine jx_auto rfl trivial ?_
      refine jx_if rfl (fun c1 => absurd c1 (nI_pos (by omega))) (fun _ => ?_)
      refine jx_auto rfl ⟨by dsimp only; rw [nI_1]; exact ins (j + 1) (by omega), ins j (by omega), trivial⟩ ?_
      dsimp only
      rw [nI_1, get j (by omega), get (j + 1) (by omega)]
      by_cases hlt : q.getD (j + 1) 0 < q.getD j 0
      · refine jx_if rfl (fun c1 => absurd c1 (nI_ge hlt (b6 j (by omega)))) (fun _ => ?_)
        refine jx_steps 2 rfl trivial ?_
        rw [← Int32.sub_eq_add_neg]
        refine ih (by omega) ?_
        rw [← h2, nx_k, if_pos hlt]
      · refine jx_if rfl (fun _ => ?_) (fun c1 => absurd (nI_le (by omega) (b6 _ (by omega))) c1)
        refine jx_auto rfl trivial ?_
        refine jx_if rfl (fun _ => ?_) (fun c1 => absurd (nI_pos' (by omega)) c1)
        refine jx_steps 4 rfl trivial ?_
        dsimp only
        rw [show nI n - 1 = nI (n - 1) from by rw [show n = n - 1 + 1 by omega, nI_pred]; rfl]
        refine second j ?_ (by omega) (n - 1) (by omega) (by omega) rfl
        rw [← h2, nx_k, if_neg hlt]
  refine jx_steps 4 rfl trivial ?_
  refine jx_at (first (n - 1) (by omega) rfl) rfl ?_
  dsimp only
  rw [show nI n - 2 = nI (n - 1) - 1 from by
    rw [show n = n - 1 + 1 by omega, nI_succ]
    show nI (n - 1) + 1 - 2 = nI (n - 1 + 1 - 1) - 1
    rw [Nat.add_sub_cancel, Int32.sub_eq_add_neg, Int32.sub_eq_add_neg, Int32.add_assoc]
    rfl]
end
