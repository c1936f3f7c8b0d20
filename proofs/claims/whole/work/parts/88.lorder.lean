/-! ORDER and GAME, LaughDrive's side -/
theorem fm_mem0 : ∀ {l : List (Int × List Nat)} {o : fmO} {q : Int × List Nat}, l.foldl fm_step o = some q → o = some q ∨ q ∈ l
  | [], o, q, h => Or.inl h
  | p :: l, o, q, h => by
    rw [List.foldl_cons] at h
    rcases fm_mem0 h with h1 | h1
    · cases o with
      | none => rw [show fm_step none p = some p from rfl] at h1; exact Or.inr (by rw [Option.some.inj h1]; exact List.mem_cons_self)
      | some b =>
        unfold fm_step at h1
        by_cases hlt : b.1 < p.1
        · simp only [hlt, if_true, Option.some.injEq] at h1
          exact Or.inr (by rw [h1]; exact List.mem_cons_self)
        · simp only [hlt, if_false, Option.some.injEq] at h1
          exact Or.inl (by rw [h1])
    · exact Or.inr (List.mem_cons_of_mem _ h1)
theorem nx_ch_mem {n : Nat} : ∀ {L : List (List Nat)}, nx_ch n L = true → ∀ p ∈ L, p.length = n ∧ ∀ k ∈ p, k < n
  | [], _, p, hp => by cases hp
  | q :: L, h, p, hp => by
    obtain ⟨h1, h2, h3, -⟩ := nx_ch_at h
    rcases List.mem_cons.mp hp with e | e
    · rw [e]; exact ⟨h1, h2⟩
    · exact nx_ch_mem h3 p e
theorem pl_best_row {σ : Type} {n : Nat} {g : σ → Nat → Int} {af : σ → Nat → σ} {f : Nat} {d : Nat → Bool} {s : σ} (hch : nx_ch n (pl_seqs n f d) = true) : (pl_best n g af 1 f d s).2.length = n ∧ ∀ k ∈ (pl_best n g af 1 f d s).2, k < n := by
  have hm := pl_max n g af f d s
  rcases fm_mem0 hm with h | h
  · cases h
  · obtain ⟨p, hp, e⟩ := List.mem_map.mp h
    rw [← e]
    exact nx_ch_mem hch p hp
theorem pl_best_nil {σ : Type} {n : Nat} {g : σ → Nat → Int} {af : σ → Nat → σ} {sg : Int} : ∀ {f : Nat} {d : Nat → Bool} {s : σ}, (pl_best n g af sg f d s).2 = [] → (pl_best n g af sg f d s).1 = 0
  | 0, _, _, _ => rfl
  | f + 1, d, s, h => by
    rw [pl_best] at h ⊢
    cases e : pl_upto (fun c => (g s c + sg * (pl_best n g af sg f (pl_add d c) (af s c)).1, c :: (pl_best n g af sg f (pl_add d c) (af s c)).2)) d n with
    | none => rfl
    | some q =>
      obtain ⟨c, -, -, e2⟩ := pl_upto_mem e
      rw [e] at h
      have h2 : q.2 = [] := h
      rw [e2] at h2
      cases h2
theorem pl_best_cons {σ : Type} {n : Nat} {g : σ → Nat → Int} {af : σ → Nat → σ} {sg : Int} {f : Nat} {d : Nat → Bool} {s : σ} {c : Nat} {r : List Nat} (h : (pl_best n g af sg (f + 1) d s).2 = c :: r) : c < n ∧ d c = false ∧ (pl_best n g af sg (f + 1) d s).1 = g s c + sg * (pl_best n g af sg f (pl_add d c) (af s c)).1 ∧ r = (pl_best n g af sg f (pl_add d c) (af s c)).2 := by
  rw [pl_best] at h ⊢
  cases e : pl_upto (fun c => (g s c + sg * (pl_best n g af sg f (pl_add d c) (af s c)).1, c :: (pl_best n g af sg f (pl_add d c) (af s c)).2)) d n with
  | none => rw [e] at h; cases h
  | some q =>
    obtain ⟨c2, h1, h2, e2⟩ := pl_upto_mem e
    rw [e] at h
    have h3 : q.2 = c :: r := h
    rw [e2] at h3
    obtain ⟨rfl, rfl⟩ := List.cons.inj h3
    refine ⟨h1, h2, ?_, rfl⟩
    show q.1 = _
    rw [e2]
def an_order (G : jG) (x k : Int32) : Int32 := if (-1 ≤ x ∧ x ≤ 1) ∧ sp_row k 4 = 1 then (if 0 < glg G then an_row (gcv G) (ob G x) k else -103) else -102
def og2 (G : jG) (x : Int32) : Int × List Nat := pl_best (gcv G) (og G x) (oa G x) (-1) 4 (fun _ => false) (gco G)
def an_gm (Z : Int × List Nat) (k : Int32) : Int32 := if k = 0 then iI (Z.1 + 500) else nI (Z.2.headD 0)
def an_game (G : jG) (x k : Int32) : Int32 := if (-1 ≤ x ∧ x ≤ 1) ∧ (0 ≤ k ∧ k ≤ 1) then (if 0 < glg G then an_gm (og2 G x) k else -103) else -102
theorem ob_row {G : jG} {x : Int32} (h : gcv G ≤ 4) : (ob G x).2.length = gcv G ∧ ∀ k ∈ (ob G x).2, k < gcv G := pl_best_row (nx_ch4 (gcv G) (by omega))
section
variable {v : Nat → Int32} {a : Nat → List Int32} {w : Int64} {G : jG}
theorem jl_findOrder (h : jLG v a G) (h9 : g9 G) (hl17 : (a 17).length = 4) {x : Int32} : jx_W 12 jk_X2_findOrder 0 [some (.ref 5), some (.int x), none, none, none, none, none] [] (jL v a w) (fun r h' => r = none ∧ ∃ l, h' = jL (jup v 22 (iI (ob G x).1)) (jup a 17 l) w ∧ l.length = 4 ∧ ∀ k, k < gcv G → l.getD k 0 = nI ((ob G x).2.getD k 0)) := by
  have ho := h.ok
  obtain ⟨hZ1, hZ2⟩ := ob_row (G := G) (x := x) ho.2.1
  have loop : ∀ k t, t + k = gcv G → ∀ (P : Int32) (co : Nat → Int32) (d : Nat → Bool) (dr : Int32) (acc : Int) (l : List Int32) (z5 z6 : Option Value), jpk P co (glg G) → jms dr d → l.length = 4 → (∀ k, k < t → l.getD k 0 = nI ((ob G x).2.getD k 0)) → acc + (pl_best (gcv G) (og G x) (oa G x) 1 (4 - t) d co).1 = (ob G x).1 → (ob G x).2.drop t = (pl_best (gcv G) (og G x) (oa G x) 1 (4 - t) d co).2 → jx_W 12 jk_X2_findOrder 18 [some (.ref 5), some (.int x), some (.int P), some (.int dr), some (.int (nI t)), z5, z6] [] (jL (jup v 22 (iI acc)) (jup a 17 l) w) (fun r h' => r = none ∧ ∃ l, h' = jL (jup v 22 (iI (ob G x).1)) (jup a 17 l) w ∧ l.length = 4 ∧ ∀ k, k < gcv G → l.getD k 0 = nI ((ob G x).2.getD k 0)) := by
    intro k
    induction k with
    | zero =>
      intro t ht P co d dr acc l z5 z6 hP hd hl hk hacc hrow
      have e : t = gcv G := by omega
      refine jx_auto rfl trivial ?_
      refine jx_if rfl (fun _ => ?_) (fun c1 => absurd (jc_end h.coverts (by omega) (by omega)) c1)
      refine jx_done rfl trivial ⟨rfl, l, ?_, hl, fun k hk2 => hk k (by omega)⟩
      rw [pl_best_nil (by rw [← hrow, e, ← hZ1, List.drop_length]), Int.add_zero] at hacc
      rw [hacc]
    | succ k ih =>
      intro t ht P co d dr acc l z5 z6 hP hd hl hk hacc hrow
      have htl : t < gcv G := by omega
      obtain ⟨f, hf⟩ : ∃ f, 4 - t = f + 1 := ⟨4 - t - 1, by omega⟩
      have hf2 : 4 - (t + 1) = f := by omega
      have hget : (ob G x).2[t]? = some ((ob G x).2.getD t 0) := by
        rw [List.getD, List.getElem?_eq_getElem (by omega)]
        rfl
      have hdrop : (ob G x).2.drop t = (ob G x).2.getD t 0 :: (ob G x).2.drop (t + 1) := by
        have e1 := List.drop_eq_getElem_cons (l := (ob G x).2) (i := t) (by omega)
        rw [e1]
        congr 1
        rw [List.getD, List.getElem?_eq_getElem (by omega)]
        rfl
      rw [hf] at hrow hacc
      have hcons := hrow.symm.trans hdrop
      obtain ⟨hc1, hc2, hc3, hc4⟩ := pl_best_cons hcons
      generalize hcc : (ob G x).2.getD t 0 = c at hcons hc1 hc2 hc3 hc4
      have hG1 : jLG (jup v 22 (iI acc)) a G := h
      refine jx_auto rfl trivial ?_
      refine jx_if rfl (fun c1 => absurd c1 (jc_on h.coverts (by omega) (by omega))) (fun _ => ?_)
      refine jx_auto rfl trivial ?_
      refine jx_call 11 rfl (by decide) (jx_deep (d := 6 + (f + 1)) (by omega) (jx_at (jl_worth hG1 h9 (sg := 1) (Or.inl rfl) (f + 1) t (by omega) P co d dr l hP hd hl))) (fun r h' hq => ?_)
      obtain ⟨l2, rfl, rfl, hl2, hk2, hfirst⟩ := hq
      have hl2t : l2.getD t 0 = nI c := hfirst c _ hcons
      refine jx_auto rfl trivial ?_
      refine jx_callE 1 rfl (by decide) (jr_at (q := 25) (l := l2) (by omega) rfl rfl) ?_
      rw [jp_at_in (by omega) (by omega), hl2t]
      have hG2 : jLG (jup v 22 (iI acc)) (jup a 17 l2) G := h
      refine jx_auto rfl trivial ?_
      refine jx_call 5 rfl (by decide) (jl_placesAfter hG2 hP hc1) (fun r h' hq => ?_)
      obtain ⟨P', rfl, rfl, hP'⟩ := hq
      have hP' : jpk P' (oa G x co c) (glg G) := hP'
      refine jx_auto rfl trivial ?_
      refine jx_callE 3 rfl (by decide) (jl_sportOf hG2 hP hP') ?_
      rw [show sp_sum (sp_hadB G co (oa G x co c)) (glg G) = iI (og G x co c) from (sp_sport ⟨ho.1, ho.2.1, ho.2.2.1, ho.2.2.2⟩ hc1).trans og_i]
      refine jx_steps 12 rfl trivial ?_
      rw [nI_1]
      refine jx_at (ih (t + 1) (by omega) P' (oa G x co c) (pl_add d c) _ (acc + og G x co c) l2 (some (.int (nI c))) (some (.int P')) hP' (jms_add hd (show c < 6 by omega)) hl2 (fun k hk3 => ?_) ?_ ?_) rfl rfl rfl ?_
      · by_cases e : k = t
        · subst e; rw [hl2t, hcc]
        · rw [hk2 k (by omega), hk k (by omega)]
      · rw [hf2]
        rw [hc3, Int.one_mul] at hacc
        omega
      · rw [hf2]; exact hc4
      · rw [← iI_add]
        rfl
  refine jx_steps 11 rfl trivial ?_
  exact jx_at (loop (gcv G) 0 (by omega) (v 11) (gco G) (fun _ => false) 0 0 (a 17) none none h.places jms_0 hl17 (fun k hk => absurd hk (Nat.not_lt_zero k)) (Int.zero_add _) rfl)
theorem jl_findGame (h : jLG v a G) (h9 : g9 G) (hl17 : (a 17).length = 4) {x : Int32} : jx_W 12 jk_X2_findGame 0 [some (.ref 5), some (.int x)] [] (jL v a w) (fun r h' => r = none ∧ ∃ l y, h' = jL (jup (jup v 23 (iI (og2 G x).1)) 24 y) (jup a 17 l) w ∧ l.length = 4 ∧ ∀ c rest, (og2 G x).2 = c :: rest → y = nI c) := by
  refine jx_auto rfl trivial ?_
  refine jx_call 11 rfl (by decide) (jx_deep (d := 6 + 4) (by omega) (jx_at (jl_worth h h9 (sg := -1) (Or.inr rfl) 4 0 (by omega) (v 11) (gco G) (fun _ => false) 0 (a 17) h.places jms_0 hl17) rfl rfl rfl rfl)) (fun r h' hq => ?_)
  obtain ⟨l2, rfl, rfl, hl2, -, hfirst⟩ := hq
  refine jx_auto rfl trivial ?_
  refine jx_callE 1 rfl (by decide) (jr_at (q := 25) (l := l2) (by omega) rfl rfl) ?_
  refine jx_auto rfl trivial ?_
  refine jx_done rfl trivial ⟨rfl, l2, _, rfl, hl2, fun c rest e => ?_⟩
  have z : jp_at l2 (nI 0) = l2.getD 0 0 := jp_at_in (by omega) (by omega)
  exact z.trans (hfirst c rest e)
end
