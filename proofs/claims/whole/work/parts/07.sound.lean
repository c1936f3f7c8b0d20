/-! THE SMALL MACHINE IS THE MACHINE: a run of it is a walk in the kit's judgement W -/
def jx_xv (ad : Nat → Nat) (v : Value) : Value := match v with
  | .ref i => .ref (ad i)
  | w => w
def jx_xe (cI cB : ClassId) (ad : Nat → Nat) (c : jx_E) : va_E := match c with
  | .inl (t, l) => .inl (bif Nat.beq t 0 then cI else cB, l.length, .inl (fun j => l.getD j 0))
  | .inr (ci, fs) => .inr (ci, fs.map (jx_xv ad))
def jx_xw (cI cB : ClassId) (ad : Nat → Nat) (h : jx_H) : va_W := h.mapIdx (fun i c => (ad i, jx_xe cI cB ad c))
abbrev jx_ty (cI cB : ClassId) : List (ClassId × FieldType) := [(cI, .int), (cB, .byte)]
theorem jx_get_eq {α : Type} : ∀ (l : List α) (k : Nat), jx_get l k = l[k]?
  | [], _ => rfl
  | _ :: _, 0 => rfl
  | _ :: r, n + 1 => by rw [jx_get, jx_get_eq r n, List.getElem?_cons_succ]
theorem jx_xw_get {cI cB : ClassId} {ad : Nat → Nat} {h : jx_H} {i : Nat} {c : jx_E} (hg : jx_get h i = some c) : (jx_xw cI cB ad h)[i]? = some (ad i, jx_xe cI cB ad c) := by
  rw [jx_get_eq] at hg
  rw [jx_xw, List.getElem?_mapIdx, hg]; rfl
theorem jx_xw_set {cI cB : ClassId} {ad : Nat → Nat} {h : jx_H} {i : Nat} {c : jx_E} : (jx_xw cI cB ad h).set i (ad i, jx_xe cI cB ad c) = jx_xw cI cB ad (h.set i c) := by
  apply List.ext_getElem?
  intro j
  rw [jx_xw, jx_xw, List.getElem?_mapIdx, List.getElem?_set, List.getElem?_set, List.getElem?_mapIdx, List.length_mapIdx]
  by_cases hij : i = j
  · subst hij
    by_cases hl : i < h.length
    · simp [hl]
    · simp [hl]
  · simp [hij]
theorem jx_xw_D {cI cB : ClassId} {ad : Nat → Nat} {A : Nat → Prop} {N : Nat} {h : jx_H} (hN : h.length = N) (hinj : ∀ i j, i < N → j < N → ad i = ad j → i = j) (hA : ∀ i, i < N → A (ad i)) : va_D A (jx_xw cI cB ad h) := by
  have key : ∀ (k : Nat) (q : Nat × va_E), (jx_xw cI cB ad h)[k]? = some q → k < N ∧ q.1 = ad k := by
    intro k q hk
    rw [jx_xw, List.getElem?_mapIdx] at hk
    cases hc : h[k]? with
    | none => rw [hc] at hk; cases hk
    | some c =>
      rw [hc] at hk
      cases hk
      exact ⟨by rw [← hN]; exact (List.getElem?_eq_some_iff.mp hc).1, rfl⟩
  refine ⟨fun i j p q hi hj e => ?_, fun k q hk => ?_⟩
  · obtain ⟨l1, e1⟩ := key i p hi
    obtain ⟨l2, e2⟩ := key j q hj
    exact hinj i j l1 l2 (by rw [← e1, ← e2, e])
  · obtain ⟨l1, e1⟩ := key k q hk
    rw [e1]; exact hA k l1
theorem jx_cat1_1 {v : Value} (h : jx_cat1 v = true) : v.category = 1 := by cases v <;> first | rfl | cases h
theorem jx_cat_x (ad : Nat → Nat) (v : Value) : (jx_xv ad v).category = v.category := by cases v <;> rfl
theorem jx_cats_x (ad : Nat → Nat) : ∀ st : List Value, ((st.map (jx_xv ad)).map fun v => v.category).sum = jx_cats st
  | [] => rfl
  | v :: r => by simp only [List.map_cons, List.sum_cons, jx_cats, jx_cat_x, jx_cats_x ad r]
/-- the locals, by their places -/
def jx_rel (ad : Nat → Nat) (nL : Nat) (ls : jx_L) (la : Array Slot) : Prop := ls.length = nL ∧ ∃ lv, lv_has la nL lv ∧ ∀ (i : Nat) (v : Value), jx_get ls i = some (some v) → (i, jx_xv ad v) ∈ lv
theorem jx_rel_at {ad : Nat → Nat} {nL : Nat} {ls : jx_L} {la : Array Slot} (h : jx_rel ad nL ls la) {i : Nat} {v : Value} (hi : jx_get ls i = some (some v)) : la[i]? = some (.val (jx_xv ad v)) := by
  obtain ⟨-, lv, h1, h2⟩ := h
  exact h1.2.2 (i, jx_xv ad v) (h2 i v hi)
theorem jx_get_lt {α : Type} {l : List α} {k : Nat} {a : α} (h : jx_get l k = some a) : k < l.length := by
  rw [jx_get_eq] at h
  exact (List.getElem?_eq_some_iff.mp h).1
/-- what a store leaves -/
theorem jx_set1_spec {β : Type} {v : Value} : ∀ {ls : jx_L} {i : Nat} {k : jx_L → Option β} {x : β}, jx_set1 v ls i k = some x → ∃ l, k l = some x ∧ l.length = ls.length ∧ i < ls.length ∧ ∀ (j : Nat) (w : Value), jx_get l j = some (some w) → (j = i ∧ w = v) ∨ (j ≠ i ∧ jx_get ls j = some (some w) ∧ ¬ (j + 1 = i ∧ jx_long (some w) = true))
  | [], i, k, x, h => by simp [jx_set1] at h
  | p :: r, 0, k, x, h => by
    refine ⟨some v :: r, h, rfl, by simp, fun j w hj => ?_⟩
    cases j with
    | zero => exact Or.inl ⟨rfl, (Option.some.inj (Option.some.inj hj)).symm⟩
    | succ j => exact Or.inr ⟨by omega, hj, by omega⟩
  | [p], 1, k, x, h => by simp [jx_set1] at h
  | p :: a :: r, 1, k, x, h => by
    rw [jx_set1] at h
    cases hp : jx_long p with
    | true =>
      rw [hp] at h
      refine ⟨none :: some v :: r, h, rfl, by simp, fun j w hj => ?_⟩
      match j, hj with
      | 0, hj => cases hj
      | 1, hj => exact Or.inl ⟨rfl, (Option.some.inj (Option.some.inj hj)).symm⟩
      | j + 2, hj => exact Or.inr ⟨by omega, hj, by omega⟩
    | false =>
      rw [hp] at h
      refine ⟨p :: some v :: r, h, rfl, by simp, fun j w hj => ?_⟩
      match j, hj with
      | 0, hj =>
        refine Or.inr ⟨by omega, hj, fun z => ?_⟩
        have e : p = some w := Option.some.inj hj
        rw [← e, hp] at z
        cases z.2
      | 1, hj => exact Or.inl ⟨rfl, (Option.some.inj (Option.some.inj hj)).symm⟩
      | j + 2, hj => exact Or.inr ⟨by omega, hj, by omega⟩
  | p :: r, n + 2, k, x, h => by
    have h' : jx_set1 v r (n + 1) (fun z => k (p :: z)) = some x := by
      cases r <;> exact h
    obtain ⟨l, h1, h2, h3, h4⟩ := jx_set1_spec h'
    refine ⟨p :: l, h1, by simp [h2], Nat.succ_lt_succ h3, fun j w hj => ?_⟩
    cases j with
    | zero => exact Or.inr ⟨by omega, hj, by omega⟩
    | succ j =>
      rcases h4 j w hj with ⟨e1, e2⟩ | ⟨e1, e2, e3⟩
      · exact Or.inl ⟨by omega, e2⟩
      · exact Or.inr ⟨by omega, e2, fun z => e3 ⟨by omega, z.2⟩⟩
theorem jx_set2_spec {β : Type} {v : Value} : ∀ {ls : jx_L} {i : Nat} {k : jx_L → Option β} {x : β}, jx_set2 v ls i k = some x → ∃ l, k l = some x ∧ l.length = ls.length ∧ i + 1 < ls.length ∧ ∀ (j : Nat) (w : Value), jx_get l j = some (some w) → (j = i ∧ w = v) ∨ (j ≠ i ∧ j ≠ i + 1 ∧ jx_get ls j = some (some w) ∧ ¬ (j + 1 = i ∧ jx_long (some w) = true))
  | [], i, k, x, h => by simp [jx_set2] at h
  | [p], 0, k, x, h => by simp [jx_set2] at h
  | p :: a :: r, 0, k, x, h => by
    refine ⟨some v :: none :: r, h, rfl, by simp, fun j w hj => ?_⟩
    match j, hj with
    | 0, hj => exact Or.inl ⟨rfl, (Option.some.inj (Option.some.inj hj)).symm⟩
    | 1, hj => cases hj
    | j + 2, hj => exact Or.inr ⟨by omega, by omega, hj, by omega⟩
  | [p], 1, k, x, h => by simp [jx_set2] at h
  | [p, a], 1, k, x, h => by simp [jx_set2] at h
  | p :: a :: b :: r, 1, k, x, h => by
    rw [jx_set2] at h
    cases hp : jx_long p with
    | true =>
      rw [hp] at h
      refine ⟨none :: some v :: none :: r, h, rfl, by simp, fun j w hj => ?_⟩
      match j, hj with
      | 0, hj => cases hj
      | 1, hj => exact Or.inl ⟨rfl, (Option.some.inj (Option.some.inj hj)).symm⟩
      | 2, hj => cases hj
      | j + 3, hj => exact Or.inr ⟨by omega, by omega, hj, by omega⟩
    | false =>
      rw [hp] at h
      refine ⟨p :: some v :: none :: r, h, rfl, by simp, fun j w hj => ?_⟩
      match j, hj with
      | 0, hj =>
        refine Or.inr ⟨by omega, by omega, hj, fun z => ?_⟩
        have e : p = some w := Option.some.inj hj
        rw [← e, hp] at z
        cases z.2
      | 1, hj => exact Or.inl ⟨rfl, (Option.some.inj (Option.some.inj hj)).symm⟩
      | 2, hj => cases hj
      | j + 3, hj => exact Or.inr ⟨by omega, by omega, hj, by omega⟩
  | p :: r, n + 2, k, x, h => by
    have h' : jx_set2 v r (n + 1) (fun z => k (p :: z)) = some x := by
      match r, h with
      | [], h => exact h
      | [a], h => exact h
      | a :: b :: r, h => exact h
    obtain ⟨l, h1, h2, h3, h4⟩ := jx_set2_spec h'
    refine ⟨p :: l, h1, by simp [h2], Nat.succ_lt_succ h3, fun j w hj => ?_⟩
    cases j with
    | zero => exact Or.inr ⟨by omega, by omega, hj, by omega⟩
    | succ j =>
      rcases h4 j w hj with ⟨e1, e2⟩ | ⟨e1, e2, e3, e4⟩
      · exact Or.inl ⟨by omega, e2⟩
      · exact Or.inr ⟨by omega, by omega, e3, fun z => e4 ⟨by omega, z.2⟩⟩
theorem jx_long_cat {ad : Nat → Nat} {w : Value} (h : (jx_xv ad w).category = 2) : jx_long (some w) = true := by cases w <;> first | rfl | cases h
theorem jx_rel_1 {ad : Nat → Nat} {nL i : Nat} {ls l : jx_L} {lv : List (Nat × Value)} {la' : Array Slot} {v : Value} (hn : ls.length = nL) (hlv : ∀ (i : Nat) (v : Value), jx_get ls i = some (some v) → (i, jx_xv ad v) ∈ lv) (hl : l.length = ls.length) (hs : ∀ (j : Nat) (w : Value), jx_get l j = some (some w) → (j = i ∧ w = v) ∨ (j ≠ i ∧ jx_get ls j = some (some w) ∧ ¬ (j + 1 = i ∧ jx_long (some w) = true))) (h : lv_has la' nL ((i, jx_xv ad v) :: lv.filter (fun q => !(q.1 == i) && !(q.1 + 1 == i && q.2.category == 2)))) : jx_rel ad nL l la' := by
  refine ⟨hl.trans hn, _, h, fun j w hj => ?_⟩
  rcases hs j w hj with ⟨rfl, rfl⟩ | ⟨h1, h2, h3⟩
  · exact List.mem_cons_self
  · refine List.mem_cons_of_mem _ (List.mem_filter.mpr ⟨hlv j w h2, ?_⟩)
    simp only [Bool.and_eq_true, Bool.not_eq_true', beq_eq_false_iff_ne, ne_eq, Bool.and_eq_false_iff]
    refine ⟨h1, ?_⟩
    by_cases hc : (jx_xv ad w).category = 2
    · exact Or.inl (fun z => h3 ⟨z, jx_long_cat hc⟩)
    · exact Or.inr hc
theorem jx_rel_2 {ad : Nat → Nat} {nL i : Nat} {ls l : jx_L} {lv : List (Nat × Value)} {la' : Array Slot} {v : Value} (hn : ls.length = nL) (hlv : ∀ (i : Nat) (v : Value), jx_get ls i = some (some v) → (i, jx_xv ad v) ∈ lv) (hl : l.length = ls.length) (hs : ∀ (j : Nat) (w : Value), jx_get l j = some (some w) → (j = i ∧ w = v) ∨ (j ≠ i ∧ j ≠ i + 1 ∧ jx_get ls j = some (some w) ∧ ¬ (j + 1 = i ∧ jx_long (some w) = true))) (h : lv_has la' nL ((i, jx_xv ad v) :: lv.filter (fun q => !(q.1 == i) && (!(q.1 == i + 1) && !(q.1 + 1 == i && q.2.category == 2))))) : jx_rel ad nL l la' := by
  refine ⟨hl.trans hn, _, h, fun j w hj => ?_⟩
  rcases hs j w hj with ⟨rfl, rfl⟩ | ⟨h1, h2, h3, h4⟩
  · exact List.mem_cons_self
  · refine List.mem_cons_of_mem _ (List.mem_filter.mpr ⟨hlv j w h3, ?_⟩)
    simp only [Bool.and_eq_true, Bool.not_eq_true', beq_eq_false_iff_ne, ne_eq, Bool.and_eq_false_iff]
    refine ⟨h1, h2, ?_⟩
    by_cases hc : (jx_xv ad w).category = 2
    · exact Or.inl (fun z => h4 ⟨z, jx_long_cat hc⟩)
    · exact Or.inr hc
theorem jx_argsN_spec {β : Type} : ∀ {n : Nat} {k : jx_L → Option β} {x : β}, jx_args n [] k = some x → ∃ l, k l = some x ∧ l.length = n ∧ ∀ (i : Nat) (w : Value), ¬ jx_get l i = some (some w)
  | 0, k, x, h => ⟨[], h, rfl, fun i w hj => by cases hj⟩
  | n + 1, k, x, h => by
    obtain ⟨l, h1, h2, h3⟩ := jx_argsN_spec (n := n) (k := fun z => k (none :: z)) h
    refine ⟨none :: l, h1, by simp [h2], fun i w hj => ?_⟩
    cases i with
    | zero => cases hj
    | succ i => exact h3 i w hj
theorem jx_slc (v : Value) (r : List Value) : (lg_sl (v :: r)).length = (if v.category = 2 then 2 else 1) + (lg_sl r).length := by
  unfold lg_sl
  rw [List.flatMap_cons, List.length_append]
  split <;> rfl
theorem jx_args_spec {β : Type} : ∀ {n : Nat} {vs : List Value} {k : jx_L → Option β} {x : β}, jx_args n vs k = some x → ∃ l, k l = some x ∧ l.length = n ∧ (lg_sl vs).length ≤ n ∧ ∀ (b i : Nat) (w : Value), jx_get l i = some (some w) → (b + i, w) ∈ lv_args b vs := by
  intro n
  induction n using Nat.strongRecOn with
  | _ n ih =>
    intro vs k x h
    cases vs with
    | nil =>
      obtain ⟨l, h1, h2, h3⟩ := jx_argsN_spec h
      exact ⟨l, h1, h2, Nat.zero_le _, fun b i w hj => absurd hj (h3 i w)⟩
    | cons v r =>
      cases n with
      | zero => simp [jx_args] at h
      | succ n =>
        have h : (bif jx_cat1 v then jx_args n r (fun z => k (some v :: z)) else (match n with
            | 0 => none
            | j + 1 => jx_args j r (fun z => k (some v :: none :: z)))) = some x := by
          cases n <;> exact h
        cases hc : jx_cat1 v with
        | true =>
          rw [hc] at h
          obtain ⟨l, h1, h2, h3, h4⟩ := ih n (by omega) (k := fun z => k (some v :: z)) h
          have hv := jx_cat1_1 hc
          refine ⟨some v :: l, h1, by simp [h2], ?_, fun b i w hj => ?_⟩
          · rw [jx_slc, if_neg (by rw [hv]; decide)]; omega
          · rw [lv_args, if_neg (by rw [hv]; decide)]
            cases i with
            | zero => cases hj; exact List.mem_cons_self
            | succ i =>
              have := h4 (b + 1) i w hj
              rw [show b + (i + 1) = b + 1 + i by omega]
              exact List.mem_cons_of_mem _ this
        | false =>
          rw [hc] at h
          have hv : v.category = 2 := by cases v <;> first | rfl | cases hc
          cases n with
          | zero => cases h
          | succ n =>
            obtain ⟨l, h1, h2, h3, h4⟩ := ih n (by omega) (k := fun z => k (some v :: none :: z)) h
            refine ⟨some v :: none :: l, h1, by simp [h2], ?_, fun b i w hj => ?_⟩
            · rw [jx_slc, if_pos hv]; omega
            · rw [lv_args, if_pos hv]
              match i, hj with
              | 0, hj => cases hj; exact List.mem_cons_self
              | 1, hj => cases hj
              | i + 2, hj =>
                have := h4 (b + 2) i w hj
                rw [show b + (i + 2) = b + 2 + i by omega]
                exact List.mem_cons_of_mem _ this
theorem lg_sl_map (ad : Nat → Nat) : ∀ vs : List Value, (lg_sl (vs.map (jx_xv ad))).length = (lg_sl vs).length
  | [] => rfl
  | v :: r => by
    have := lg_sl_map ad r
    simp only [lg_sl, List.map_cons, List.flatMap_cons, List.length_append, jx_cat_x] at this ⊢
    rw [this]
    cases v <;> rfl
theorem lv_args_map (ad : Nat → Nat) : ∀ (vs : List Value) (b : Nat) (i : Nat) (w : Value), (i, w) ∈ lv_args b vs → (i, jx_xv ad w) ∈ lv_args b (vs.map (jx_xv ad))
  | [], _, _, _, h => by cases h
  | v :: r, b, i, w, h => by
    rw [List.map_cons, lv_args, jx_cat_x]
    rw [lv_args] at h
    rcases List.mem_cons.mp h with h | h
    · cases h; exact List.mem_cons_self
    · exact List.mem_cons_of_mem _ (lv_args_map ad r _ i w h)
theorem jx_pop_spec : ∀ {n : Nat} {acc st as r : List Value}, jx_pop n acc st = some (as, r) → ∃ xs, st = xs ++ r ∧ xs.length = n ∧ as = xs.reverse ++ acc
  | 0, acc, st, as, r, h => by cases h; exact ⟨[], rfl, rfl, rfl⟩
  | n + 1, acc, [], as, r, h => by simp [jx_pop] at h
  | n + 1, acc, v :: st, as, r, h => by
    obtain ⟨xs, h1, h2, h3⟩ := jx_pop_spec (n := n) (acc := v :: acc) h
    exact ⟨v :: xs, by rw [h1]; rfl, by simp [h2], by rw [h3]; simp⟩
theorem jx_bin_spec {f : Int32 → Int32 → Int32} {st st' : List Value} {o : List Prop} (h : jx_bin f st = some (o, st')) : ∃ x y r, st = .int y :: .int x :: r ∧ st' = .int (f x y) :: r := by
  unfold jx_bin at h
  split at h
  · cases h; exact ⟨_, _, _, rfl, rfl⟩
  · cases h
theorem jx_binL_spec {f : Int64 → Int64 → Int64} {st st' : List Value} {o : List Prop} (h : jx_binL f st = some (o, st')) : ∃ x y r, st = .long y :: .long x :: r ∧ st' = .long (f x y) :: r := by
  unfold jx_binL at h
  split at h
  · cases h; exact ⟨_, _, _, rfl, rfl⟩
  · cases h
theorem jx_div_spec {f : Int32 → Int32 → Int32} {st st' : List Value} {o : List Prop} (h : jx_div f st = some (o, st')) (ho : jx_all o) : ∃ x y r, st = .int y :: .int x :: r ∧ st' = .int (f x y) :: r ∧ ¬ y = 0 := by
  unfold jx_div at h
  split at h
  · cases h; exact ⟨_, _, _, rfl, rfl, ho.1⟩
  · cases h
theorem jx_divL_spec {f : Int64 → Int64 → Int64} {st st' : List Value} {o : List Prop} (h : jx_divL f st = some (o, st')) (ho : jx_all o) : ∃ x y r, st = .long y :: .long x :: r ∧ st' = .long (f x y) :: r ∧ ¬ y = 0 := by
  unfold jx_divL at h
  split at h
  · cases h; exact ⟨_, _, _, rfl, rfl, ho.1⟩
  · cases h
theorem jx_un_spec {f : Int32 → Value} {st st' : List Value} {o : List Prop} (h : jx_un f st = some (o, st')) : ∃ x r, st = .int x :: r ∧ st' = f x :: r := by
  unfold jx_un at h
  split at h
  · cases h; exact ⟨_, _, rfl, rfl⟩
  · cases h
theorem jx_unL_spec {f : Int64 → Value} {st st' : List Value} {o : List Prop} (h : jx_unL f st = some (o, st')) : ∃ x r, st = .long x :: r ∧ st' = f x :: r := by
  unfold jx_unL at h
  split at h
  · cases h; exact ⟨_, _, rfl, rfl⟩
  · cases h
theorem jx_hd_spec {sw : List (Int32 × Nat)} {v : Int32} {st st' : List Value} {o : List Prop} (h : jx_hd sw v = true) (hc : jx_cst sw st = some (o, st')) : st' = .int v :: st := by
  cases sw with
  | nil => cases h
  | cons q r =>
    obtain ⟨w, t⟩ := q
    have e : w = v := by simpa [jx_hd] using h
    subst e
    cases hc; rfl
theorem jx_cst_spec {sw : List (Int32 × Nat)} {st st' : List Value} {o : List Prop} (hc : jx_cst sw st = some (o, st')) : ∃ v t r, sw = (v, t) :: r ∧ st' = .int v :: st := by
  cases sw with
  | nil => cases hc
  | cons q r => obtain ⟨w, t⟩ := q; cases hc; exact ⟨_, _, _, rfl, rfl⟩
/-- the words that every contract here stands on: those of the tables that move with a call -/
def jx_good : List Cond := lw_tbl.filter goodWord
def jx_T (y : MethodName) (b : ByteArray) (ml : Nat) (ret : Option FieldType) : List Cond := Cond.code y b ml ret :: jx_good
theorem jx_in {y : MethodName} {b : ByteArray} {ml : Nat} {ret : Option FieldType} {w : Cond} (h : w ∈ lw_tbl) (hg : goodWord w = true) : w ∈ jx_T y b ml ret := List.mem_cons_of_mem _ (List.mem_filter.mpr ⟨h, hg⟩)
theorem jx_goodIn {y y2 : MethodName} {b b2 : ByteArray} {ml ml2 : Nat} {ret ret2 : Option FieldType} (h : Cond.code y2 b2 ml2 ret2 ∈ lw_tbl) : GoodIn (jx_T y b ml ret) (jx_T y2 b2 ml2 ret2) := by
  intro w hw
  rcases List.mem_cons.mp hw with rfl | hw
  · exact ⟨jx_in h rfl, Or.inl rfl⟩
  · exact ⟨List.mem_cons_of_mem _ hw, good_of_word (List.mem_filter.mp hw).2⟩
theorem jx_lay_good {C : String} {T : u_T} {N : Nat} : ∀ w ∈ u_ws C T N, goodWord w = true := by
  intro w hw
  obtain ⟨k, -, rfl⟩ := List.mem_map.mp hw
  unfold u_lay
  split <;> rfl
section SND
variable {p : Program} {l : Launch} {e : Env} {R : Room} {s : State} {m : MethodId} {args : Array Value} {below : List Frame} {meth : Method} {c : Code} {H : Heap} {locs : List Loc} {cells slots : Nat} {Q : State → Prop}
variable {cc : ByteArray} {pc : Nat} {la : Array Slot} {ad : Nat → Nat}
theorem jx_s_pure (hx : p.tables.exec = Jvm.exec) (hb : c.code = cc) {own : String} (hown : s.vm.findClass own = some m.cls) (hts : ∀ w ∈ lw_tbl, goodWord w = true → w.before args s = true) {i : Instr} {ret : Option FieldType} {a b : Nat} {sw : List (Int32 × Nat)} (hd : decode cc pc = .ok (i, jx_len i)) (hO : jx_chkO i ret pc a b sw = true) (hW : ∀ w ∈ jx_need own i a b sw, w ∈ lw_tbl) {st st' : List Value} {o : List Prop} (h : jx_pure i a sw st = some (o, st')) (ho : jx_all o) (kk : W p l e R s m args below meth c H locs cells slots Q (F0 m (pc + jx_len i) la (st'.map (jx_xv ad)))) : W p l e R s m args below meth c H locs cells slots Q (F0 m pc la (st.map (jx_xv ad))) := by
  cases i with
  | iconst n => rw [jx_hd_spec hO h] at kk; exact lv_iconst hx hb hd rfl kk
  | bipush n => rw [jx_hd_spec hO h] at kk; exact lv_bipush hx hb hd rfl kk
  | sipush n => rw [jx_hd_spec hO h] at kk; exact lv_sipush hx hb hd rfl kk
  | ldc ix =>
    obtain ⟨v, t, r, rfl, rfl⟩ := jx_cst_spec h
    exact lv_ldc hx hb hown (hts _ (hW _ List.mem_cons_self) rfl) hd kk
  | ldc_w ix =>
    obtain ⟨v, t, r, rfl, rfl⟩ := jx_cst_spec h
    exact lv_ldcw hx hb hown (hts _ (hW _ List.mem_cons_self) rfl) hd kk
  | ldc2_w ix =>
    cases h
    exact lv_ldc2 hx hb hown (hts _ (hW _ List.mem_cons_self) rfl) hd kk
  | iadd => obtain ⟨x, y, r, rfl, rfl⟩ := jx_bin_spec h; exact lv_iadd hx hb hd kk
  | isub => obtain ⟨x, y, r, rfl, rfl⟩ := jx_bin_spec h; exact lv_isub hx hb hd kk
  | imul => obtain ⟨x, y, r, rfl, rfl⟩ := jx_bin_spec h; exact lv_imul hx hb hd kk
  | iand => obtain ⟨x, y, r, rfl, rfl⟩ := jx_bin_spec h; exact lv_iand hx hb hd kk
  | ior => obtain ⟨x, y, r, rfl, rfl⟩ := jx_bin_spec h; exact lv_ior hx hb hd kk
  | ixor => obtain ⟨x, y, r, rfl, rfl⟩ := jx_bin_spec h; exact lv_ixor hx hb hd kk
  | ishl => obtain ⟨x, y, r, rfl, rfl⟩ := jx_bin_spec h; exact lv_ishl hx hb hd kk
  | ishr => obtain ⟨x, y, r, rfl, rfl⟩ := jx_bin_spec h; exact lv_ishr hx hb hd kk
  | iushr => obtain ⟨x, y, r, rfl, rfl⟩ := jx_bin_spec h; exact lv_iushr hx hb hd rfl kk
  | idiv => obtain ⟨x, y, r, rfl, rfl, hne⟩ := jx_div_spec h ho; exact lv_idiv hx hb hd hne kk
  | irem => obtain ⟨x, y, r, rfl, rfl, hne⟩ := jx_div_spec h ho; exact lv_irem hx hb hd hne kk
  | ineg => obtain ⟨x, r, rfl, rfl⟩ := jx_un_spec h; exact lv_ineg hx hb hd kk
  | i2l => obtain ⟨x, r, rfl, rfl⟩ := jx_un_spec h; exact lv_i2l hx hb hd rfl kk
  | i2b => obtain ⟨x, r, rfl, rfl⟩ := jx_un_spec h; exact lv_i2b hx hb hd rfl kk
  | l2i => obtain ⟨x, r, rfl, rfl⟩ := jx_unL_spec h; exact lv_l2i hx hb hd rfl kk
  | ladd => obtain ⟨x, y, r, rfl, rfl⟩ := jx_binL_spec h; exact lv_ladd hx hb hd kk
  | lmul => obtain ⟨x, y, r, rfl, rfl⟩ := jx_binL_spec h; exact lv_lmul hx hb hd kk
  | land => obtain ⟨x, y, r, rfl, rfl⟩ := jx_binL_spec h; exact lv_land hx hb hd kk
  | ldiv => obtain ⟨x, y, r, rfl, rfl, hne⟩ := jx_divL_spec h ho; exact lv_ldiv hx hb hd hne kk
  | lrem => obtain ⟨x, y, r, rfl, rfl, hne⟩ := jx_divL_spec h ho; exact lv_lrem hx hb hd hne kk
  | dup =>
    cases st with
    | nil => cases h
    | cons v r =>
      simp only [jx_pure] at h
      cases hc : jx_cat1 v with
      | false => rw [hc] at h; cases h
      | true =>
        rw [hc] at h; cases h
        exact lv_dup hx hb hd (by rw [jx_cat_x]; exact jx_cat1_1 hc) kk
  | pop =>
    cases st with
    | nil => cases h
    | cons v r =>
      simp only [jx_pure] at h
      cases hc : jx_cat1 v with
      | false => rw [hc] at h; cases h
      | true =>
        rw [hc] at h; cases h
        exact lv_pop hx hb hd (by rw [jx_cat_x]; exact jx_cat1_1 hc) kk
  | dup2 =>
    match st, h with
    | [], h => cases h
    | [_], h => cases h
    | v :: w :: r, h =>
      simp only [jx_pure] at h
      cases hc : jx_cat1 v && jx_cat1 w with
      | false => rw [hc] at h; cases h
      | true =>
        rw [hc] at h; cases h
        rw [Bool.and_eq_true] at hc
        exact lv_dup2_11 hx hb hd (by rw [jx_cat_x]; exact jx_cat1_1 hc.1) (by rw [jx_cat_x]; exact jx_cat1_1 hc.2) kk
  | _ => cases h
theorem jx_s_load (hx : p.tables.exec = Jvm.exec) (hb : c.code = cc) {i : Instr} (hd : decode cc pc = .ok (i, jx_len i)) {nL : Nat} {ls : jx_L} (hr : jx_rel ad nL ls la) {st : List Value} {v : Value} (h : jx_load i ls = some v) (kk : W p l e R s m args below meth c H locs cells slots Q (F0 m (pc + jx_len i) la ((v :: st).map (jx_xv ad)))) : W p l e R s m args below meth c H locs cells slots Q (F0 m pc la (st.map (jx_xv ad))) := by
  have hI : ∀ {k : Nat}, jx_ldI ls k = some v → ∃ x, v = .int x ∧ la[k]? = some (.val (.int x)) := by
    intro k hk
    unfold jx_ldI at hk
    split at hk
    · rename_i x hg; cases hk; exact ⟨_, rfl, jx_rel_at hr hg⟩
    · cases hk
  have hL : ∀ {k : Nat}, jx_ldL ls k = some v → ∃ x, v = .long x ∧ la[k]? = some (.val (.long x)) := by
    intro k hk
    unfold jx_ldL at hk
    split at hk
    · rename_i x hg; cases hk; exact ⟨_, rfl, jx_rel_at hr hg⟩
    · cases hk
  have hA : ∀ {k : Nat}, jx_ldA ls k = some v → ∃ x, v = .ref x ∧ la[k]? = some (.val (.ref (ad x))) := by
    intro k hk
    unfold jx_ldA at hk
    split at hk
    · rename_i x hg; cases hk; exact ⟨_, rfl, jx_rel_at hr hg⟩
    · cases hk
  cases i with
  | iload_n k => obtain ⟨x, rfl, hg⟩ := hI h; exact lv_iload_n hx hb hd rfl hg kk
  | iload k => obtain ⟨x, rfl, hg⟩ := hI h; exact lv_iload hx hb hd hg kk
  | lload_n k => obtain ⟨x, rfl, hg⟩ := hL h; exact lv_lload_n hx hb hd rfl hg kk
  | lload k => obtain ⟨x, rfl, hg⟩ := hL h; exact lv_lload hx hb hd hg kk
  | aload_n k => obtain ⟨x, rfl, hg⟩ := hA h; exact lv_aload_n hx hb hd rfl hg kk
  | aload k => obtain ⟨x, rfl, hg⟩ := hA h; exact lv_aload hx hb hd hg kk
  | _ => cases h
theorem jx_s_store (hx : p.tables.exec = Jvm.exec) (hb : c.code = cc) {i : Instr} {ret : Option FieldType} {a b nx : Nat} {sw : List (Int32 × Nat)} (hd : decode cc pc = .ok (i, jx_len i)) (hO : jx_chkO i ret pc a b sw = true) {nL : Nat} {ls : jx_L} (hr : jx_rel ad nL ls la) {st : List Value} {h : jx_H} {o : List Prop} {nx' : Nat} {ls' : jx_L} {st' : List Value} {h' : jx_H} (hs : jx_store i nx sw ls st h = some (o, nx', ls', st', h')) : nx' = nx ∧ h' = h ∧ ((∀ la', jx_rel ad nL ls' la' → W p l e R s m args below meth c H locs cells slots Q (F0 m (pc + jx_len i) la' (st'.map (jx_xv ad)))) → W p l e R s m args below meth c H locs cells slots Q (F0 m pc la (st.map (jx_xv ad)))) := by
  obtain ⟨hn, lv, hlv, hall⟩ := hr
  have h1 : ∀ {k : Nat} {v : Value} {r : List Value}, jx_set1 v ls k (fun l => some (([] : List Prop), nx, l, r, h)) = some (o, nx', ls', st', h') → nx' = nx ∧ h' = h ∧ st' = r ∧ k < nL ∧ ∀ la', lv_has la' nL ((k, jx_xv ad v) :: lv.filter (fun q => !(q.1 == k) && !(q.1 + 1 == k && q.2.category == 2))) → jx_rel ad nL ls' la' := by
    intro k v r hh
    obtain ⟨l2, e1, e2, e3, e4⟩ := jx_set1_spec hh
    cases e1
    exact ⟨rfl, rfl, rfl, by omega, fun la' hla => jx_rel_1 hn hall e2 e4 hla⟩
  have h2 : ∀ {k : Nat} {v : Value} {r : List Value}, jx_set2 v ls k (fun l => some (([] : List Prop), nx, l, r, h)) = some (o, nx', ls', st', h') → nx' = nx ∧ h' = h ∧ st' = r ∧ k + 1 < nL ∧ ∀ la', lv_has la' nL ((k, jx_xv ad v) :: lv.filter (fun q => !(q.1 == k) && (!(q.1 == k + 1) && !(q.1 + 1 == k && q.2.category == 2)))) → jx_rel ad nL ls' la' := by
    intro k v r hh
    obtain ⟨l2, e1, e2, e3, e4⟩ := jx_set2_spec hh
    cases e1
    exact ⟨rfl, rfl, rfl, by omega, fun la' hla => jx_rel_2 hn hall e2 e4 hla⟩
  cases i with
  | istore_n k =>
    simp only [jx_store, jx_stI] at hs
    split at hs
    · obtain ⟨rfl, rfl, rfl, hk, hrel⟩ := h1 hs
      exact ⟨rfl, rfl, fun kk => lv_istore_n hx hb hd rfl hlv hk rfl (fun la' hla => kk la' (hrel la' hla))⟩
    · cases hs
  | istore k =>
    simp only [jx_store, jx_stI] at hs
    split at hs
    · obtain ⟨rfl, rfl, rfl, hk, hrel⟩ := h1 hs
      exact ⟨rfl, rfl, fun kk => lv_istore hx hb hd hlv hk rfl (fun la' hla => kk la' (hrel la' hla))⟩
    · cases hs
  | lstore_n k =>
    simp only [jx_store, jx_stL] at hs
    split at hs
    · obtain ⟨rfl, rfl, rfl, hk, hrel⟩ := h2 hs
      exact ⟨rfl, rfl, fun kk => lv_lstore_n hx hb hd rfl hlv hk rfl (fun la' hla => kk la' (hrel la' hla))⟩
    · cases hs
  | lstore k =>
    simp only [jx_store, jx_stL] at hs
    split at hs
    · obtain ⟨rfl, rfl, rfl, hk, hrel⟩ := h2 hs
      exact ⟨rfl, rfl, fun kk => lv_lstore hx hb hd hlv hk rfl (fun la' hla => kk la' (hrel la' hla))⟩
    · cases hs
  | astore_n k =>
    simp only [jx_store, jx_stA] at hs
    split at hs
    · obtain ⟨rfl, rfl, rfl, hk, hrel⟩ := h1 hs
      exact ⟨rfl, rfl, fun kk => lv_astore_n hx hb hd rfl hlv hk rfl (fun la' hla => kk la' (hrel la' hla))⟩
    · cases hs
  | astore k =>
    simp only [jx_store, jx_stA] at hs
    split at hs
    · obtain ⟨rfl, rfl, rfl, hk, hrel⟩ := h1 hs
      exact ⟨rfl, rfl, fun kk => lv_astore hx hb hd hlv hk rfl (fun la' hla => kk la' (hrel la' hla))⟩
    · cases hs
  | iinc k n =>
    simp only [jx_store] at hs
    split at hs
    · rename_i x v t r hg
      have hv : v = Int32.ofInt n := by simpa [jx_chkO, jx_hd] using hO
      subst hv
      obtain ⟨rfl, rfl, rfl, hk, hrel⟩ := h1 hs
      obtain ⟨k2, hk2⟩ := List.getElem?_of_mem (hall k (.int x) hg)
      exact ⟨rfl, rfl, fun kk => lv_iinc hx hb hd hlv hk2 rfl hk rfl (fun la' hla => kk la' (hrel la' hla))⟩
    · cases hs
  | _ => cases hs
theorem jx_s_br (hx : p.tables.exec = Jvm.exec) (hb : c.code = cc) {i : Instr} {ret : Option FieldType} {a b : Nat} {sw : List (Int32 × Nat)} (hd : decode cc pc = .ok (i, jx_len i)) (hO : jx_chkO i ret pc a b sw = true) {st r : List Value} {q : Prop} (h : jx_br i st = some (q, r)) (kt : q → W p l e R s m args below meth c H locs cells slots Q (F0 m a la (r.map (jx_xv ad)))) (kf : ¬ q → W p l e R s m args below meth c H locs cells slots Q (F0 m (pc + 3) la (r.map (jx_xv ad)))) : W p l e R s m args below meth c H locs cells slots Q (F0 m pc la (st.map (jx_xv ad))) := by
  cases i with
  | if_icmp cd off =>
    have ht : (pc : Int) + off = (a : Int) := by simpa [jx_chkO] using hO
    simp only [jx_br] at h
    split at h
    · cases cd with
      | eq => cases h; exact lv_icmp_eq hx hb hd ht kt kf
      | ne => cases h; exact lv_icmp_ne hx hb hd ht kt (fun z => kf (fun w => w z))
      | lt => cases h; exact lv_icmp_lt hx hb hd ht kt kf
      | ge => cases h; exact lv_icmp_ge hx hb hd ht kt kf
      | gt => cases h; exact lv_icmp_gt hx hb hd ht kt kf
      | le => cases h; exact lv_icmp_le hx hb hd ht kt kf
    · cases h
  | ifCond cd off =>
    have ht : (pc : Int) + off = (a : Int) := by simpa [jx_chkO] using hO
    simp only [jx_br] at h
    split at h
    · cases cd with
      | eq => cases h; exact lv_if_eq hx hb hd ht kt kf
      | ne => cases h; exact lv_if_ne hx hb hd ht kt (fun z => kf (fun w => w z))
      | lt => cases h; exact lv_if_lt hx hb hd ht kt kf
      | ge => cases h; exact lv_if_ge hx hb hd ht kt kf
      | gt => cases h; exact lv_if_gt hx hb hd ht kt kf
      | le => cases h; exact lv_if_le hx hb hd ht kt kf
    · cases h
  | _ => cases h
end SND
