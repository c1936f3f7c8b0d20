/-! the first greatest of a list of (worth, row); the best way through a game whose moves are numbers below n: told as a tree, and as the first greatest of all rows -/
abbrev fmO : Type := Option (Int × List Nat)
def fm_step (o : fmO) (q : Int × List Nat) : fmO := match o with
  | none => some q
  | some b => if b.1 < q.1 then some q else some b
def fm (l : List (Int × List Nat)) : fmO := l.foldl fm_step none
def fm_join (a b : fmO) : fmO := match b with
  | none => a
  | some q => fm_step a q
def fm_sh (g : Int) (c : Nat) (p : Int × List Nat) : Int × List Nat := (g + p.1, c :: p.2)
theorem fm_join_step (o : fmO) (q : Int × List Nat) (X : fmO) : fm_join (fm_step o q) X = fm_join o (fm_join (some q) X) := by
  cases X with
  | none => rfl
  | some p =>
    cases o with
    | none =>
      show fm_step (some q) p = fm_join none (fm_step (some q) p)
      unfold fm_step
      by_cases h : q.1 < p.1
      · simp only [h, if_true]; rfl
      · simp only [h, if_false]; rfl
    | some b =>
      show fm_step (fm_step (some b) q) p = fm_join (some b) (fm_step (some q) p)
      unfold fm_step
      by_cases h1 : b.1 < q.1
      · by_cases h2 : q.1 < p.1
        · simp only [h1, h2, if_true, fm_join, fm_step, show b.1 < p.1 by omega]
        · simp only [h1, h2, if_true, if_false, fm_join, fm_step]
      · by_cases h2 : q.1 < p.1
        · simp only [h1, h2, if_true, if_false, fm_join, fm_step]
        · simp only [h1, h2, if_false, fm_join, fm_step, show ¬ b.1 < p.1 by omega]
theorem fm_from : ∀ (l : List (Int × List Nat)) (o : fmO), l.foldl fm_step o = fm_join o (fm l)
  | [], o => rfl
  | q :: l, o => by
    rw [fm, List.foldl_cons, List.foldl_cons, fm_from l, fm_from l, fm_join_step]
    cases h : fm_join (fm_step none q) (fm l) with
    | none => rw [show fm_step none q = some q from rfl] at h; rw [h]
    | some y => rw [show fm_step none q = some q from rfl] at h; rw [h]
theorem fm_shift (g : Int) (c : Nat) : ∀ (l : List (Int × List Nat)) (o : fmO), (l.map (fm_sh g c)).foldl fm_step (o.map (fm_sh g c)) = (l.foldl fm_step o).map (fm_sh g c)
  | [], _ => rfl
  | q :: l, o => by
    rw [List.map_cons, List.foldl_cons, List.foldl_cons, ← fm_shift g c l]
    congr 1
    cases o with
    | none => rfl
    | some b =>
      show fm_step (some (fm_sh g c b)) (fm_sh g c q) = (fm_step (some b) q).map (fm_sh g c)
      unfold fm_step fm_sh
      by_cases h : b.1 < q.1
      · simp only [h, if_true, show g + b.1 < g + q.1 by omega]; rfl
      · simp only [h, if_false, show ¬ g + b.1 < g + q.1 by omega]; rfl
theorem fm_flat (B : Nat → List (Int × List Nat)) : ∀ (l : List Nat) (o : fmO), (l.flatMap B).foldl fm_step o = l.foldl (fun o c => fm_join o (fm (B c))) o
  | [], _ => rfl
  | c :: l, o => by rw [List.flatMap_cons, List.foldl_append, List.foldl_cons, fm_flat B l, fm_from (B c)]
/-- those below n that are not in d -/
def pl_rem (n : Nat) (d : Nat → Bool) : List Nat := (List.range n).filter (fun c => !d c)
def pl_add (d : Nat → Bool) (c : Nat) : Nat → Bool := fun k => d k || Nat.beq k c
/-- the first greatest of those below i that are not in d -/
def pl_upto (wo : Nat → Int × List Nat) (d : Nat → Bool) : Nat → fmO
  | 0 => none
  | i + 1 => if d i = true then pl_upto wo d i else fm_step (pl_upto wo d i) (wo i)
theorem pl_upto_eq (wo : Nat → Int × List Nat) (d : Nat → Bool) : ∀ i, pl_upto wo d i = fm ((pl_rem i d).map wo)
  | 0 => rfl
  | i + 1 => by
    rw [pl_upto, pl_upto_eq wo d i]
    have e : pl_rem (i + 1) d = pl_rem i d ++ [i].filter (fun c => !d c) := by
      unfold pl_rem; rw [List.range_succ, List.filter_append]
    rw [e, List.map_append]
    by_cases h : d i = true
    · rw [if_pos h]; simp [h]
    · rw [if_neg h, fm, fm, List.foldl_append]
      simp [h]
def pl_get (o : fmO) : Int × List Nat := match o with
  | none => (0, [])
  | some q => q
def pl_best {σ : Type} (n : Nat) (g : σ → Nat → Int) (af : σ → Nat → σ) (sg : Int) : Nat → (Nat → Bool) → σ → Int × List Nat
  | 0, _, _ => (0, [])
  | f + 1, d, s => pl_get (pl_upto (fun c => (g s c + sg * (pl_best n g af sg f (pl_add d c) (af s c)).1, c :: (pl_best n g af sg f (pl_add d c) (af s c)).2)) d n)
/-- all rows -/
def pl_seqs (n : Nat) : Nat → (Nat → Bool) → List (List Nat)
  | 0, _ => [[]]
  | f + 1, d => match pl_rem n d with
    | [] => [[]]
    | c :: r => (c :: r).flatMap (fun c => (pl_seqs n f (pl_add d c)).map (c :: ·))
def pl_tot {σ : Type} (g : σ → Nat → Int) (af : σ → Nat → σ) : σ → List Nat → Int
  | _, [] => 0
  | s, c :: r => g s c + pl_tot g af (af s c) r
theorem fm_some {l : List (Int × List Nat)} (h : l ≠ []) : ∃ q, fm l = some q := by
  cases l with
  | nil => exact absurd rfl h
  | cons q l =>
    rw [fm, List.foldl_cons, fm_from]
    cases fm l with
    | none => exact ⟨q, rfl⟩
    | some p =>
      show ∃ y, fm_step (some q) p = some y
      unfold fm_step
      by_cases h : q.1 < p.1
      · exact ⟨p, if_pos h⟩
      · exact ⟨q, if_neg h⟩
theorem pl_max {σ : Type} (n : Nat) (g : σ → Nat → Int) (af : σ → Nat → σ) : ∀ (f : Nat) (d : Nat → Bool) (s : σ), fm ((pl_seqs n f d).map (fun p => (pl_tot g af s p, p))) = some (pl_best n g af 1 f d s)
  | 0, _, _ => rfl
  | f + 1, d, s => by
    rw [pl_seqs, pl_best, pl_upto_eq]
    cases hr : pl_rem n d with
    | nil => rfl
    | cons c0 r0 =>
      have key : ∀ (l : List Nat) (o : fmO), l.foldl (fun o c => fm_join o (fm (((pl_seqs n f (pl_add d c)).map (c :: ·)).map (fun p => (pl_tot g af s p, p))))) o = (l.map (fun c => (g s c + 1 * (pl_best n g af 1 f (pl_add d c) (af s c)).1, c :: (pl_best n g af 1 f (pl_add d c) (af s c)).2))).foldl fm_step o := by
        intro l
        induction l with
        | nil => intro o; rfl
        | cons c l ih =>
          intro o
          rw [List.foldl_cons, ih, List.map_cons, List.foldl_cons]
          congr 1
          have e1 : ((pl_seqs n f (pl_add d c)).map (c :: ·)).map (fun p => (pl_tot g af s p, p)) = ((pl_seqs n f (pl_add d c)).map (fun p => (pl_tot g af (af s c) p, p))).map (fm_sh (g s c) c) := by
            rw [List.map_map, List.map_map]
            apply List.map_congr_left
            intro p _
            rfl
          have e2 := fm_shift (g s c) c ((pl_seqs n f (pl_add d c)).map (fun p => (pl_tot g af (af s c) p, p))) none
          have e3 := pl_max n g af f (pl_add d c) (af s c)
          rw [fm] at e3
          rw [e1, fm, show (none : fmO) = (none : fmO).map (fm_sh (g s c) c) from rfl, e2, e3, Int.one_mul]
          rfl
      have e4 : (((c0 :: r0).flatMap (fun c => (pl_seqs n f (pl_add d c)).map (c :: ·))).map (fun p => (pl_tot g af s p, p))) = (c0 :: r0).flatMap (fun c => ((pl_seqs n f (pl_add d c)).map (c :: ·)).map (fun p => (pl_tot g af s p, p))) := List.map_flatMap
      show fm (((c0 :: r0).flatMap (fun c => (pl_seqs n f (pl_add d c)).map (c :: ·))).map (fun p => (pl_tot g af s p, p))) = _
      rw [e4, fm, fm_flat, key]
      obtain ⟨q, hq⟩ := fm_some (l := (c0 :: r0).map (fun c => (g s c + 1 * (pl_best n g af 1 f (pl_add d c) (af s c)).1, c :: (pl_best n g af 1 f (pl_add d c) (af s c)).2))) (by simp)
      rw [fm] at hq
      rw [hq, fm, hq]
      rfl
