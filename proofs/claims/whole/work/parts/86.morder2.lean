/-! ORDER, the reference's side: all rows -/
def pl_F {σ : Type} (g : σ → Nat → Int) (af : σ → Nat → σ) (s : σ) (p : List Nat) : Int × List Nat := (pl_tot g af s p, p)
theorem nx_ch_at {n : Nat} {p : List Nat} {r : List (List Nat)} (h : nx_ch n (p :: r) = true) : p.length = n ∧ (∀ k ∈ p, k < n) ∧ nx_ch n r = true ∧ (match r with | [] => nx n (nx_ro n p) = none | q :: _ => nx n (nx_ro n p) = some (nx_ro n q)) := by
  cases r with
  | nil =>
    simp only [nx_ch, Bool.and_eq_true, decide_eq_true_eq, List.all_eq_true] at h
    exact ⟨h.1.1.1, h.1.1.2, rfl, h.1.2⟩
  | cons q r =>
    simp only [nx_ch, Bool.and_eq_true, decide_eq_true_eq, List.all_eq_true] at h
    exact ⟨h.1.1.1, h.1.1.2, by simp only [nx_ch, Bool.and_eq_true, decide_eq_true_eq, List.all_eq_true]; exact h.2, h.1.2⟩
/-- what is kept so far is small, its row has n numbers -/
def nx_oo (n : Nat) (o : fmO) : Prop := ∀ q, o = some q → 0 ≤ q.1 ∧ q.1 ≤ 324 ∧ q.2.length = n
theorem nx_oo_step {n : Nat} {o : fmO} (h : nx_oo n o) {q : Int × List Nat} (hq : 0 ≤ q.1 ∧ q.1 ≤ 324 ∧ q.2.length = n) : nx_oo n (fm_step o q) := by
  intro y hy
  cases o with
  | none => rw [show fm_step none q = some q from rfl, Option.some.injEq] at hy; rw [← hy]; exact hq
  | some b =>
    unfold fm_step at hy
    by_cases hlt : b.1 < q.1
    · simp only [hlt, if_true, Option.some.injEq] at hy; rw [← hy]; exact hq
    · simp only [hlt, if_false, Option.some.injEq] at hy; rw [← hy]; exact h b rfl
/-- is it kept: as the two compare their numbers -/
theorem nx_ob_lt {n : Nat} {o : fmO} (h : nx_oo n o) {q : Int × List Nat} (hq : 0 ≤ q.1 ∧ q.1 ≤ 324) : (iI q.1 ≤ nx_ob o → fm_step o q = o) ∧ (¬ iI q.1 ≤ nx_ob o → fm_step o q = some q) := by
  cases o with
  | none =>
    refine ⟨fun c => ?_, fun _ => rfl⟩
    have e : (-1 : Int32) = iI (-1) := by decide
    unfold nx_ob at c
    dsimp only at c
    rw [e, iI_le (by omega) (by omega) (by omega) (by omega)] at c
    omega
  | some b =>
    obtain ⟨h1, h2, -⟩ := h b rfl
    unfold nx_ob fm_step
    dsimp only
    rw [iI_le (by omega) (by omega) (by omega) (by omega)]
    refine ⟨fun c => if_neg (by omega), fun c => if_pos (by omega)⟩
section
variable {v v' : Nat → Int32} {a a' : Nat → List Int32} {w u : Int64} {G : jG} {co : Nat → Int32}
theorem jMs.tr {v2 : Nat → Int32} {a2 : Nat → List Int32} (h : jMs v a v' a') (h2 : jMs v' a' v2 a2) : jMs v a v2 a2 := ⟨fun j hj => (h2.1 j hj).trans (h.1 j hj), fun j hj => (h2.2.1 j hj).trans (h.2.1 j hj), h2.2.2⟩
theorem jMs.up (h : jMs v a v' a') {k : Nat} (hk : 10 ≤ k ∧ k ≤ 14) {l : List Int32} (hl : l.length = 6) : jMs v a v' (jup a' k l) := by
  refine ⟨h.1, fun j hj => by rw [jup_n _ _ (by omega)]; exact h.2.1 j hj, ?_⟩
  obtain ⟨h0, h1, h2, h3, h4, h5⟩ := h.2.2
  rcases (show k = 10 ∨ k = 11 ∨ k = 12 ∨ k = 13 ∨ k = 14 by omega) with e | e | e | e | e
  · subst e; exact ⟨hl, h1, h2, h3, h4, h5⟩
  · subst e; exact ⟨h0, hl, h2, h3, h4, h5⟩
  · subst e; exact ⟨h0, h1, hl, h3, h4, h5⟩
  · subst e; exact ⟨h0, h1, h2, hl, h4, h5⟩
  · subst e; exact ⟨h0, h1, h2, h3, hl, h5⟩
theorem jm_orderNow (h : jMG v a G) (hs : jMl a) (h9 : g9 G) (hg : 1 ≤ gcv G) {x what : Int32} (hk : what = 0 ∨ ∃ k, k < 6 ∧ what = nI (10 + k)) : jx_W 8 jk_X7_orderNow 0 [some (.ref 0), some (.int x), some (.int what), none, none, none, none] [] (jM v a w u) (jMr v a w u (an_row (gcv G) (ob G x) what)) := by
  have ho := h.ok
  have hn := h.lens
  have hob := og_b h9 ho.1 x
  have exit : ∀ v' a' (o : fmO) (l4 l5 l6 : Option Value), jMs v a v' a' → nx_oo (gcv G) o → o = some (ob G x) → a' 13 = nx_or (gcv G) o → jx_W 8 jk_X7_orderNow 90 [some (.ref 0), some (.int x), some (.int what), some (.int (nx_ob o)), l4, l5, l6] [] (jM v' a' w u) (jMr v a w u (an_row (gcv G) (ob G x) what)) := by
    intro v' a' o l4 l5 l6 hms hoo he h13
    subst he
    have hlen := (hoo _ rfl).2.2
    refine jx_auto rfl trivial ?_
    refine jx_if rfl (fun c1 => ?_) (fun c1 => ?_)
    · obtain ⟨k, hk6, rfl⟩ := hk.resolve_left c1
      have e10 : nI (10 + k) - 10 = nI k := by
        have := pk_sub (a := 10 + k) (b := 10) (by omega)
        rw [Nat.add_sub_cancel_left] at this
        exact this
      refine jx_auto rfl ⟨?_, trivial⟩ ?_
      · dsimp only
        rw [e10]
        exact vp_in_nI (by have := hms.2.2.2.2.2.1; omega) (by have := hms.2.2.2.2.2.1; omega)
      refine jx_done rfl trivial ⟨v', a', ?_, rfl, hms⟩
      have e13 : a' 13 = nx_bo (gcv G) (ob G x).2 := h13
      unfold an_row
      rw [if_neg c1]
      dsimp only
      rw [e10, nI_clamp (by omega), e13, nx_bo_get hlen hk6]
    · have c1 := Decidable.not_not.mp c1
      refine jx_auto rfl trivial ?_
      refine jx_done rfl trivial ⟨v', a', ?_, rfl, hms⟩
      unfold an_row
      rw [if_pos c1]
      rfl
  have round : ∀ (p : List Nat) (o : fmO) (v' : Nat → Int32) (a' : Nat → List Int32) (l5 l6 : Option Value), p.length = gcv G → (∀ k ∈ p, k < gcv G) → jMs v a v' a' → a' 11 = a 4 → a' 12 = (nx_ro (gcv G) p).map nI → a' 13 = nx_or (gcv G) o → nx_oo (gcv G) o → (∀ v2 a2 l5 l6, jMs v a v2 a2 → a2 11 = a 4 → a2 12 = (nx_ro (gcv G) p).map nI → a2 13 = nx_or (gcv G) (fm_step o (pl_F (og G x) (oa G x) (gco G) p)) → nx_oo (gcv G) (fm_step o (pl_F (og G x) (oa G x) (gco G) p)) → jx_W 8 jk_X7_orderNow 77 [some (.ref 0), some (.int x), some (.int what), some (.int (nx_ob (fm_step o (pl_F (og G x) (oa G x) (gco G) p)))), some (.int 1), l5, l6] [] (jM v2 a2 w u) (jMr v a w u (an_row (gcv G) (ob G x) what))) → jx_W 8 jk_X7_orderNow 13 [some (.ref 0), some (.int x), some (.int what), some (.int (nx_ob o)), some (.int 1), l5, l6] [] (jM v' a' w u) (jMr v a w u (an_row (gcv G) (ob G x) what)) := by
    intro p o v' a' l5 l6 hp hlt hms h11 h12 h13 hoo kk
    have hG := hms.game h
    have tb := pl_tot_b (af := oa G x) hob p (gco G)
    rw [hp] at tb
    have tb2 : 0 ≤ (pl_F (og G x) (oa G x) (gco G) p).1 ∧ (pl_F (og G x) (oa G x) (gco G) p).1 ≤ 324 := by
      refine ⟨tb.1, Int.le_trans tb.2 ?_⟩
      have : (gcv G : Int) ≤ 4 := by omega
      omega
    have hstep := nx_ob_lt hoo tb2
    have hoo2 := nx_oo_step hoo (q := pl_F (og G x) (oa G x) (gco G) p) ⟨tb2.1, tb2.2, hp⟩
    refine jx_auto rfl trivial ?_
    refine jx_if rfl (fun c1 => absurd c1 (by decide)) (fun _ => ?_)
    refine jx_steps 4 rfl trivial ?_
    refine jm_orderIn (G := G) hG hms.2.2 hp hlt h12 (x := x) (what := what) (best := nx_ob o) (fun v2 a2 co2 hi2 => ?_)
    have hl2 := hi2.wl hms.2.2
    refine jx_auto rfl trivial ?_
    refine jx_callE 1 rfl (by decide) (jm_load hi2.2.2.2.1 hl2.2.1) ?_
    obtain ⟨hms3, hrow3⟩ := hi2.back hms h11
    have e12 := (hrow3 12 (by omega)).trans h12
    have e13 := (hrow3 13 (by omega)).trans h13
    have e11 := (hrow3 11 (by omega)).trans h11
    generalize jup a2 4 (a2 11) = a3 at hms3 hrow3 e11 e12 e13 ⊢
    have hG3 := hms3.game h
    refine jx_auto rfl trivial ?_
    refine jx_if rfl (fun c1 => ?_) (fun c1 => ?_)
    · rw [hstep.1 c1] at kk hoo2
      exact kk v2 a3 _ _ hms3 e11 e12 e13 hoo2
    · have es := hstep.2 c1
      obtain ⟨b1, b2⟩ := nx_or_ok (n := gcv G) (by omega) (o := o) (fun q hq => (hoo q hq).2.2)
      refine jx_auto rfl trivial ?_
      rw [hG3.coverts]
      refine jx_callE 1 rfl (by decide) (jm_keepRowH (by omega) hp e12 (by rw [e13]; exact b1) (by rw [e13]; exact b2)) ?_
      rw [es] at kk hoo2
      exact kk v2 (jup a3 13 (nx_bo (gcv G) p)) _ _ (hms3.up (by omega) (nx_bo_len hp (by omega))) e11 e12 rfl hoo2
  have loop : ∀ (rest : List (List Nat)) (p : List Nat) (o : fmO) (v' : Nat → Int32) (a' : Nat → List Int32) (l5 l6 : Option Value), nx_ch (gcv G) (p :: rest) = true → jMs v a v' a' → a' 11 = a 4 → a' 12 = (nx_ro (gcv G) p).map nI → a' 13 = nx_or (gcv G) o → nx_oo (gcv G) o → ((p :: rest).map (pl_F (og G x) (oa G x) (gco G))).foldl fm_step o = some (ob G x) → jx_W 8 jk_X7_orderNow 13 [some (.ref 0), some (.int x), some (.int what), some (.int (nx_ob o)), some (.int 1), l5, l6] [] (jM v' a' w u) (jMr v a w u (an_row (gcv G) (ob G x) what)) := by
    intro rest
    induction rest with
    | nil =>
      intro p o v' a' l5 l6 hch hms h11 h12 h13 hoo hfold
      obtain ⟨hp, hlt, -, hnx⟩ := nx_ch_at hch
      refine round p o v' a' l5 l6 hp hlt hms h11 h12 h13 hoo (fun v2 a2 l5 l6 k1 k2 k3 k4 k5 => ?_)
      have hG2 := k1.game h
      refine jx_auto rfl trivial ?_
      rw [hG2.coverts]
      refine jx_callE 2 rfl (by decide) (jm_nextRowH hg (by omega) (nx_ro_good (by omega) hp hlt) k3) ?_
      rw [hnx]
      refine jx_auto rfl trivial ?_
      refine jx_if rfl (fun _ => ?_) (fun c1 => absurd rfl c1)
      have lr : ((nx_ro (gcv G) p).map nI).length = 6 := by rw [List.length_map]; exact (nx_ro_good (by omega) hp hlt).1
      exact exit v2 (jup a2 12 ((nx_ro (gcv G) p).map nI)) _ _ _ _ (k1.up (by omega) lr) k5 hfold k4
    | cons p2 rest ih =>
      intro p o v' a' l5 l6 hch hms h11 h12 h13 hoo hfold
      obtain ⟨hp, hlt, hch2, hnx⟩ := nx_ch_at hch
      obtain ⟨hp2, hlt2, -, -⟩ := nx_ch_at hch2
      refine round p o v' a' l5 l6 hp hlt hms h11 h12 h13 hoo (fun v2 a2 l5 l6 k1 k2 k3 k4 k5 => ?_)
      have hG2 := k1.game h
      refine jx_auto rfl trivial ?_
      rw [hG2.coverts]
      refine jx_callE 2 rfl (by decide) (jm_nextRowH hg (by omega) (nx_ro_good (by omega) hp hlt) k3) ?_
      dsimp only at hnx
      rw [hnx]
      refine jx_steps 2 rfl trivial ?_
      have lr : ((nx_ro (gcv G) p2).map nI).length = 6 := by rw [List.length_map]; exact (nx_ro_good (by omega) hp2 hlt2).1
      exact ih p2 _ v2 (jup a2 12 ((nx_ro (gcv G) p2).map nI)) _ _ hch2 (k1.up (by omega) lr) k2 rfl k4 k5 hfold
  refine jx_auto rfl trivial ?_
  refine jx_callE 1 rfl (by decide) (jm_save (by omega) hs.2.1) ?_
  refine jx_auto rfl trivial ?_
  refine jx_callE 1 rfl (by decide) (jm_firstRow (by show (a 12).length = 6; exact hs.2.2.1) (by show (a 13).length = 6; exact hs.2.2.2.1)) ?_
  refine jx_steps 4 rfl trivial ?_
  have hch := nx_ch4 (gcv G) (by omega)
  have hfi := nx_first4 (gcv G) (by omega)
  have hmax := pl_max (gcv G) (og G x) (oa G x) 4 (fun _ => false) (gco G)
  cases hL : pl_seqs (gcv G) 4 (fun _ => false) with
  | nil => rw [hL] at hfi; cases hfi
  | cons p rest =>
    rw [hL] at hch hfi hmax
    have hp0 : p = List.range (gcv G) := Option.some.inj hfi
    have e12 : (List.range 6).map nI = (nx_ro (gcv G) p).map nI := by rw [hp0, nx_range (by omega)]
    refine jx_at (loop rest p none v (jup (jup (jup a 11 (a 4)) 12 ((List.range 6).map nI)) 13 nx_b0) none none hch ?_ rfl e12 rfl (fun q hq => by cases hq) hmax) rfl rfl rfl rfl
    exact (((jMs.rf hs).up (k := 11) (by omega) (by omega)).up (k := 12) (by omega) rfl).up (k := 13) (by omega) rfl
end
