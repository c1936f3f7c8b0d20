/-! the reference's layEnds -/
section
variable {v v' : Nat → Int32} {a a' : Nat → List Int32} {w u : Int64} {G : jG}
theorem jMs.up15 (h : jMs v a v' a') {l : List Int32} (hl : l.length = 341) : jMs v a v' (jup a' 15 l) := by
  refine ⟨h.1, fun j hj => by rw [jup_n _ _ (by omega)]; exact h.2.1 j hj, ?_⟩
  obtain ⟨h0, h1, h2, h3, h4, h5⟩ := h.2.2
  exact ⟨h0, h1, h2, h3, h4, hl⟩
abbrev ng (G : jG) (x : Int32) (r : List Nat) : Int := nd_a (og G x) (oa G x) (gco G) r
abbrev nco (G : jG) (x : Int32) (r : List Nat) : Nat → Int32 := nd_s (oa G x) (gco G) r
theorem jm_layIn (h : jMG v a G) (hs : jMl a) {p : List Nat} (hp : p.length = gcv G) (hlt : ∀ k ∈ p, k < gcv G) (h12 : a 12 = (nx_ro (gcv G) p).map nI) {x : Int32} {l6 : Option Value} {Q : jx_Q} (fin : ∀ v' a' co' l6, jMi G v a v' a' co' → jx_W 8 jk_X7_layEnds 83 [some (.ref 0), some (.int x), some (.int 1), some (.int (iI (ng G x p.reverse))), some (.int (nI (nd_c p.reverse))), some (.int (nI (gcv G))), l6] [] (jM v' a' w u) Q) : jx_W 8 jk_X7_layEnds 22 [some (.ref 0), some (.int x), some (.int 1), some (.int (iI 0)), some (.int (nI 0)), some (.int (nI 0)), l6] [] (jM v a w u) Q := by
  have ho := h.ok
  have loop : ∀ (q r : List Nat) (v' : Nat → Int32) (a' : Nat → List Int32) (l6 : Option Value), p = r.reverse ++ q → jMi G v a v' a' (nco G x r) → jx_W 8 jk_X7_layEnds 22 [some (.ref 0), some (.int x), some (.int 1), some (.int (iI (ng G x r))), some (.int (nI (nd_c r))), some (.int (nI r.length)), l6] [] (jM v' a' w u) Q := by
    intro q
    induction q with
    | nil =>
      intro r v' a' l6 hpq hj
      have e : r = p.reverse := by rw [hpq, List.append_nil, List.reverse_reverse]
      have e2 : r.length = gcv G := by rw [e, List.length_reverse, hp]
      have hG := hj.game h
      refine jx_auto rfl trivial ?_
      refine jx_if rfl (fun _ => ?_) (fun c1 => absurd (jc_end hG.coverts (by show gcv G ≤ r.length; omega) (by omega)) c1)
      rw [e2, e]
      exact fin v' a' _ l6 hj
    | cons c q ih =>
      intro r v' a' l6 hpq hj
      have hG := hj.game h
      have hW := hj.wl hs
      have hlen : r.length + q.length + 1 = gcv G := by rw [← hp, hpq]; simp; omega
      have hil : r.length < gcv G := by omega
      have hpi : p[r.length]? = some c := by
        rw [hpq, List.getElem?_append_right (by simp), List.length_reverse, Nat.sub_self]
        rfl
      have hc : c < gcv G := hlt c (List.mem_of_getElem? hpi)
      have e12 : a' 12 = (nx_ro (gcv G) p).map nI := by rw [hj.2.1 12 (by omega) (by omega)]; exact h12
      have l12 : (a' 12).length = 6 := hW.2.2.1
      have e1 : ∀ b : Nat → List Int32, b 12 = (nx_ro (gcv G) p).map nI → (b 12).getD (nI r.length).toNatClampNeg 0 = nI c := by
        intro b hb
        rw [hb, nI_clamp (by omega), nx_map_get, nx_ro_get hp hil, List.getD, hpi]
        rfl
      refine jx_auto rfl trivial ?_
      refine jx_if rfl (fun c1 => absurd c1 (jc_on hG.coverts (by show r.length < gcv G; omega) (by show gcv G < _; omega))) (fun _ => ?_)
      refine jx_auto rfl ⟨vp_in_nI (by omega) (by omega), trivial⟩ ?_
      rw [e1 a' e12]
      refine jx_call 6 rfl (by decide) (jm_drivenI h hs hj hc) (fun r2 h' hq => ?_)
      obtain ⟨v2, a2, rfl, rfl, hi2⟩ := hq
      have hi3 : jMi G v a v2 a2 (nco G x (c :: r)) := hi2
      have e12b : a2 12 = (nx_ro (gcv G) p).map nI := by rw [hi2.2.1 12 (by omega) (by omega)]; exact h12
      have l12b : (a2 12).length = 6 := (hi2.wl hs).2.2.1
      have hev : nI r.length - nI r.length / 2 * 2 = nI (r.length % 2) := pk_rem (d := 2) (by omega) (by decide) (by decide)
      -- behind the sum
      have last : ∀ y : Int32, y = iI (sgn r.length * og G x (nco G x r) c) → jx_W 8 jk_X7_layEnds 61 [some (.ref 0), some (.int x), some (.int 1), some (.int (iI (ng G x r))), some (.int (nI (nd_c r))), some (.int (nI r.length)), some (.int (iI (og G x (nco G x r) c)))] [.int y, .int (iI (ng G x r))] (jM v2 a2 w u) Q := by
        intro y ey
        refine jx_steps 9 rfl ⟨by show vp_in (nI r.length) (a2 12).length; exact vp_in_nI (by omega) (by omega), trivial⟩ ?_
        rw [e1 a2 e12b]
        refine jx_steps 4 rfl trivial ?_
        rw [nI_1]
        refine jx_at (ih (c :: r) v2 a2 (some (.int (iI (og G x (nco G x r) c)))) (by rw [hpq]; simp) hi3) rfl ?_
        dsimp only
        rw [ey, iI_add, show (4 : Int32) * nI (nd_c r) = nI (4 * nd_c r) from pk_mul 4 (nd_c r), nI_add]
        rfl
      refine jx_auto rfl ⟨by decide, trivial⟩ ?_
      refine jx_if rfl (fun c1 => ?_) (fun c1 => ?_)
      · have c2 : ¬ nI r.length - nI r.length / 2 * 2 = 0 := c1
        rw [hev] at c2
        have c3 : ¬ r.length % 2 = 0 := fun q => c2 (by rw [q]; rfl)
        refine jx_steps 2 rfl trivial ?_
        refine last _ ?_
        rw [iI_neg, sgn, if_neg c3, Int.neg_mul, Int.one_mul]
      · have c2 : nI r.length - nI r.length / 2 * 2 = 0 := Decidable.not_not.mp c1
        rw [hev] at c2
        have c3 : r.length % 2 = 0 := (nI_eq (b := 0) (by omega) (by decide)).mp c2
        refine jx_steps 2 rfl trivial ?_
        refine last _ ?_
        rw [sgn, if_pos c3, Int.one_mul]
  exact loop p [] v a l6 rfl (.rf h hs)
/-- the ends laid so far -/
def nx_laid (G : jG) (x : Int32) (gb : List Int32) (p : List Nat) : Prop := gb.getD (bg (gcv G) + nd_c p.reverse) 0 = iI (ng G x p.reverse)
theorem bg_le {n : Nat} (h : n ≤ 4) {c : Nat} (hc : c < 4 ^ n) : bg n + c < 341 := by
  have : n = 0 ∨ n = 1 ∨ n = 2 ∨ n = 3 ∨ n = 4 := by omega
  rcases this with e | e | e | e | e <;> subst e
  · have h1 : c < 1 := hc; show 0 + c < 341; omega
  · have h1 : c < 4 := hc; show 1 + c < 341; omega
  · have h1 : c < 16 := hc; show 5 + c < 341; omega
  · have h1 : c < 64 := hc; show 21 + c < 341; omega
  · have h1 : c < 256 := hc; show 85 + c < 341; omega
theorem nx_laid_set {x : Int32} {gb : List Int32} {p p2 : List Nat} (hg : gcv G ≤ 4) (hl : gb.length = 341) (hp : p.length = gcv G ∧ ∀ k ∈ p, k < gcv G) (hp2 : p2.length = gcv G ∧ ∀ k ∈ p2, k < gcv G) (h : p2 = p ∨ nx_laid G x gb p2) : nx_laid G x (gb.set (bg (gcv G) + nd_c p.reverse) (iI (ng G x p.reverse))) p2 := by
  have d1 := dg_of p.reverse (fun k hk => by have := hp.2 k (List.mem_reverse.mp hk); omega)
  have d2 := dg_of p2.reverse (fun k hk => by have := hp2.2 k (List.mem_reverse.mp hk); omega)
  rw [List.length_reverse, hp.1] at d1
  rw [List.length_reverse, hp2.1] at d2
  have hb := bg_le hg d1.2
  unfold nx_laid
  by_cases e : nd_c p2.reverse = nd_c p.reverse
  · have e2 : p2.reverse = p.reverse := by rw [← d1.1, ← d2.1, e]
    rw [e2, jl_getset (by omega)]
  · rw [jl_getne (by omega)]
    rcases h with h | h
    · rw [h] at e; exact absurd rfl e
    · exact h
theorem jm_layEnds (h : jMG v a G) (hs : jMl a) (hg : 1 ≤ gcv G) {x : Int32} : jx_W 8 jk_X7_layEnds 0 [some (.ref 0), some (.int x), none, none, none, none, none] [] (jM v a w u) (fun r h' => ∃ v' a', r = none ∧ h' = jM v' a' w u ∧ jMs v a v' a' ∧ ∀ p ∈ pl_seqs (gcv G) 4 (fun _ => false), nx_laid G x (a' 15) p) := by
  have ho := h.ok
  have hch := nx_ch4 (gcv G) (by omega)
  have hfi := nx_first4 (gcv G) (by omega)
  have hmem := fun p hp => nx_ch_mem hch p hp
  have round : ∀ (p : List Nat) (D : List (List Nat)) (v' : Nat → Int32) (a' : Nat → List Int32) (l3 l4 l5 l6 : Option Value), (∀ p2 ∈ D, p2.length = gcv G ∧ ∀ k ∈ p2, k < gcv G) → p.length = gcv G → (∀ k ∈ p, k < gcv G) → jMs v a v' a' → a' 11 = a 4 → a' 12 = (nx_ro (gcv G) p).map nI → (∀ p2 ∈ D, nx_laid G x (a' 15) p2) → (∀ v2 a2 l3 l4 l5 l6, jMs v a v2 a2 → a2 11 = a 4 → a2 12 = (nx_ro (gcv G) p).map nI → (∀ p2 ∈ D ++ [p], nx_laid G x (a2 15) p2) → jx_W 8 jk_X7_layEnds 103 [some (.ref 0), some (.int x), some (.int 1), l3, l4, l5, l6] [] (jM v2 a2 w u) (fun r h' => ∃ v' a', r = none ∧ h' = jM v' a' w u ∧ jMs v a v' a' ∧ ∀ p ∈ pl_seqs (gcv G) 4 (fun _ => false), nx_laid G x (a' 15) p)) → jx_W 8 jk_X7_layEnds 10 [some (.ref 0), some (.int x), some (.int 1), l3, l4, l5, l6] [] (jM v' a' w u) (fun r h' => ∃ v' a', r = none ∧ h' = jM v' a' w u ∧ jMs v a v' a' ∧ ∀ p ∈ pl_seqs (gcv G) 4 (fun _ => false), nx_laid G x (a' 15) p) := by
    intro p D v' a' l3 l4 l5 l6 hD hp hlt hms h11 h12 hlaid kk
    have hG := hms.game h
    refine jx_auto rfl trivial ?_
    refine jx_if rfl (fun c1 => absurd c1 (by decide)) (fun _ => ?_)
    refine jx_steps 6 rfl trivial ?_
    refine jm_layIn (G := G) hG hms.2.2 hp hlt h12 (x := x) (fun v2 a2 co2 l6 hi2 => ?_)
    have hl2 := hi2.wl hms.2.2
    refine jx_auto rfl trivial ?_
    refine jx_callE 1 rfl (by decide) (jm_load hi2.2.2.2.1 hl2.2.1) ?_
    obtain ⟨hms3, hrow3⟩ := hi2.back hms h11
    have e12 := (hrow3 12 (by omega)).trans h12
    have e11 := (hrow3 11 (by omega)).trans h11
    have e15 := hrow3 15 (by omega)
    generalize jup a2 4 (a2 11) = a3 at hms3 hrow3 e11 e12 e15 ⊢
    have hG3 := hms3.game h
    have l15 : (a3 15).length = 341 := hms3.2.2.2.2.2.2.2
    have d1 := dg_of p.reverse (fun k hk => by have := hlt k (List.mem_reverse.mp hk); omega)
    rw [List.length_reverse, hp] at d1
    have hb := bg_le ho.2.1 d1.2
    refine jx_auto rfl trivial ?_
    rw [hG3.coverts]
    refine jx_callE 1 rfl (by decide) (jm_beginningOf (by omega)) ?_
    refine jx_steps 4 rfl ⟨by dsimp only; rw [nI_add]; show vp_in _ (a3 15).length; exact vp_in_nI (by omega) (by omega), trivial⟩ ?_
    dsimp only
    rw [nI_add, nI_clamp (by omega)]
    refine jx_at (kk v2 (jup a3 15 ((a3 15).set (bg (gcv G) + nd_c p.reverse) (iI (ng G x p.reverse)))) _ _ _ _ (hms3.up15 (List.length_set.trans l15)) e11 e12 (fun p2 hp2 => ?_)) rfl rfl rfl rfl
    rcases List.mem_append.mp hp2 with q | q
    · exact nx_laid_set ho.2.1 l15 ⟨hp, hlt⟩ (hD p2 q) (Or.inr (by rw [e15]; exact hlaid p2 q))
    · have q := List.mem_singleton.mp q
      rw [q]
      exact nx_laid_set ho.2.1 l15 ⟨hp, hlt⟩ ⟨hp, hlt⟩ (Or.inl rfl)
  have loop : ∀ (rest : List (List Nat)) (p : List Nat) (D : List (List Nat)) (v' : Nat → Int32) (a' : Nat → List Int32) (l3 l4 l5 l6 : Option Value), pl_seqs (gcv G) 4 (fun _ => false) = D ++ p :: rest → nx_ch (gcv G) (p :: rest) = true → jMs v a v' a' → a' 11 = a 4 → a' 12 = (nx_ro (gcv G) p).map nI → (∀ p2 ∈ D, nx_laid G x (a' 15) p2) → jx_W 8 jk_X7_layEnds 10 [some (.ref 0), some (.int x), some (.int 1), l3, l4, l5, l6] [] (jM v' a' w u) (fun r h' => ∃ v' a', r = none ∧ h' = jM v' a' w u ∧ jMs v a v' a' ∧ ∀ p ∈ pl_seqs (gcv G) 4 (fun _ => false), nx_laid G x (a' 15) p) := by
    intro rest
    induction rest with
    | nil =>
      intro p D v' a' l3 l4 l5 l6 hL hch2 hms h11 h12 hlaid
      obtain ⟨hp, hlt, -, hnx⟩ := nx_ch_at hch2
      refine round p D v' a' l3 l4 l5 l6 (fun p2 hp2 => hmem p2 (by rw [hL]; exact List.mem_append_left _ hp2)) hp hlt hms h11 h12 hlaid (fun v2 a2 l3 l4 l5 l6 k1 k2 k3 k4 => ?_)
      have hG2 := k1.game h
      refine jx_auto rfl trivial ?_
      rw [hG2.coverts]
      refine jx_callE 2 rfl (by decide) (jm_nextRowH hg (by omega) (nx_ro_good (by omega) hp hlt) k3) ?_
      rw [hnx]
      refine jx_auto rfl trivial ?_
      refine jx_if rfl (fun _ => ?_) (fun c1 => absurd rfl c1)
      have lr : ((nx_ro (gcv G) p).map nI).length = 6 := by rw [List.length_map]; exact (nx_ro_good (by omega) hp hlt).1
      refine jx_done rfl trivial ⟨v2, jup a2 12 ((nx_ro (gcv G) p).map nI), rfl, rfl, k1.up (by omega) lr, fun p2 hp2 => ?_⟩
      rw [hL] at hp2
      exact k4 p2 hp2
    | cons p2 rest ih =>
      intro p D v' a' l3 l4 l5 l6 hL hch2 hms h11 h12 hlaid
      obtain ⟨hp, hlt, hch3, hnx⟩ := nx_ch_at hch2
      obtain ⟨hp2, hlt2, -, -⟩ := nx_ch_at hch3
      refine round p D v' a' l3 l4 l5 l6 (fun p2 hp2 => hmem p2 (by rw [hL]; exact List.mem_append_left _ hp2)) hp hlt hms h11 h12 hlaid (fun v2 a2 l3 l4 l5 l6 k1 k2 k3 k4 => ?_)
      have hG2 := k1.game h
      refine jx_auto rfl trivial ?_
      rw [hG2.coverts]
      refine jx_callE 2 rfl (by decide) (jm_nextRowH hg (by omega) (nx_ro_good (by omega) hp hlt) k3) ?_
      dsimp only at hnx
      rw [hnx]
      refine jx_steps 2 rfl trivial ?_
      have lr : ((nx_ro (gcv G) p2).map nI).length = 6 := by rw [List.length_map]; exact (nx_ro_good (by omega) hp2 hlt2).1
      exact ih p2 (D ++ [p]) v2 (jup a2 12 ((nx_ro (gcv G) p2).map nI)) _ _ _ _ (by rw [hL]; simp) hch3 (k1.up (by omega) lr) k2 rfl k4
  refine jx_auto rfl trivial ?_
  refine jx_callE 1 rfl (by decide) (jm_save (by have := h.lens; omega) hs.2.1) ?_
  refine jx_auto rfl trivial ?_
  refine jx_callE 1 rfl (by decide) (jm_firstRow (by show (a 12).length = 6; exact hs.2.2.1) (by show (a 13).length = 6; exact hs.2.2.2.1)) ?_
  refine jx_steps 2 rfl trivial ?_
  cases hL : pl_seqs (gcv G) 4 (fun _ => false) with
  | nil => rw [hL] at hfi; cases hfi
  | cons p rest =>
    rw [hL] at hch hfi
    rw [hL] at loop
    have hp0 : p = List.range (gcv G) := Option.some.inj hfi
    have e12 : (List.range 6).map nI = (nx_ro (gcv G) p).map nI := by rw [hp0, nx_range (by omega)]
    refine jx_at (loop rest p [] v (jup (jup (jup a 11 (a 4)) 12 ((List.range 6).map nI)) 13 nx_b0) none none none none rfl hch ?_ rfl e12 (fun p2 hp2 => by cases hp2)) rfl rfl rfl rfl
    exact (((jMs.rf hs).up (k := 11) (by omega) (by have := h.lens; omega)).up (k := 12) (by omega) rfl).up (k := 13) (by omega) rfl
end
