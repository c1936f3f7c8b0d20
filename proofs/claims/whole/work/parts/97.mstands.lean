/-! STANDS, the reference's side -/
def jMt (G : jG) (v : Nat → Int32) (a : Nat → List Int32) (v' : Nat → Int32) (a' : Nat → List Int32) (f : Nat → Int32) : Prop := (∀ j, j < 9 ∨ 13 < j → v' j = v j) ∧ (∀ j, (1 ≤ j ∧ j < 10) ∨ 15 < j → a' j = a j) ∧ (a' 0).length = 6 ∧ (∀ q, q < gpg G → (a' 0).getD q 0 = f q) ∧ jMl a'
section
variable {v v' : Nat → Int32} {a a' : Nat → List Int32} {w u : Int64} {G : jG} {f : Nat → Int32}
theorem jMt.game (hi : jMt G v a v' a' f) (h : jMG v a G) : jMG v' a' (gst G 0 f) := by
  obtain ⟨h1, h2, h3, h4, h5⟩ := hi
  unfold jMG at h ⊢
  rw [h1 1 (by omega), h1 2 (by omega), h1 3 (by omega), h1 7 (by omega), h1 4 (by omega), h1 5 (by omega), h2 1 (by omega), h2 2 (by omega), h2 3 (by omega), h2 4 (by omega), h2 5 (by omega), h2 6 (by omega), h2 7 (by omega), h2 8 (by omega)]
  obtain ⟨p, ⟨l0, l1, l2, l3, l4, l5, l6, l7, l8⟩, q0, q1, q2⟩ := h
  exact ⟨p, ⟨h3, l1, l2, l3, l4, l5, l6, l7, l8⟩, h4, q1, q2⟩
theorem jMt.up (h : jMt G v a v' a' f) {k : Nat} (hk : 10 ≤ k ∧ k ≤ 14) {l : List Int32} (hl : l.length = 6) : jMt G v a v' (jup a' k l) f := by
  obtain ⟨h1, h2, h3, h4, h0, h5, h6, h7, h8, h9⟩ := h
  refine ⟨h1, fun j hj => by rw [jup_n _ _ (by omega)]; exact h2 j hj, by rw [jup_n _ _ (by omega)]; exact h3, fun q hq => by rw [jup_n _ _ (by omega)]; exact h4 q hq, ?_⟩
  rcases (show k = 10 ∨ k = 11 ∨ k = 12 ∨ k = 13 ∨ k = 14 by omega) with e | e | e | e | e
  · subst e; exact ⟨hl, h5, h6, h7, h8, h9⟩
  · subst e; exact ⟨h0, hl, h6, h7, h8, h9⟩
  · subst e; exact ⟨h0, h5, hl, h7, h8, h9⟩
  · subst e; exact ⟨h0, h5, h6, hl, h8, h9⟩
  · subst e; exact ⟨h0, h5, h6, h7, hl, h9⟩
/-- the reaches laid by the row -/
theorem jm_layReach (h : jMG v a G) {f0 : Nat → Int32} (hms : jMt G v a v' a' f0) (h14 : a' 14 = a 0) {p : List Nat} (hp : p.length = gpg G) (hlt : ∀ k ∈ p, k < gpg G) (h12 : a' 12 = (nx_ro (gpg G) p).map nI) {c x k best : Int32} {Q : jx_Q} (fin : ∀ s : List Int32, s.length = 6 → (∀ q, q < gpg G → s.getD q 0 = grc G (p.getD q 0)) → ∀ l6, jx_W 9 jk_X7_standsNow 86 [some (.ref 0), some (.int c), some (.int x), some (.int k), some (.int best), some (.int 1), l6] [] (jM v' (jup a' 0 s) w u) Q) : jx_W 9 jk_X7_standsNow 52 [some (.ref 0), some (.int c), some (.int x), some (.int k), some (.int best), some (.int 1), some (.int (nI 0))] [] (jM v' a' w u) Q := by
  have ho := h.ok
  have hn := h.lens
  have hG := hms.game h
  obtain ⟨h1, h2, h3, h4, h5⟩ := id hms
  have loop : ∀ m i, i + m = gpg G → ∀ s : List Int32, s.length = 6 → (∀ q, q < i → s.getD q 0 = grc G (p.getD q 0)) → jx_W 9 jk_X7_standsNow 52 [some (.ref 0), some (.int c), some (.int x), some (.int k), some (.int best), some (.int 1), some (.int (nI i))] [] (jM v' (jup a' 0 s) w u) Q := by
    intro m
    induction m with
    | zero =>
      intro i hi s hs1 hs2
      have e : i = gpg G := by omega
      refine jx_auto rfl trivial ?_
      refine jx_if rfl (fun _ => ?_) (fun c1 => absurd (jc_end hG.pegs (by show gpg G ≤ i; omega) (by omega)) c1)
      exact fin s hs1 (fun q hq => hs2 q (by omega)) _
    | succ m ih =>
      intro i hi s hs1 hs2
      have hil : i < gpg G := by omega
      have hget : p[i]? = some (p.getD i 0) := by
        rw [List.getD, List.getElem?_eq_getElem (by omega)]; rfl
      have hk := hlt _ (List.mem_of_getElem? hget)
      have l12 : (a' 12).length = 6 := h5.2.2.1
      have e1 : (a' 12).getD (nI i).toNatClampNeg 0 = nI (p.getD i 0) := by
        rw [h12, nI_clamp (by omega), nx_map_get, nx_ro_get hp hil]
      have e2 : (a' 14).getD (nI (p.getD i 0)).toNatClampNeg 0 = grc G (p.getD i 0) := by
        rw [h14, nI_clamp (by omega), h.reach hk]
      refine jx_auto rfl trivial ?_
      refine jx_if rfl (fun c1 => absurd c1 (jc_on hG.pegs (by show i < gpg G; omega) (by show gpg G < _; omega))) (fun _ => ?_)
      refine jx_steps 9 rfl ⟨by show vp_in (nI i) (a' 12).length; exact vp_in_nI (by omega) (by omega), trivial⟩ ?_
      have e1' : (jup a' 0 s 12).getD (nI i).toNatClampNeg 0 = nI (p.getD i 0) := e1
      rw [e1']
      refine jx_steps 1 rfl ⟨by show vp_in (nI (p.getD i 0)) (a' 14).length; exact vp_in_nI (by have := h5.2.2.2.2.1; omega) (by have := h5.2.2.2.2.1; omega), trivial⟩ ?_
      have e2' : (jup a' 0 s 14).getD (nI (p.getD i 0)).toNatClampNeg 0 = grc G (p.getD i 0) := e2
      rw [e2']
      refine jx_steps 1 rfl ⟨by show vp_in (nI i) s.length; exact vp_in_nI (by omega) (by omega), trivial⟩ ?_
      rw [nI_clamp (by omega)]
      refine jx_steps 2 rfl trivial ?_
      rw [nI_1]
      refine jx_at (ih (i + 1) (by omega) (s.set i (grc G (p.getD i 0))) (List.length_set.trans hs1) (fun q hq => ?_)) rfl rfl rfl rfl
      by_cases e : q = i
      · rw [e, jl_getset (by omega)]
      · rw [jl_getne e]; exact hs2 q (by omega)
  refine jx_at (loop (gpg G) 0 (by omega) (a' 0) h3 (fun q hq => absurd hq (Nat.not_lt_zero q))) rfl rfl rfl ?_
  rfl
theorem jm_standsNow (h : jMG v a G) (hs : jMl a) (h9 : g9 G) (hg : 1 ≤ gpg G) {c : Nat} (hc : c < gcv G) {x k : Int32} (hk : k = 0 ∨ ∃ m, m < 6 ∧ k = nI (10 + m)) : jx_W 9 jk_X7_standsNow 0 [some (.ref 0), some (.int (nI c)), some (.int x), some (.int k), none, none, none] [] (jM v a w u) (jMr v a w u (an_row (gpg G) (st G c x) k)) := by
  have ho := h.ok
  have hn := h.lens
  have hw : ∀ i, i < 6 → ¬ (6 : Int32) ≤ nI i := by decide
  -- the answer
  have ans : ∀ v' a' (o : fmO) (l5 l6 : Option Value), jMs v a v' a' → nx_oo (gpg G) o → o = some (st G c x) → a' 13 = nx_or (gpg G) o → jx_W 9 jk_X7_standsNow 160 [some (.ref 0), some (.int (nI c)), some (.int x), some (.int k), some (.int (nx_ob o)), l5, l6] [] (jM v' a' w u) (jMr v a w u (an_row (gpg G) (st G c x) k)) := by
    intro v' a' o l5 l6 hms hoo he h13
    subst he
    have hlen := (hoo _ rfl).2.2
    refine jx_auto rfl trivial ?_
    refine jx_if rfl (fun c1 => ?_) (fun c1 => ?_)
    · obtain ⟨m, hk6, rfl⟩ := hk.resolve_left c1
      refine jx_auto rfl ⟨?_, trivial⟩ ?_
      · dsimp only
        rw [row_sub]
        exact vp_in_nI (by have := hms.2.2.2.2.2.1; omega) (by have := hms.2.2.2.2.2.1; omega)
      refine jx_done rfl trivial ⟨v', a', ?_, rfl, hms⟩
      have e13 : a' 13 = nx_bo (gpg G) (st G c x).2 := h13
      unfold an_row
      rw [if_neg c1]
      dsimp only
      rw [row_sub, nI_clamp (by omega), e13, nx_bo_get hlen hk6]
    · have c1 := Decidable.not_not.mp c1
      refine jx_auto rfl trivial ?_
      refine jx_done rfl trivial ⟨v', a', ?_, rfl, hms⟩
      unfold an_row
      rw [if_pos c1]
      rfl
  -- the reaches back
  have exit : ∀ v' a' (o : fmO) (l6 : Option Value) (f : Nat → Int32), jMt G v a v' a' f → a' 14 = a 0 → nx_oo (gpg G) o → o = some (st G c x) → a' 13 = nx_or (gpg G) o → jx_W 9 jk_X7_standsNow 130 [some (.ref 0), some (.int (nI c)), some (.int x), some (.int k), some (.int (nx_ob o)), some (.int 0), l6] [] (jM v' a' w u) (jMr v a w u (an_row (gpg G) (st G c x) k)) := by
    intro v' a' o l6 f hms h14 hoo he h13
    obtain ⟨h1, h2, h3, h4, h5⟩ := id hms
    have loop : ∀ m i, i + m = 6 → ∀ s : List Int32, s.length = 6 → (∀ q, q < i → s.getD q 0 = (a 0).getD q 0) → jx_W 9 jk_X7_standsNow 133 [some (.ref 0), some (.int (nI c)), some (.int x), some (.int k), some (.int (nx_ob o)), some (.int 0), some (.int (nI i))] [] (jM v' (jup a' 0 s) w u) (jMr v a w u (an_row (gpg G) (st G c x) k)) := by
      intro m
      induction m with
      | zero =>
        intro i hi s hs1 hs2
        have e : i = 6 := by omega
        subst e
        refine jx_auto rfl trivial ?_
        refine jx_if rfl (fun _ => ?_) (fun c1 => absurd (by decide) c1)
        have es : s = a 0 := jl_ext6 hs1 hn.1 hs2
        subst es
        refine ans v' (jup a' 0 (a 0)) o _ _ ⟨h1, fun j hj => ?_, h5⟩ hoo he h13
        by_cases e0 : j = 0
        · subst e0; rfl
        · rw [jup_n _ _ e0]; exact h2 j (by omega)
      | succ m ih =>
        intro i hi s hs1 hs2
        refine jx_auto rfl trivial ?_
        refine jx_if rfl (fun c1 => absurd c1 (hw i (by omega))) (fun _ => ?_)
        refine jx_steps 7 rfl ⟨by show vp_in (nI i) (a' 14).length; exact vp_in_nI (by have := h5.2.2.2.2.1; omega) (by have := h5.2.2.2.2.1; omega), trivial⟩ ?_
        have e2' : (jup a' 0 s 14).getD (nI i).toNatClampNeg 0 = (a 0).getD i 0 := by
          show (a' 14).getD (nI i).toNatClampNeg 0 = _
          rw [h14, nI_clamp (by omega)]
        rw [e2']
        refine jx_steps 1 rfl ⟨by show vp_in (nI i) s.length; exact vp_in_nI (by omega) (by omega), trivial⟩ ?_
        rw [nI_clamp (by omega)]
        refine jx_steps 2 rfl trivial ?_
        rw [nI_1]
        refine jx_at (ih (i + 1) (by omega) (s.set i ((a 0).getD i 0)) (List.length_set.trans hs1) (fun q hq => ?_)) rfl rfl rfl rfl
        by_cases e : q = i
        · rw [e, jl_getset (by omega)]
        · rw [jl_getne e]; exact hs2 q (by omega)
    refine jx_steps 2 rfl trivial ?_
    refine jx_at (loop 6 0 (by omega) (a' 0) h3 (fun q hq => absurd hq (Nat.not_lt_zero q))) rfl rfl rfl ?_
    rfl
  have hob : ∀ (s c2 : Nat), 0 ≤ sw2 G c x s c2 ∧ sw2 G c x s c2 ≤ 9 := sw2_b h9
  have round : ∀ (p : List Nat) (o : fmO) (v' : Nat → Int32) (a' : Nat → List Int32) (l6 : Option Value) (f : Nat → Int32), p.length = gpg G → (∀ k ∈ p, k < gpg G) → jMt G v a v' a' f → a' 11 = a 4 → a' 14 = a 0 → a' 12 = (nx_ro (gpg G) p).map nI → a' 13 = nx_or (gpg G) o → nx_oo (gpg G) o → (∀ v2 a2 l6 f, jMt G v a v2 a2 f → a2 11 = a 4 → a2 14 = a 0 → a2 12 = (nx_ro (gpg G) p).map nI → a2 13 = nx_or (gpg G) (fm_step o (pl_F (sw2 G c x) (fun s _ => s + 1) 0 p)) → nx_oo (gpg G) (fm_step o (pl_F (sw2 G c x) (fun s _ => s + 1) 0 p)) → jx_W 9 jk_X7_standsNow 117 [some (.ref 0), some (.int (nI c)), some (.int x), some (.int k), some (.int (nx_ob (fm_step o (pl_F (sw2 G c x) (fun s _ => s + 1) 0 p)))), some (.int 1), l6] [] (jM v2 a2 w u) (jMr v a w u (an_row (gpg G) (st G c x) k))) → jx_W 9 jk_X7_standsNow 44 [some (.ref 0), some (.int (nI c)), some (.int x), some (.int k), some (.int (nx_ob o)), some (.int 1), l6] [] (jM v' a' w u) (jMr v a w u (an_row (gpg G) (st G c x) k)) := by
    intro p o v' a' l6 f hp hlt hms h11 h14 h12 h13 hoo kk
    have tb := pl_tot_b (af := fun (s _ : Nat) => s + 1) hob p 0
    rw [hp] at tb
    have tb2 : 0 ≤ (pl_F (sw2 G c x) (fun s _ => s + 1) 0 p).1 ∧ (pl_F (sw2 G c x) (fun s _ => s + 1) 0 p).1 ≤ 324 := by
      refine ⟨tb.1, Int.le_trans tb.2 ?_⟩
      have : (gpg G : Int) ≤ 6 := by omega
      omega
    have hstep := nx_ob_lt hoo tb2
    have hoo2 := nx_oo_step hoo (q := pl_F (sw2 G c x) (fun s _ => s + 1) 0 p) ⟨tb2.1, tb2.2, hp⟩
    refine jx_auto rfl trivial ?_
    refine jx_if rfl (fun c1 => absurd c1 (by decide)) (fun _ => ?_)
    refine jx_steps 2 rfl trivial ?_
    refine jm_layReach h hms h14 hp hlt h12 (fun s hs1 hs2 l6 => ?_)
    obtain ⟨h1, h2, h3, h4, h5⟩ := id hms
    have hms2 : jMt G v a v' (jup a' 0 s) (fun q => grc G (p.getD q 0)) := ⟨h1, fun j hj => by rw [jup_n _ _ (by omega)]; exact h2 j hj, hs1, hs2, h5⟩
    refine jx_auto rfl trivial ?_
    refine jx_call 6 rfl (by decide) (jm_driven (hms2.game h) h5 hc) (fun r h' hq => ?_)
    obtain ⟨hb, lh, co, rfl, rfl, q1, q2, q3, q4, q5⟩ := hq
    rw [st_gain (f := fun q => grc G (p.getD q 0)) hp hlt (fun _ _ => rfl)]
    refine jx_auto rfl trivial ?_
    refine jx_callE 1 rfl (by decide) (jm_load q4 (show (a' 11).length = 6 from h5.2.1)) ?_
    have hms3 : jMt G v a (jup v' 13 lh) (jup (jup (jup (jup a' 0 s) 10 hb) 4 co) 4 (a' 11)) (fun q => grc G (p.getD q 0)) := by
      refine ⟨fun j hj => by rw [jup_n _ _ (by omega)]; exact h1 j hj, fun j hj => ?_, hs1, hs2, q1, h5.2⟩
      by_cases e : j = 4
      · subst e; exact h11
      · rw [jup_n _ _ e, jup_n _ _ e, jup_n _ _ (by omega), jup_n _ _ (by omega)]
        exact h2 j hj
    have hrow3 : ∀ j, 11 ≤ j → jup (jup (jup (jup a' 0 s) 10 hb) 4 co) 4 (a' 11) j = a' j := fun j hj => by
      rw [jup_n _ _ (by omega), jup_n _ _ (by omega), jup_n _ _ (by omega), jup_n _ _ (by omega)]
    have e12 := (hrow3 12 (by omega)).trans h12
    have e13 := (hrow3 13 (by omega)).trans h13
    have e11 := (hrow3 11 (by omega)).trans h11
    have e14 := (hrow3 14 (by omega)).trans h14
    have eW : jM (jup v' 13 lh) (jup (jup (jup (jup a' 0 s) 10 hb) 4 co) 4 (jup (jup (jup a' 0 s) 10 hb) 4 co 11)) w u = jM (jup v' 13 lh) (jup (jup (jup (jup a' 0 s) 10 hb) 4 co) 4 (a' 11)) w u := rfl
    rw [eW]
    generalize jup (jup (jup (jup a' 0 s) 10 hb) 4 co) 4 (a' 11) = a3 at hms3 hrow3 e11 e12 e13 e14 ⊢
    have hG3 := hms3.game h
    have ep : jup v' 13 lh 1 = nI (gpg G) := hG3.pegs
    refine jx_auto rfl trivial ?_
    refine jx_if rfl (fun c1 => ?_) (fun c1 => ?_)
    · rw [hstep.1 c1] at kk hoo2
      exact kk _ a3 _ _ hms3 e11 e14 e12 e13 hoo2
    · have es := hstep.2 c1
      obtain ⟨b1, b2⟩ := nx_or_ok (n := gpg G) (by omega) (o := o) (fun q hq => (hoo q hq).2.2)
      refine jx_auto rfl trivial ?_
      rw [ep]
      refine jx_callE 1 rfl (by decide) (jm_keepRowH (by omega) hp e12 (by rw [e13]; exact b1) (by rw [e13]; exact b2)) ?_
      rw [es] at kk hoo2
      exact kk _ (jup a3 13 (nx_bo (gpg G) p)) _ _ (hms3.up (by omega) (nx_bo_len hp (by omega))) e11 e14 e12 rfl hoo2
  have loop : ∀ (rest : List (List Nat)) (p : List Nat) (o : fmO) (v' : Nat → Int32) (a' : Nat → List Int32) (l6 : Option Value) (f : Nat → Int32), nx_ch (gpg G) (p :: rest) = true → jMt G v a v' a' f → a' 11 = a 4 → a' 14 = a 0 → a' 12 = (nx_ro (gpg G) p).map nI → a' 13 = nx_or (gpg G) o → nx_oo (gpg G) o → ((p :: rest).map (pl_F (sw2 G c x) (fun s _ => s + 1) 0)).foldl fm_step o = some (st G c x) → jx_W 9 jk_X7_standsNow 44 [some (.ref 0), some (.int (nI c)), some (.int x), some (.int k), some (.int (nx_ob o)), some (.int 1), l6] [] (jM v' a' w u) (jMr v a w u (an_row (gpg G) (st G c x) k)) := by
    intro rest
    induction rest with
    | nil =>
      intro p o v' a' l6 f hch hms h11 h14 h12 h13 hoo hfold
      obtain ⟨hp, hlt, -, hnx⟩ := nx_ch_at hch
      refine round p o v' a' l6 f hp hlt hms h11 h14 h12 h13 hoo (fun v2 a2 l6 f k1 k2 k3 k4 k5 k6 => ?_)
      have ep : v2 1 = nI (gpg G) := (k1.game h).pegs
      refine jx_auto rfl trivial ?_
      rw [ep]
      refine jx_callE 2 rfl (by decide) (jm_nextRowH hg (by omega) (nx_ro_good (by omega) hp hlt) k4) ?_
      rw [hnx]
      refine jx_auto rfl trivial ?_
      refine jx_if rfl (fun _ => ?_) (fun c1 => absurd rfl c1)
      have lr : ((nx_ro (gpg G) p).map nI).length = 6 := by rw [List.length_map]; exact (nx_ro_good (by omega) hp hlt).1
      exact exit v2 (jup a2 12 ((nx_ro (gpg G) p).map nI)) _ _ f (k1.up (by omega) lr) k3 k6 hfold k5
    | cons p2 rest ih =>
      intro p o v' a' l6 f hch hms h11 h14 h12 h13 hoo hfold
      obtain ⟨hp, hlt, hch2, hnx⟩ := nx_ch_at hch
      obtain ⟨hp2, hlt2, -, -⟩ := nx_ch_at hch2
      refine round p o v' a' l6 f hp hlt hms h11 h14 h12 h13 hoo (fun v2 a2 l6 f k1 k2 k3 k4 k5 k6 => ?_)
      have ep : v2 1 = nI (gpg G) := (k1.game h).pegs
      refine jx_auto rfl trivial ?_
      rw [ep]
      refine jx_callE 2 rfl (by decide) (jm_nextRowH hg (by omega) (nx_ro_good (by omega) hp hlt) k4) ?_
      dsimp only at hnx
      rw [hnx]
      refine jx_steps 2 rfl trivial ?_
      have lr : ((nx_ro (gpg G) p2).map nI).length = 6 := by rw [List.length_map]; exact (nx_ro_good (by omega) hp2 hlt2).1
      exact ih p2 _ v2 (jup a2 12 ((nx_ro (gpg G) p2).map nI)) _ f hch2 (k1.up (by omega) lr) k2 k3 rfl k5 k6 hfold
  -- the copy
  have copy : ∀ m i, i + m = 6 → ∀ s : List Int32, s.length = 6 → (∀ q, q < i → s.getD q 0 = (a 0).getD q 0) → ∀ Q : jx_Q, (∀ l4, jx_W 9 jk_X7_standsNow 30 [some (.ref 0), some (.int (nI c)), some (.int x), some (.int k), l4, none, none] [] (jM v (jup a 14 (a 0)) w u) Q) → jx_W 9 jk_X7_standsNow 3 [some (.ref 0), some (.int (nI c)), some (.int x), some (.int k), some (.int (nI i)), none, none] [] (jM v (jup a 14 s) w u) Q := by
    intro m
    induction m with
    | zero =>
      intro i hi s hs1 hs2 Q kk
      have e : i = 6 := by omega
      subst e
      refine jx_auto rfl trivial ?_
      refine jx_if rfl (fun _ => ?_) (fun c1 => absurd (by decide) c1)
      have es : s = a 0 := jl_ext6 hs1 hn.1 hs2
      subst es
      exact kk _
    | succ m ih =>
      intro i hi s hs1 hs2 Q kk
      refine jx_auto rfl trivial ?_
      refine jx_if rfl (fun c1 => absurd c1 (hw i (by omega))) (fun _ => ?_)
      refine jx_steps 7 rfl ⟨by show vp_in (nI i) (a 0).length; exact vp_in_nI (by omega) (by omega), trivial⟩ ?_
      have e2' : (jup a 14 s 0).getD (nI i).toNatClampNeg 0 = (a 0).getD i 0 := by
        show (a 0).getD (nI i).toNatClampNeg 0 = _
        rw [nI_clamp (by omega)]
      rw [e2']
      refine jx_steps 1 rfl ⟨by show vp_in (nI i) s.length; exact vp_in_nI (by omega) (by omega), trivial⟩ ?_
      rw [nI_clamp (by omega)]
      refine jx_steps 2 rfl trivial ?_
      rw [nI_1]
      refine jx_at (ih (i + 1) (by omega) (s.set i ((a 0).getD i 0)) (List.length_set.trans hs1) (fun q hq => ?_) Q kk) rfl rfl rfl rfl
      by_cases e : q = i
      · rw [e, jl_getset (by omega)]
      · rw [jl_getne e]; exact hs2 q (by omega)
  refine jx_steps 2 rfl trivial ?_
  refine jx_at (copy 6 0 (by omega) (a 14) hs.2.2.2.2.1 (fun q hq => absurd hq (Nat.not_lt_zero q)) _ (fun l4 => ?_)) rfl rfl rfl rfl
  refine jx_auto rfl trivial ?_
  refine jx_callE 1 rfl (by decide) (jm_save (by show (a 4).length = 6; omega) (by show (a 11).length = 6; exact hs.2.1)) ?_
  refine jx_auto rfl trivial ?_
  refine jx_callE 1 rfl (by decide) (jm_firstRow (by show (a 12).length = 6; exact hs.2.2.1) (by show (a 13).length = 6; exact hs.2.2.2.1)) ?_
  refine jx_steps 4 rfl trivial ?_
  have hch := nx_ch6 (gpg G) (by omega)
  have hfi := nx_first6 (gpg G) (by omega)
  have hmax := pl_max (gpg G) (sw2 G c x) (fun (s _ : Nat) => s + 1) 6 (fun _ => false) 0
  cases hL : pl_seqs (gpg G) 6 (fun _ => false) with
  | nil => rw [hL] at hfi; cases hfi
  | cons p rest =>
    rw [hL] at hch hfi hmax
    have hp0 : p = List.range (gpg G) := Option.some.inj hfi
    have e12 : (List.range 6).map nI = (nx_ro (gpg G) p).map nI := by rw [hp0, nx_range (by omega)]
    refine jx_at (loop rest p none v (jup (jup (jup (jup a 14 (a 0)) 11 (a 4)) 12 ((List.range 6).map nI)) 13 nx_b0) none (grc G) hch ?_ rfl rfl e12 rfl (fun q hq => by cases hq) hmax) rfl rfl rfl rfl
    refine ⟨fun _ _ => rfl, fun j hj => ?_, hn.1, fun q hq => h.reach hq, hs.1, hn.2.2.2.2.1, rfl, rfl, hn.1, hs.2.2.2.2.2⟩
    rw [jup_n _ _ (by omega), jup_n _ _ (by omega), jup_n _ _ (by omega), jup_n _ _ (by omega)]
end
