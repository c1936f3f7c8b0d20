/-! a drive, on LaughDrive's side -/
def sp_bag (G : jG) (c : Nat) (x : Int32) (p : Nat) : Int32 := gbg G p + sp_by (fun _ => 1) (sp_had G p c x)
def up_drive (G : jG) (c : Nat) (x : Int32) : jG := (G.1, jup (jup (jup G.2 1 (sp_bag G c x)) 5 (sp_after G c x)) 9 (jup (jup (gno G) 0 (gno G 0 + sp_gain G c x)) 1 (gno G 1 + 1)))
section
variable {v : Nat → Int32} {a : Nat → List Int32} {w u : Int64} {G : jG}
theorem gst_co : gst G 5 (gco G) = G := by
  have : jup G.2 5 (G.2 5) = G.2 := by
    funext k
    by_cases e : k = 5
    · subst e; exact jup_s _ _ _
    · exact jup_n _ _ e
  show (G.1, jup G.2 5 (G.2 5)) = G
  rw [this]
/-- who is had, told by the places before and behind -/
theorem sp_had_places (hok : gok G) (hco : gcok G) {c : Nat} (hc : c < gcv G) {x : Int32} {l : Nat} (hl : l < glg G) : (gco G l ≠ -1 ∧ sp_after G c x l = -1) ↔ sp_taken G c x (gpg G) l = true := by
  obtain ⟨o1, o2, o3, o4⟩ := hok
  unfold sp_after
  constructor
  · rintro ⟨h1, h2⟩
    by_cases e : gco G l = nI c
    · rw [if_pos e] at h2
      by_cases t : sp_taken G c x (gpg G) l = true
      · exact t
      · rw [if_neg t] at h2
        exact absurd h2 (nI_ne1 (by unfold sp_next; split <;> omega))
    · rw [if_neg e] at h2; exact absurd h2 h1
  · intro t
    obtain ⟨p, -, hp⟩ := sp_taken_iff.mp t
    have e := (sp_had_of hp).2.1
    rw [if_pos e, if_pos t, e]
    exact ⟨nI_ne1 (by omega), rfl⟩
/-- the bag of a peg, when the laughs below i are counted -/
def sp_bagN (G : jG) (c : Nat) (x : Int32) (i p : Nat) : Int32 := gbg G p + sp_sum (fun l => if sp_taken G c x (gpg G) l = true ∧ sp_peg G l (nI c) x = nI p then 1 else 0) i
theorem sp_bagN_end (hok : gok G) {c : Nat} {x : Int32} {p : Nat} (hp : p < gpg G) : sp_bagN G c x (glg G) p = sp_bag G c x p := by
  obtain ⟨o1, o2, o3, o4⟩ := hok
  unfold sp_bagN sp_bag
  congr 1
  have uniq : ∀ l, sp_taken G c x (gpg G) l = true ∧ sp_peg G l (nI c) x = nI p → sp_had G p c x = some l := by
    rintro l ⟨t, e⟩
    obtain ⟨q, hq, hq2⟩ := sp_taken_iff.mp t
    have e2 := (sp_had_of hq2).2.2.1
    rw [e] at e2
    have := (nI_eq (by omega) (by omega)).mp e2
    subst this; exact hq2
  cases hh : sp_had G p c x with
  | none =>
    rw [sp_sum_congr (g := fun _ => 0) (fun k _ => if_neg (fun z => by have := uniq k z; rw [hh] at this; cases this)), sp_sum_zero]
    rfl
  | some b =>
    have hb := sp_had_of hh
    rw [sp_sum_congr (g := fun l => (fun _ => (0 : Int32)) l + if l = b then 1 else 0) (fun k _ => ?_), sp_sum_one hb.1, sp_sum_zero]
    · show (0 : Int32) + 1 = 1; rfl
    · show _ = (0 : Int32) + if k = b then 1 else 0
      rw [Int32.zero_add]
      by_cases e : k = b
      · subst e
        rw [if_pos rfl, if_pos ⟨sp_taken_iff.mpr ⟨p, hp, hh⟩, hb.2.2.1⟩]
      · rw [if_neg e, if_neg (fun z => e (by have := uniq k z; rw [hh] at this; exact (Option.some.inj this).symm))]
theorem jLG_drive (h : jLG v a G) {c : Nat} {x P : Int32} {lb : List Int32} (hP : jpk P (sp_after G c x) (glg G)) (hl : lb.length = 6) (hb : ∀ p, p < gpg G → lb.getD p 0 = sp_bag G c x p) : jLG (jup (jup (jup v 12 (v 12 + sp_gain G c x)) 11 P) 13 (v 13 + 1)) (jup a 2 lb) (up_drive G c x) := by
  obtain ⟨n0, ⟨l0, l1, l2, l3, l4, l5, l6, l7⟩, h0, h1, h2, h3, h4, h5, h6, h7, hp, hr1, hr2⟩ := h
  refine ⟨n0, ⟨l0, hl, l2, l3, l4, l5, l6, l7⟩, h0, hb, h2, h3, h4, h5, h6, h7, hP, ?_, ?_⟩
  · show v 12 + sp_gain G c x = gno G 0 + sp_gain G c x
    rw [show v 12 = gno G 0 from hr1]
  · show v 13 + 1 = gno G 1 + 1
    rw [show v 13 = gno G 1 from hr2]
theorem jl_driveNow (h : jLG v a G) (hco : gcok G) {c : Nat} (hc : c < gcv G) {x : Int32} : jx_W 6 jk_X0_driveNow 0 [some (.ref 6), some (.int (nI c)), some (.int x), none, none, none, none] [] (jL v a w) (jLz v a w (sp_many G c x) (up_drive G c x)) := by
  have ho := h.ok
  have hn := h.lens
  refine jx_auto rfl trivial ?_
  refine jx_call 5 rfl (by decide) (jl_placesAfter h h.places hc) (fun r h' hq => ?_)
  obtain ⟨P, rfl, rfl, hP⟩ := hq
  rw [gst_co] at hP
  have hcount : sp_sum (fun l => if sp_taken G c x (gpg G) l = true then (1 : Int32) else 0) (glg G) = sp_many G c x := sp_swap (fun _ => 1) ho.1
  have loop : ∀ k i, i + k = glg G → ∀ (lb : List Int32) (z : Option Value), lb.length = 6 → (∀ p, p < gpg G → lb.getD p 0 = sp_bagN G c x i p) → jx_W 6 jk_X0_driveNow 17 [some (.ref 6), some (.int (nI c)), some (.int x), some (.int P), some (.int (sp_sum (fun l => if sp_taken G c x (gpg G) l = true then (1 : Int32) else 0) i)), some (.int (nI i)), z] [] (jL v (jup a 2 lb) w) (jLz v a w (sp_many G c x) (up_drive G c x)) := by
    intro k
    induction k with
    | zero =>
      intro i hi lb z hl hb
      have e : i = glg G := by omega
      subst e
      have hpl : jpk (v 11) (gco G) (glg G) := h.places
      have hlb : jLG v (jup a 2 lb) (gst G 1 (sp_bagN G c x (glg G))) := by
        obtain ⟨n0, ⟨l0, l1, l2, l3, l4, l5, l6, l7⟩, h0, h1, h2, h3, h4, h5, h6, h7, hr⟩ := h
        exact ⟨n0, ⟨l0, hl, l2, l3, l4, l5, l6, l7⟩, h0, hb, h2, h3, h4, h5, h6, h7, hr⟩
      refine jx_auto rfl trivial ?_
      refine jx_if rfl (fun _ => ?_) (fun c1 => absurd (jc_end h.laughs (by omega) (by omega)) c1)
      refine jx_auto rfl trivial ?_
      refine jx_callE 3 rfl (by decide) (jl_sportOf hlb hpl hP) ?_
      have es : sp_sum (sp_hadB (gst G 1 (sp_bagN G c x (glg G))) (gco G) (sp_after G c x)) (glg (gst G 1 (sp_bagN G c x (glg G)))) = sp_gain G c x := by
        have := sp_sport (G := G) (co := gco G) (x := x) ⟨ho.1, ho.2.1, ho.2.2.1, ho.2.2.2⟩ hc
        rw [gst_co] at this
        exact this
      rw [es]
      refine jx_auto rfl trivial ?_
      refine jx_done rfl trivial ⟨jup (jup (jup v 12 (v 12 + sp_gain G c x)) 11 P) 13 (v 13 + 1), jup a 2 lb, ?_, rfl, jLG_drive h hP hl (fun p hp => by rw [hb p hp, sp_bagN_end ⟨ho.1, ho.2.1, ho.2.2.1, ho.2.2.2⟩ hp]), fun j hj => ?_, fun j hj => jup_n _ _ (by omega)⟩
      · rw [hcount]
      · rw [jup_n _ _ (by omega), jup_n _ _ (by omega), jup_n _ _ (by omega)]
    | succ k ih =>
      intro i hi lb z hl hb
      have hil : i < glg G := by omega
      have hpl : jpk (v 11) (gco G) (glg G) := h.places
      have hlb : jLG v (jup a 2 lb) (gst G 1 (sp_bagN G c x i)) := by
        obtain ⟨n0, ⟨l0, l1, l2, l3, l4, l5, l6, l7⟩, h0, h1, h2, h3, h4, h5, h6, h7, hr⟩ := h
        exact ⟨n0, ⟨l0, hl, l2, l3, l4, l5, l6, l7⟩, h0, hb, h2, h3, h4, h5, h6, h7, hr⟩
      refine jx_auto rfl trivial ?_
      refine jx_if rfl (fun c1 => absurd c1 (jc_on h.laughs (by omega) (by omega))) (fun _ => ?_)
      refine jx_auto rfl trivial ?_
      refine jx_callE 2 rfl (by decide) (jl_isHad ho.2.2.1 hpl hP hil) ?_
      have iff := sp_had_places ⟨ho.1, ho.2.1, ho.2.2.1, ho.2.2.2⟩ hco hc (x := x) hil
      refine jx_if rfl (fun c1 => ?_) (fun c1 => ?_)
      · have ht : ¬ sp_taken G c x (gpg G) i = true := fun t => by rw [if_pos (iff.mpr t)] at c1; cases c1
        have z2 := ih (i + 1) (by omega) lb z hl (fun p hp => by rw [hb p hp]; unfold sp_bagN; rw [sp_sum, if_neg (fun q => ht q.1), Int32.add_zero])
        rw [sp_sum, if_neg ht, Int32.add_zero, ← nI_1] at z2
        exact jx_steps 2 rfl trivial z2
      · have ht : sp_taken G c x (gpg G) i = true := by
          by_cases t : sp_taken G c x (gpg G) i = true
          · exact t
          · exact absurd (if_neg (fun q => t (iff.mp q))) c1
        obtain ⟨q, hq, hq2⟩ := sp_taken_iff.mp ht
        have hpeg := (sp_had_of hq2).2.2.1
        refine jx_auto rfl trivial ?_
        refine jx_callE 3 rfl (by decide) (jl_pegFrom_in hlb hil hc) ?_
        rw [show sp_peg (gst G 1 (sp_bagN G c x i)) i (nI c) x = nI q from hpeg]
        refine jx_auto rfl trivial ?_
        refine jx_callE 1 rfl (by decide) (jr_at (q := 10) (l := lb) (by omega) rfl rfl) ?_
        rw [jp_at_in (by omega) (by omega)]
        refine jx_auto rfl trivial ?_
        refine jx_callE 1 rfl (by decide) (jr_set_in (k := q) (q := 10) (l := lb) (by omega) (by omega) rfl rfl) ?_
        have z2 := ih (i + 1) (by omega) (lb.set q (lb.getD q 0 + 1)) (some (.int (nI q))) (List.length_set.trans hl) (fun p hp => by
          unfold sp_bagN
          rw [sp_sum, ← Int32.add_assoc]
          have hb' := hb p hp
          unfold sp_bagN at hb'
          by_cases e : p = q
          · subst e
            rw [jl_getset (by omega), if_pos ⟨ht, hpeg⟩, hb']
          · rw [jl_getne e, if_neg (fun y => e (by have := y.2; rw [hpeg] at this; exact ((nI_eq (by omega) (by omega)).mp this).symm)), Int32.add_zero, hb'])
        rw [sp_sum, if_pos ht, ← nI_1] at z2
        refine jx_steps 3 rfl trivial ?_
        exact jx_at z2
  exact jx_steps 5 rfl trivial (loop (glg G) 0 (by omega) (a 2) none hn.2.1 (fun p hp => by rw [show (a 2).getD p 0 = gbg G p from h.bag hp]; unfold sp_bagN; rw [sp_sum, Int32.add_zero]))
end
