/-! STANDS, LaughDrive's side -/
theorem nx_ob_lt2 {o : fmO} (h : ∀ q, o = some q → 0 ≤ q.1 ∧ q.1 ≤ 324) {q : Int × List Nat} (hq : 0 ≤ q.1 ∧ q.1 ≤ 324) : (iI q.1 ≤ nx_ob o → fm_step o q = o) ∧ (¬ iI q.1 ≤ nx_ob o → fm_step o q = some q) := by
  cases o with
  | none =>
    refine ⟨fun c => ?_, fun _ => rfl⟩
    have e : (-1 : Int32) = iI (-1) := by decide
    unfold nx_ob at c
    dsimp only at c
    rw [e, iI_le (by omega) (by omega) (by omega) (by omega)] at c
    omega
  | some b =>
    obtain ⟨h1, h2⟩ := h b rfl
    unfold nx_ob fm_step
    dsimp only
    rw [iI_le (by omega) (by omega) (by omega) (by omega)]
    refine ⟨fun c => if_neg (by omega), fun c => if_pos (by omega)⟩
theorem pl_upto_P {P : Int × List Nat → Prop} {wo : Nat → Int × List Nat} {d : Nat → Bool} (h : ∀ c, P (wo c)) {i : Nat} {q : Int × List Nat} (e : pl_upto wo d i = some q) : P q := by
  obtain ⟨c, -, -, e2⟩ := pl_upto_mem e
  rw [e2]; exact h c
theorem jl_bitCount {h : jx_H} {g : Nat} (hg : g < 64) : jx_W 1 jk_J6_bitCount_0f7a4 0 [some (.int (nI g))] [] h (jx_is (some (.int (nI (bc g)))) h) := by
  refine jx_auto rfl trivial ?_
  refine jx_ends rfl trivial ?_
  refine congrArg (fun z => some (Value.int z)) ?_
  revert g
  decide +kernel
section
variable {v : Nat → Int32} {a : Nat → List Int32} {w : Int64} {G : jG}
theorem jl_sportAt (h : jLG v a G) {c : Nat} (hc : c < gcv G) {p r x : Int32} : jx_W 5 jk_X2_sportAt 0 [some (.ref 5), some (.int p), some (.int r), some (.int (nI c)), some (.int x), none] [] (jL v a w) (jx_is (some (.int (sp_by (fun b => sp_height G b c) (sp_hadN G r p c x (glg G))))) (jL v a w)) := by
  have ho := h.ok
  refine jx_auto rfl trivial ?_
  refine jx_callE 2 rfl (by decide) (jl_laughsIn h h.places) ?_
  refine jx_auto rfl trivial ?_
  refine jx_callE 4 rfl (by decide) (jl_hadAt (co := gco G) h hc) ?_
  rw [gst_co]
  refine jx_auto rfl trivial ?_
  cases hq : sp_hadN G r p c x (glg G) with
  | none =>
    refine jx_if rfl (fun c1 => absurd rfl c1) (fun _ => ?_)
    refine jx_auto rfl trivial ?_
    exact jx_ends rfl trivial
  | some b =>
    have hb := (sp_had_cand hq).1
    refine jx_if rfl (fun _ => ?_) (fun c1 => absurd (nI_ne1 (show b < 2 ^ 31 by omega)) c1)
    refine jx_auto rfl trivial ?_
    refine jx_callE 2 rfl (by decide) (jl_heightFrom_in h hb hc) ?_
    refine jx_auto rfl trivial ?_
    exact jx_ends rfl trivial
theorem jl_findNext (h : jLG v a G) (h9 : g9 G) {c : Nat} (hc : c < gcv G) {x : Int32} {g : Nat} (hg : g < 2 ^ gpg G - 1) {lw ln : List Int32} (hlw : lw.length = 64) (hln : ln.length = 64) (hW : ∀ g2, g < g2 → g2 < 2 ^ gpg G → lw.getD g2 0 = iI (sV G c x g2).1) : jx_W 6 jk_X2_findNext 0 [some (.ref 5), some (.int (nI g)), some (.int (nI c)), some (.int x), none, none, none, none] [] (jL v (jup (jup a 18 lw) 19 ln) w) (fun r h' => r = none ∧ ∃ ln', h' = jL v (jup (jup a 18 (lw.set g (iI (sV G c x g).1))) 19 ln') w ∧ ln'.length = 64 ∧ (∀ k, k ≠ g → ln'.getD k 0 = ln.getD k 0) ∧ ∀ k rest, (sV G c x g).2 = k :: rest → ln'.getD g 0 = nI k) := by
  have ho := h.ok
  have hn := h.lens
  have h64 : 2 ^ gpg G ≤ 64 := Nat.pow_le_pow_right (n := 2) (by decide) ho.1
  have hwb : ∀ k, 0 ≤ (sw G c x g k).1 ∧ (sw G c x g k).1 ≤ 324 := fun k => by have := sw_b h9 (c := c) (x := x) g k; omega
  obtain ⟨kb, hkb1, hkb2, hkb3⟩ := sw_some (c := c) (x := x) ho.1 hg
  have hsv : sV G c x g = sw G c x g kb := by rw [sV_step ho.1 hg, hkb3]; rfl
  have loop : ∀ k i, i + k = gpg G → ∀ (ln1 : List Int32) (z7 : Option Value), ln1.length = 64 → (∀ k, k ≠ g → ln1.getD k 0 = ln.getD k 0) → (∀ q, pl_upto (sw G c x g) (tb g) i = some q → ∃ k rest, q.2 = k :: rest ∧ ln1.getD g 0 = nI k) → jx_W 6 jk_X2_findNext 12 [some (.ref 5), some (.int (nI g)), some (.int (nI c)), some (.int x), some (.int (nI (bc g))), some (.int (nx_ob (pl_upto (sw G c x g) (tb g) i))), some (.int (nI i)), z7] [] (jL v (jup (jup a 18 lw) 19 ln1) w) (fun r h' => r = none ∧ ∃ ln', h' = jL v (jup (jup a 18 (lw.set g (iI (sV G c x g).1))) 19 ln') w ∧ ln'.length = 64 ∧ (∀ k, k ≠ g → ln'.getD k 0 = ln.getD k 0) ∧ ∀ k rest, (sV G c x g).2 = k :: rest → ln'.getD g 0 = nI k) := by
    intro k
    induction k with
    | zero =>
      intro i hi ln1 z7 h1 h2 h3
      have e : i = gpg G := by omega
      subst e
      refine jx_auto rfl trivial ?_
      refine jx_if rfl (fun _ => ?_) (fun c1 => absurd (jc_end h.pegs (by omega) (by omega)) c1)
      rw [hkb3] at h3 ⊢
      refine jx_auto rfl trivial ?_
      refine jx_callE 1 rfl (by decide) (jr_set_in (k := g) (q := 27) (l := lw) (by omega) (by omega) rfl rfl) ?_
      refine jx_done rfl trivial ⟨rfl, ln1, ?_, h1, h2, fun k rest e => ?_⟩
      · rw [hsv]; rfl
      · obtain ⟨k2, r2, e2, e3⟩ := h3 _ rfl
        rw [hsv, e2] at e
        obtain ⟨rfl, rfl⟩ := List.cons.inj e
        exact e3
    | succ k ih =>
      intro i hi ln1 z7 h1 h2 h3
      have hil : i < gpg G := by omega
      have hG1 : jLG v (jup (jup a 18 lw) 19 ln1) G := h
      have htst := jb_tst (m := g) (l := i) (by omega) (by omega)
      refine jx_auto rfl trivial ?_
      refine jx_if rfl (fun c1 => absurd c1 (jc_on h.pegs (by omega) (by omega))) (fun _ => ?_)
      refine jx_auto rfl trivial ?_
      dsimp only
      rw [htst]
      by_cases hd : g.testBit i = true
      · rw [if_pos hd]
        refine jx_if rfl (fun _ => ?_) (fun c1 => absurd (show ¬ (1 : Int32) = 0 by decide) c1)
        have e : pl_upto (sw G c x g) (tb g) (i + 1) = pl_upto (sw G c x g) (tb g) i := by rw [pl_upto, if_pos (show tb g i = true from hd)]
        refine jx_steps 2 rfl trivial ?_
        rw [nI_1, ← e]
        exact ih (i + 1) (by omega) ln1 z7 h1 h2 (by rw [e]; exact h3)
      · rw [if_neg hd]
        refine jx_if rfl (fun c1 => absurd rfl c1) (fun _ => ?_)
        have hd : g.testBit i = false := by simpa using hd
        have e : pl_upto (sw G c x g) (tb g) (i + 1) = fm_step (pl_upto (sw G c x g) (tb g) i) (sw G c x g i) := by rw [pl_upto, if_neg (by show ¬ g.testBit i = true; rw [hd]; decide)]
        have hbk := bc_k g (by omega) i (by omega) hd
        have hork := or_k (gpg G) (by omega) g (by omega) i hil
        have hstep := nx_ob_lt2 (o := pl_upto (sw G c x g) (tb g) i) (fun q hq => pl_upto_P (P := fun q => 0 ≤ q.1 ∧ q.1 ≤ 324) hwb hq) (hwb i)
        refine jx_auto rfl trivial ?_
        refine jx_callE 1 rfl (by decide) (jr_at (q := 8) (l := a 1) (by omega) rfl rfl) ?_
        rw [h.atReach hil]
        refine jx_auto rfl trivial ?_
        refine jx_callE 5 rfl (by decide) (jl_sportAt hG1 hc) ?_
        refine jx_auto rfl trivial ?_
        dsimp only
        rw [jb_one i (by omega), jb_or]
        refine jx_callE 1 rfl (by decide) (jr_at (q := 27) (l := lw) (by omega) rfl rfl) ?_
        rw [jp_at_in (by omega) (by omega), hW _ hbk.2.2 hork]
        have ew : sp_by (fun b => sp_height G b c) (sp_hadN G (grc G i) (nI (bc g)) c x (glg G)) + iI (sV G c x (g ||| 2 ^ i)).1 = iI (sw G c x g i).1 := by
          unfold sw sw2
          dsimp only
          rw [if_pos hil, ← iI_add, iI_to]
        refine jx_auto rfl trivial ?_
        dsimp only
        rw [ew]
        refine jx_if rfl (fun c1 => ?_) (fun c1 => ?_)
        · have es := hstep.1 c1
          rw [es] at e
          have z := fun z7 => ih (i + 1) (by omega) ln1 z7 h1 h2 (by rw [e]; exact h3)
          rw [e] at z
          refine jx_steps 2 rfl trivial ?_
          rw [nI_1]
          exact z _
        · have es := hstep.2 c1
          rw [es] at e
          refine jx_auto rfl trivial ?_
          refine jx_callE 1 rfl (by decide) (jr_set_in (k := g) (q := 29) (l := ln1) (by omega) (by omega) rfl rfl) ?_
          have z := fun z7 => ih (i + 1) (by omega) (ln1.set g (nI i)) z7 (List.length_set.trans h1) (fun k hk => by rw [jl_getne hk, h2 k hk]) (fun q hq => by
            rw [e] at hq
            rw [← Option.some.inj hq]
            exact ⟨i, _, rfl, jl_getset (by omega)⟩)
          rw [e] at z
          refine jx_steps 2 rfl trivial ?_
          rw [nI_1]
          exact jx_at (z _) rfl rfl rfl rfl
  refine jx_auto rfl trivial ?_
  refine jx_callE 1 rfl (by decide) (jl_bitCount (show g < 64 by omega)) ?_
  refine jx_steps 5 rfl trivial ?_
  exact loop (gpg G) 0 (by omega) ln none hln (fun _ _ => rfl) (fun q hq => by cases hq)
/-- the tables are right from j on -/
def sT (G : jG) (c : Nat) (x : Int32) (lw ln : List Int32) (j : Nat) : Prop := lw.length = 64 ∧ ln.length = 64 ∧ ∀ g, j ≤ g → g < 2 ^ gpg G → lw.getD g 0 = iI (sV G c x g).1 ∧ ∀ k rest, (sV G c x g).2 = k :: rest → ln.getD g 0 = nI k
theorem jl_findStands (h : jLG v a G) (h9 : g9 G) (hl : jLl a) {c : Nat} (hc : c < gcv G) {x : Int32} : jx_W 7 jk_X2_findStands 0 [some (.ref 5), some (.int (nI c)), some (.int x), none, none] [] (jL v a w) (fun r h' => r = none ∧ ∃ lw ln, h' = jL v (jup (jup a 18 lw) 19 ln) w ∧ sT G c x lw ln 0) := by
  have ho := h.ok
  have h64 : 2 ^ gpg G ≤ 64 := Nat.pow_le_pow_right (n := 2) (by decide) ho.1
  have h1 : 1 ≤ 2 ^ gpg G := Nat.one_le_two_pow
  have eall : (1 : Int32) <<< (nI (gpg G) &&& 31) - 1 = nI (2 ^ gpg G - 1) := by
    rw [jb_one _ (by omega), show 2 ^ gpg G = 2 ^ gpg G - 1 + 1 by omega, nI_pred]
    rfl
  have loop : ∀ j, j ≤ 2 ^ gpg G - 1 → ∀ (lw ln : List Int32), sT G c x lw ln j → jx_W 7 jk_X2_findStands 26 [some (.ref 5), some (.int (nI c)), some (.int x), some (.int (nI (2 ^ gpg G - 1))), some (.int (nI j - 1))] [] (jL v (jup (jup a 18 lw) 19 ln) w) (fun r h' => r = none ∧ ∃ lw ln, h' = jL v (jup (jup a 18 lw) 19 ln) w ∧ sT G c x lw ln 0) := by
    intro j
    induction j with
    | zero =>
      intro hj lw ln hT
      refine jx_auto rfl trivial ?_
      refine jx_if rfl (fun _ => ?_) (fun c1 => absurd (by decide) c1)
      exact jx_done rfl trivial ⟨rfl, lw, ln, rfl, hT⟩
    | succ j ih =>
      intro hj lw ln hT
      rw [nI_pred]
      refine jx_auto rfl trivial ?_
      refine jx_if rfl (fun c1 => absurd c1 (nI_pos (by omega))) (fun _ => ?_)
      refine jx_auto rfl trivial ?_
      refine jx_call 6 rfl (by decide) (jl_findNext h h9 hc (g := j) (by omega) hT.1 hT.2.1 (fun g2 q1 q2 => (hT.2.2 g2 q1 q2).1)) (fun r h' hq => ?_)
      obtain ⟨rfl, ln', rfl, q1, q2, q3⟩ := hq
      refine jx_steps 2 rfl trivial ?_
      rw [← Int32.sub_eq_add_neg]
      refine ih (by omega) _ _ ⟨List.length_set.trans hT.1, q1, fun g hg1 hg2 => ?_⟩
      by_cases e : g = j
      · subst e
        exact ⟨jl_getset (by have := hT.1; omega), q3⟩
      · obtain ⟨r1, r2⟩ := hT.2.2 g (by omega) hg2
        exact ⟨by rw [jl_getne e]; exact r1, fun k rest e2 => by rw [q2 g e]; exact r2 k rest e2⟩
  refine jx_auto rfl trivial ?_
  dsimp only
  rw [show v 8 = nI (gpg G) from h.pegs, eall]
  refine jx_callE 1 rfl (by decide) (jr_set_in (k := 2 ^ gpg G - 1) (q := 27) (l := a 18) (by have := hl.2.1; omega) (by have := hl.2.1; omega) rfl rfl) ?_
  refine jx_steps 4 rfl trivial ?_
  refine jx_at (loop (2 ^ gpg G - 1) (Nat.le_refl _) ((a 18).set (2 ^ gpg G - 1) 0) (a 19) ⟨List.length_set.trans hl.2.1, hl.2.2, fun g hg1 hg2 => ?_⟩) rfl rfl rfl rfl
  have e : g = 2 ^ gpg G - 1 := by omega
  subst e
  rw [sV_end ho.1]
  exact ⟨jl_getset (by have := hl.2.1; omega), fun k rest e => by cases e⟩
end
