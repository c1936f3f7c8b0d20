/-! what the rest comes to: LaughDrive's recursion -/
def an_any (o : fmO) : Int32 := match o with
  | none => 0
  | some _ => 1
theorem pl_upto_mem {wo : Nat → Int × List Nat} {d : Nat → Bool} : ∀ {i : Nat} {q : Int × List Nat}, pl_upto wo d i = some q → ∃ c, c < i ∧ d c = false ∧ q = wo c
  | 0, q, e => by cases e
  | i + 1, q, e => by
    rw [pl_upto] at e
    by_cases hd : d i = true
    · rw [if_pos hd] at e
      obtain ⟨c, h1, h2, h3⟩ := pl_upto_mem e
      exact ⟨c, by omega, h2, h3⟩
    · rw [if_neg hd] at e
      have hd : d i = false := by simpa using hd
      cases h0 : pl_upto wo d i with
      | none =>
        rw [h0] at e
        have e2 : wo i = q := Option.some.inj e
        exact ⟨i, by omega, hd, e2.symm⟩
      | some b =>
        obtain ⟨c, h1, h2, h3⟩ := pl_upto_mem h0
        rw [h0] at e
        unfold fm_step at e
        by_cases hlt : b.1 < (wo i).1
        · simp only [hlt, if_true, Option.some.injEq] at e
          exact ⟨i, by omega, hd, e.symm⟩
        · simp only [hlt, if_false, Option.some.injEq] at e
          exact ⟨c, by omega, h2, e.symm.trans h3⟩
theorem jms_add {x : Int32} {d : Nat → Bool} (h : jms x d) {c : Nat} (hc : c < 6) : jms (x ||| ((1 : Int32) <<< (nI c &&& 31))) (pl_add d c) := jms_congr (jms_or h hc) (fun l _ => by
  unfold pl_add
  by_cases e : c = l
  · subst e; simp
  · have : Nat.beq l c = false := by
      cases hb : Nat.beq l c with
      | false => rfl
      | true => exact absurd (Nat.eq_of_beq_eq_true hb).symm e
    simp [this, e])
section
variable {v : Nat → Int32} {a : Nat → List Int32} {w : Int64} {G : jG}
/-- what a round of worthOfRest leaves: its row has the first number at its turn -/
def jLw (v : Nat → Int32) (a : Nat → List Int32) (w : Int64) (t : Nat) (l : List Int32) (V : Int × List Nat) : jx_Q := fun r h' => ∃ l' : List Int32, r = some (.int (iI V.1)) ∧ h' = jL v (jup a 17 l') w ∧ l'.length = 4 ∧ (∀ k, k < t → l'.getD k 0 = l.getD k 0) ∧ ∀ c rest, V.2 = c :: rest → l'.getD t 0 = nI c
theorem jl_worth (h : jLG v a G) (h9 : g9 G) {sg : Int} (hsg : sg = 1 ∨ sg = -1) {x : Int32} : ∀ (f t : Nat), f + t = 4 → ∀ (P : Int32) (co : Nat → Int32) (d : Nat → Bool) (dr : Int32) (l : List Int32), jpk P co (glg G) → jms dr d → l.length = 4 → jx_W (6 + f) jk_X2_worthOfRest 0 [some (.ref 5), some (.int P), some (.int dr), some (.int x), some (.int (iI sg)), some (.int (nI t)), none, none, none, none, none, none, none] [] (jL v (jup a 17 l) w) (jLw v a w t l (pl_best (gcv G) (og G x) (oa G x) sg f d co)) := by
  have ho := h.ok
  have hob := og_b h9 ho.1 x
  intro f
  induction f with
  | zero =>
    intro t ht P co d dr l hP hd hl
    have e : t = 4 := by omega
    subst e
    refine jx_auto rfl trivial ?_
    refine jx_if rfl (fun c1 => absurd c1 (by decide)) (fun _ => ?_)
    refine jx_auto rfl trivial ?_
    exact jx_done rfl trivial ⟨l, rfl, rfl, hl, fun _ _ => rfl, fun c rest e => by cases e⟩
  | succ f ih =>
    intro t ht P co d dr l hP hd hl
    obtain ⟨wo, hwo⟩ : ∃ wo : Nat → Int × List Nat, wo = fun c => (og G x co c + sg * (pl_best (gcv G) (og G x) (oa G x) sg f (pl_add d c) (oa G x co c)).1, c :: (pl_best (gcv G) (og G x) (oa G x) sg f (pl_add d c) (oa G x co c)).2) := ⟨_, rfl⟩
    have hbest : pl_best (gcv G) (og G x) (oa G x) sg (f + 1) d co = pl_get (pl_upto wo d (gcv G)) := by rw [pl_best, hwo]
    have hwb : ∀ c, -324 ≤ (wo c).1 ∧ (wo c).1 ≤ 324 := by
      intro c
      rw [hwo]
      have h1 := hob co c
      have h2 := pl_best_b (n := gcv G) (af := oa G x) hsg hob f (pl_add d c) (oa G x co c)
      have h3 : (54 : Int) * f ≤ 54 * 4 := by omega
      dsimp only
      rcases hsg with hs | hs
      · subst hs; rw [Int.one_mul]; omega
      · subst hs; rw [Int.neg_mul, Int.one_mul]; omega
    rw [hbest]
    have loop : ∀ k i, i + k = gcv G → ∀ (l1 : List Int32) (z10 z11 z12 : Option Value), l1.length = 4 → (∀ k, k < t → l1.getD k 0 = l.getD k 0) → (∀ q, pl_upto wo d i = some q → ∃ c rest, q.2 = c :: rest ∧ l1.getD t 0 = nI c) → jx_W (6 + (f + 1)) jk_X2_worthOfRest 27 [some (.ref 5), some (.int P), some (.int dr), some (.int x), some (.int (iI sg)), some (.int (nI t)), some (.ref 6), some (.int (iI (pl_get (pl_upto wo d i)).1)), some (.int (an_any (pl_upto wo d i))), some (.int (nI i)), z10, z11, z12] [] (jL v (jup a 17 l1) w) (jLw v a w t l (pl_get (pl_upto wo d (gcv G)))) := by
      intro k
      induction k with
      | zero =>
        intro i hi l1 z10 z11 z12 hl1 hk1 ht1
        have e : i = gcv G := by omega
        subst e
        refine jx_auto rfl trivial ?_ (by omega)
        refine jx_if rfl (fun _ => ?_) (fun c1 => absurd (jc_end h.coverts (by omega) (by omega)) c1)
        refine jx_auto rfl trivial ?_ (by omega)
        refine jx_done rfl trivial ⟨l1, rfl, rfl, hl1, hk1, fun c rest e => ?_⟩
        cases ho2 : pl_upto wo d (gcv G) with
        | none => rw [ho2] at e; cases e
        | some q =>
          obtain ⟨c2, r2, e2, e3⟩ := ht1 q ho2
          rw [ho2] at e
          have e4 : q.2 = c :: rest := e
          rw [e2] at e4
          obtain ⟨rfl, rfl⟩ := List.cons.inj e4
          exact e3
      | succ k ihk =>
        intro i hi l1 z10 z11 z12 hl1 hk1 ht1
        have hil : i < gcv G := by omega
        have hin := jms_in hd (show i < 6 by omega)
        refine jx_auto rfl trivial ?_ (by omega)
        refine jx_if rfl (fun c1 => absurd c1 (jc_on h.coverts (by omega) (by omega))) (fun _ => ?_)
        refine jx_auto rfl trivial ?_ (by omega)
        dsimp only
        rw [hin]
        by_cases hdi : d i = true
        · rw [if_pos hdi]
          refine jx_if rfl (fun _ => ?_) (fun c1 => absurd (show ¬ (1 : Int32) = 0 by decide) c1)
          have e : pl_upto wo d (i + 1) = pl_upto wo d i := by rw [pl_upto, if_pos hdi]
          refine jx_steps 2 rfl trivial ?_ (by omega)
          rw [nI_1, ← e]
          exact ihk (i + 1) (by omega) l1 z10 z11 z12 hl1 hk1 (by rw [e]; exact ht1)
        · rw [if_neg hdi]
          refine jx_if rfl (fun c1 => absurd rfl c1) (fun _ => ?_)
          have e : pl_upto wo d (i + 1) = fm_step (pl_upto wo d i) (wo i) := by rw [pl_upto, if_neg hdi]
          have hob2 := pl_upto_b (d := d) hwb i
          have hG1 : jLG v (jup a 17 l1) G := h
          refine jx_auto rfl trivial ?_ (by omega)
          refine jx_call 5 rfl (by omega) (jl_placesAfter hG1 hP hil) (fun r h' hq => ?_)
          obtain ⟨P', rfl, rfl, hP'⟩ := hq
          have hP' : jpk P' (oa G x co i) (glg G) := hP'
          refine jx_auto rfl trivial ?_ (by omega)
          refine jx_call (6 + f) rfl (by omega) (jx_at (ih (t + 1) (by omega) P' _ _ _ l1 hP' (jms_add hd (show i < 6 by omega)) hl1) rfl (by dsimp only; rw [nI_1])) (fun r h' hq => ?_)
          obtain ⟨l2, rfl, rfl, hl2, hk2, -⟩ := hq
          have hG2 : jLG v (jup a 17 l2) G := h
          refine jx_auto rfl trivial ?_ (by omega)
          refine jx_callE 3 rfl (by omega) (jl_sportOf hG2 hP hP') ?_
          rw [show sp_sum (sp_hadB G co (oa G x co i)) (glg G) = sp_gain (gst G 5 co) i x from sp_sport ⟨ho.1, ho.2.1, ho.2.2.1, ho.2.2.2⟩ hil]
          have ew : sp_gain (gst G 5 co) i x + iI sg * iI (pl_best (gcv G) (og G x) (oa G x) sg f (pl_add d i) (oa G x co i)).1 = iI (wo i).1 := by
            rw [og_i, iI_mul, iI_add, hwo]
          -- it is the better one
          have take : fm_step (pl_upto wo d i) (wo i) = some (wo i) → ∀ z10 z11, jx_W (6 + (f + 1)) jk_X2_worthOfRest 106 [some (.ref 5), some (.int P), some (.int dr), some (.int x), some (.int (iI sg)), some (.int (nI t)), some (.ref 6), some (.int (iI (pl_get (pl_upto wo d i)).1)), some (.int (an_any (pl_upto wo d i))), some (.int (nI i)), z10, z11, some (.int (iI (wo i).1))] [] (jL v (jup a 17 l2) w) (jLw v a w t l (pl_get (pl_upto wo d (gcv G)))) := by
            intro es z10 z11
            refine jx_auto rfl trivial ?_ (by omega)
            refine jx_callE 1 rfl (by omega) (jr_set_in (k := t) (q := 25) (l := l2) (by omega) (by omega) rfl rfl) ?_
            refine jx_steps 2 rfl trivial ?_ (by omega)
            rw [nI_1]
            refine jx_at (ihk (i + 1) (by omega) (l2.set t (nI i)) z10 z11 (some (.int (iI (wo i).1))) (List.length_set.trans hl2) (fun k hk => ?_) (fun q hq => ?_)) rfl ?_ rfl rfl
            · rw [jl_getne (by omega), hk2 k (by omega), hk1 k hk]
            · rw [e, es] at hq
              rw [← Option.some.inj hq]
              refine ⟨i, _, by rw [hwo], ?_⟩
              rw [jl_getset (by omega)]
            · rw [e, es]; rfl
          refine jx_auto rfl trivial ?_ (by omega)
          dsimp only
          rw [ew]
          cases ho2 : pl_upto wo d i with
          | none =>
            rw [ho2] at take e
            refine jx_if rfl (fun _ => ?_) (fun c1 => absurd rfl c1)
            exact take rfl _ _
          | some b =>
            rw [ho2] at take e
            have hb := hob2 b ho2
            refine jx_if rfl (fun c1 => absurd (show (1 : Int32) = 0 from c1) (by decide)) (fun _ => ?_)
            refine jx_auto rfl trivial ?_ (by omega)
            refine jx_if rfl (fun c1 => ?_) (fun c1 => ?_)
            · have c2 : ¬ b.1 < (wo i).1 := by
                have c3 : iI (wo i).1 ≤ iI b.1 := c1
                rw [iI_le (by have := hwb i; omega) (by have := hwb i; omega) (by omega) (by omega)] at c3
                omega
              have es : fm_step (some b) (wo i) = some b := if_neg c2
              rw [es] at e
              refine jx_steps 2 rfl trivial ?_ (by omega)
              rw [nI_1]
              obtain ⟨c3, r3, e3, e4⟩ := ht1 b ho2
              have z := fun (z10 z11 z12 : Option Value) => ihk (i + 1) (by omega) l2 z10 z11 z12 hl2 (fun k hk => by rw [hk2 k (by omega), hk1 k hk]) (fun q hq => by
                rw [e] at hq
                rw [← Option.some.inj hq]
                exact ⟨c3, r3, e3, by rw [hk2 t (by omega)]; exact e4⟩)
              rw [e] at z
              exact z _ _ _
            · have c2 : b.1 < (wo i).1 := by
                have c3 : ¬ iI (wo i).1 ≤ iI b.1 := c1
                rw [iI_le (by have := hwb i; omega) (by have := hwb i; omega) (by omega) (by omega)] at c3
                omega
              exact take (if_pos c2) _ _
    refine jx_auto rfl trivial ?_ (by omega)
    refine jx_if rfl (fun _ => ?_) (fun c1 => absurd (nI_lt (b := 4) (by omega) (by decide)) c1)
    refine jx_steps 9 rfl trivial ?_ (by omega)
    exact loop (gcv G) 0 (by omega) l none none none hl (fun _ _ => rfl) (fun q hq => by cases hq)
end
