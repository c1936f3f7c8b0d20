/-! digest: the reference's side -/
section
variable {v v' : Nat → Int32} {a a' : Nat → List Int32} {w u : Int64} {G : jG} {t : Nat} {f : Nat → Int32}
theorem jm_mix {y : Int64} : jx_W 1 jk_X7_mix 0 [some (.ref 0), some (.long y), none] [] (jM v a w u) (jx_is none (jM v a w (Int64.ofNat 31 * u + y))) := by
  refine jx_auto rfl trivial ?_
  exact jx_ends rfl trivial
theorem jMs.page (hs : jMs v a v' a') (hp : jpgM v a t f) : jpgM v' a' t f := by
  obtain ⟨p1, p2, p3, p4⟩ := hp
  refine ⟨(hs.1 8 (by omega)).trans p1, p2, ?_, ?_⟩
  · rw [hs.2.1 9 (by omega)]; exact p3
  · rw [hs.2.1 9 (by omega)]; exact p4
theorem jm_dgP (h : jMG v a G) {h0 : Int64} {z2 : Option Value} {Q : jx_Q} (kk : jx_W 14 jk_X7_digest 45 [some (.ref 0), some (.int (nI (gpg G))), z2] [] (jM v a w (dgP G h0 (gpg G))) Q) : ∀ k i, i + k = gpg G → jx_W 14 jk_X7_digest 9 [some (.ref 0), some (.int (nI i)), z2] [] (jM v a w (dgP G h0 i)) Q := by
  have ho := h.ok
  have hn := h.lens
  intro k
  induction k with
  | zero =>
    intro i hi
    have e : i = gpg G := by omega
    subst e
    refine jx_auto rfl trivial ?_
    refine jx_if rfl (fun _ => kk) (fun c1 => absurd (jc_end h.pegs (by omega) (by omega)) c1)
  | succ k ih =>
    intro i hi
    have hil : i < gpg G := by omega
    refine jx_auto rfl trivial ?_
    refine jx_if rfl (fun c1 => absurd c1 (jc_on h.pegs (by omega) (by omega))) (fun _ => ?_)
    refine jx_auto rfl ⟨vp_in_nI (by omega) (by omega), trivial⟩ ?_
    rw [nI_clamp (by omega), h.reach hil]
    refine jx_callE 1 rfl (by decide) jm_mix ?_
    refine jx_auto rfl ⟨vp_in_nI (by omega) (by omega), trivial⟩ ?_
    rw [nI_clamp (by omega), h.bag hil]
    refine jx_callE 1 rfl (by decide) jm_mix ?_
    refine jx_steps 2 rfl trivial ?_
    rw [nI_1]
    exact ih (i + 1) (by omega)
theorem jm_dgC (h : jMG v a G) {h0 : Int64} {z2 : Option Value} {Q : jx_Q} (kk : jx_W 14 jk_X7_digest 82 [some (.ref 0), some (.int (nI (gcv G))), z2] [] (jM v a w (dgC G h0 (gcv G))) Q) : ∀ k i, i + k = gcv G → jx_W 14 jk_X7_digest 47 [some (.ref 0), some (.int (nI i)), z2] [] (jM v a w (dgC G h0 i)) Q := by
  have ho := h.ok
  have hn := h.lens
  intro k
  induction k with
  | zero =>
    intro i hi
    have e : i = gcv G := by omega
    subst e
    refine jx_auto rfl trivial ?_
    refine jx_if rfl (fun _ => kk) (fun c1 => absurd (jc_end h.coverts (by omega) (by omega)) c1)
  | succ k ih =>
    intro i hi
    have hil : i < gcv G := by omega
    refine jx_auto rfl trivial ?_
    refine jx_if rfl (fun c1 => absurd c1 (jc_on h.coverts (by omega) (by omega))) (fun _ => ?_)
    refine jx_auto rfl ⟨vp_in_nI (by omega) (by omega), trivial⟩ ?_
    rw [nI_clamp (by omega), h.feed hil]
    refine jx_callE 1 rfl (by decide) jm_mix ?_
    refine jx_auto rfl trivial ?_
    refine jx_callE 1 rfl (by decide) (jm_inCovert (u := Int64.ofNat 31 * dgC G h0 i + (gfe G i).toInt64) h) ?_
    refine jx_auto rfl trivial ?_
    refine jx_callE 1 rfl (by decide) jm_mix ?_
    refine jx_steps 2 rfl trivial ?_
    rw [nI_1]
    exact ih (i + 1) (by omega)
theorem jm_dgL (h : jMG v a G) (hco : gcok G) {h0 : Int64} {Q : jx_Q} (kk : ∀ v' a' z2, jMs v a v' a' → jx_W 14 jk_X7_digest 147 [some (.ref 0), some (.int (nI (glg G))), z2] [] (jM v' a' w (dgL G h0 (glg G))) Q) : ∀ k i, i + k = glg G → ∀ v' a' z2, jMs v a v' a' → jx_W 14 jk_X7_digest 84 [some (.ref 0), some (.int (nI i)), z2] [] (jM v' a' w (dgL G h0 i)) Q := by
  have ho := h.ok
  intro k
  induction k with
  | zero =>
    intro i hi v' a' z2 hs
    have hG := hs.game h
    have e : i = glg G := by omega
    subst e
    refine jx_auto rfl trivial ?_
    refine jx_if rfl (fun _ => kk v' a' z2 hs) (fun c1 => absurd (jc_end hG.laughs (by omega) (by omega)) c1)
  | succ k ih =>
    intro i hi v' a' z2 hs
    have hG := hs.game h
    have hil : i < glg G := by omega
    have overs : ∀ m j, j + m = 3 → ∀ v' a', jMs v a v' a' → jx_W 14 jk_X7_digest 119 [some (.ref 0), some (.int (nI i)), some (.int (nI j - 1))] [] (jM v' a' w (dgF (fun k => sp_pegA G i (gco G i) (nI k - 1)) (dgF (fun k => an_laugh G i (nI k)) (dgL G h0 i) 7) j)) Q := by
      intro m
      induction m with
      | zero =>
        intro j hj v' a' hs
        have e : j = 3 := by omega
        subst e
        refine jx_auto rfl trivial ?_
        refine jx_if rfl (fun _ => ?_) (fun c1 => absurd (by decide) c1)
        refine jx_steps 2 rfl trivial ?_
        rw [nI_1]
        exact ih (i + 1) (by omega) v' a' _ hs
      | succ m ih2 =>
        intro j hj v' a' hs
        have hlt : ∀ j, j < 3 → ¬ (1 : Int32) < nI j - 1 := by decide
        refine jx_auto rfl trivial ?_
        refine jx_if rfl (fun c1 => absurd c1 (hlt j (by omega))) (fun _ => ?_)
        refine jx_auto rfl trivial ?_
        refine jx_callE 4 rfl (by decide) (jm_overNow (hs.game h) hco hil) ?_
        refine jx_auto rfl trivial ?_
        refine jx_callE 1 rfl (by decide) jm_mix ?_
        refine jx_steps 2 rfl trivial ?_
        have z := ih2 (j + 1) (by omega) v' a' hs
        rw [← nI_1, show nI j + 1 - 1 = nI j - 1 + 1 from by rw [Int32.sub_eq_add_neg, Int32.sub_eq_add_neg, Int32.add_assoc, Int32.add_assoc, Int32.add_comm 1 (-1)]] at z
        exact z
    have laughs : ∀ m j, j + m = 7 → ∀ v' a', jMs v a v' a' → jx_W 14 jk_X7_digest 94 [some (.ref 0), some (.int (nI i)), some (.int (nI j))] [] (jM v' a' w (dgF (fun k => an_laugh G i (nI k)) (dgL G h0 i) j)) Q := by
      intro m
      induction m with
      | zero =>
        intro j hj v' a' hs
        have e : j = 7 := by omega
        subst e
        refine jx_auto rfl trivial ?_
        refine jx_if rfl (fun _ => ?_) (fun c1 => absurd (by decide) c1)
        refine jx_steps 2 rfl trivial ?_
        exact overs 3 0 rfl v' a' hs
      | succ m ih2 =>
        intro j hj v' a' hs
        have hlt : ∀ j, j < 7 → ¬ (7 : Int32) ≤ nI j := by decide
        have hw : ∀ j, j < 7 → (0 : Int32) ≤ nI j ∧ nI j ≤ 6 := by decide
        refine jx_auto rfl trivial ?_
        refine jx_if rfl (fun c1 => absurd c1 (hlt j (by omega))) (fun _ => ?_)
        refine jx_auto rfl trivial ?_
        refine jx_call 8 rfl (by decide) (jm_laughNow (hs.game h) hs.2.2 hco hil (hw j (by omega)).1 (hw j (by omega)).2) (fun r h' hq => ?_)
        obtain ⟨v2, a2, rfl, rfl, hs2⟩ := hq
        refine jx_auto rfl trivial ?_
        refine jx_callE 1 rfl (by decide) jm_mix ?_
        refine jx_steps 2 rfl trivial ?_
        rw [nI_1]
        exact ih2 (j + 1) (by omega) v2 a2 (hs.tr hs2)
    refine jx_auto rfl trivial ?_
    refine jx_if rfl (fun c1 => absurd c1 (jc_on hG.laughs (by omega) (by omega))) (fun _ => ?_)
    refine jx_steps 2 rfl trivial ?_
    exact laughs 7 0 rfl v' a' hs
theorem jm_mixWind (h : jMG v a G) (hs : jMl a) (h9 : g9 G) (hg : 0 < gcv G) {x : Int32} {h0 : Int64} : jx_W 13 jk_X7_mixWind 0 [some (.ref 0), some (.int x), none] [] (jM v a w h0) (fun r h' => ∃ v' a', r = none ∧ h' = jM v' a' w (dgR G x h0) ∧ jMs v a v' a') := by
  have ho := h.ok
  have games : ∀ v' a' z2 (h1 : Int64), jMs v a v' a' → mxL (mxL h1 (iI ((og2 G x).1 + 500))) (nI ((og2 G x).2.headD 0)) = dgR G x h0 → jx_W 13 jk_X7_mixWind 37 [some (.ref 0), some (.int x), z2] [] (jM v' a' w h1) (fun r h' => ∃ v' a', r = none ∧ h' = jM v' a' w (dgR G x h0) ∧ jMs v a v' a') := by
    intro v' a' z2 h1 hs1 he
    refine jx_auto rfl trivial ?_
    refine jx_call 9 rfl (by decide) (jm_gameNow (x := x) (k := 0) (hs1.game h) hs1.2.2 h9 hg) (fun r h' hq => ?_)
    obtain ⟨v2, a2, rfl, rfl, hs2⟩ := hq
    have hs2 := hs1.tr hs2
    rw [show an_gm (og2 G x) 0 = iI ((og2 G x).1 + 500) from if_pos rfl]
    refine jx_auto rfl trivial ?_
    refine jx_callE 1 rfl (by decide) jm_mix ?_
    refine jx_auto rfl trivial ?_
    refine jx_call 9 rfl (by decide) (jm_gameNow (x := x) (k := 1) (hs2.game h) hs2.2.2 h9 hg) (fun r h' hq => ?_)
    obtain ⟨v3, a3, rfl, rfl, hs3⟩ := hq
    have hs3 := hs2.tr hs3
    rw [show an_gm (og2 G x) 1 = nI ((og2 G x).2.headD 0) from if_neg (by decide)]
    refine jx_auto rfl trivial ?_
    refine jx_callE 1 rfl (by decide) jm_mix ?_
    refine jx_done rfl trivial ⟨v3, a3, rfl, ?_, hs3⟩
    rw [← he]
    rfl
  have loop : ∀ m j, j + m = 4 → ∀ v' a', jMs v a v' a' → jx_W 13 jk_X7_mixWind 14 [some (.ref 0), some (.int x), some (.int (nI (10 + j)))] [] (jM v' a' w (dgF (fun k => an_row (gcv G) (ob G x) (nI (10 + k))) (mxL h0 (iI (ob G x).1)) j)) (fun r h' => ∃ v' a', r = none ∧ h' = jM v' a' w (dgR G x h0) ∧ jMs v a v' a') := by
    intro m
    induction m with
    | zero =>
      intro j hj v' a' hs1
      have e : j = 4 := by omega
      subst e
      refine jx_auto rfl trivial ?_
      refine jx_if rfl (fun _ => ?_) (fun c1 => absurd (by decide) c1)
      exact games v' a' _ _ hs1 rfl
    | succ m ih =>
      intro j hj v' a' hs1
      have hlt : ∀ j, j < 4 → ¬ (14 : Int32) ≤ nI (10 + j) := by decide
      refine jx_auto rfl trivial ?_
      refine jx_if rfl (fun c1 => absurd c1 (hlt j (by omega))) (fun _ => ?_)
      refine jx_auto rfl trivial ?_
      refine jx_call 8 rfl (by decide) (jm_orderNow (hs1.game h) hs1.2.2 h9 hg (Or.inr ⟨j, by omega, rfl⟩)) (fun r h' hq => ?_)
      obtain ⟨v2, a2, rfl, rfl, hs2⟩ := hq
      refine jx_auto rfl trivial ?_
      refine jx_callE 1 rfl (by decide) jm_mix ?_
      refine jx_steps 2 rfl trivial ?_
      rw [nI_1]
      exact ih (j + 1) (by omega) v2 a2 (hs1.tr hs2)
  refine jx_auto rfl trivial ?_
  refine jx_call 8 rfl (by decide) (jm_orderNow h hs h9 hg (x := x) (what := 0) (Or.inl rfl)) (fun r h' hq => ?_)
  obtain ⟨v2, a2, rfl, rfl, hs2⟩ := hq
  rw [show an_row (gcv G) (ob G x) 0 = iI (ob G x).1 from if_pos rfl]
  refine jx_auto rfl trivial ?_
  refine jx_callE 1 rfl (by decide) jm_mix ?_
  refine jx_steps 2 rfl trivial ?_
  exact loop 4 0 rfl v2 a2 hs2
def jMdg (v : Nat → Int32) (a : Nat → List Int32) (w : Int64) (r : Int64) : jx_Q := fun r' h' => ∃ v' a' u', r' = some (.long r) ∧ h' = jM v' a' w u' ∧ jMs v a v' a'
theorem jm_digest (h : jMG v a G) (hl : jMl a) (h9 : g9 G) (hco : gcok G) (hg : 0 < glg G → 0 < gcv G) (hp : jpgM v a t f) : jx_W 14 jk_X7_digest 0 [some (.ref 0), none, none] [] (jM v a w u) (jMdg v a w (an_digest G t f (v 0) (v 6))) := by
  have ho := h.ok
  obtain ⟨H, hH⟩ : ∃ H, H = dgL G (dgC G (dgP G (Int64.ofNat 1231) (gpg G)) (gcv G)) (glg G) := ⟨_, rfl⟩
  have counts : ∀ m j, j + m = 13 → ∀ v' a' z2, jMs v a v' a' → jx_W 14 jk_X7_digest 201 [some (.ref 0), some (.int (nI j)), z2] [] (jM v' a' w (dgF (fun k => an_count G t (v 0) (v 6) (nI k)) (dgF f (dgN G H) t) j)) (jMdg v a w (an_digest G t f (v 0) (v 6))) := by
    intro m
    induction m with
    | zero =>
      intro j hj v' a' z2 hs
      have e : j = 13 := by omega
      subst e
      refine jx_auto rfl trivial ?_
      refine jx_if rfl (fun _ => ?_) (fun c1 => absurd (by decide) c1)
      refine jx_auto rfl trivial ?_
      exact jx_done rfl trivial ⟨v', a', _, by rw [an_digest, ← hH], rfl, hs⟩
    | succ m ih =>
      intro j hj v' a' z2 hs
      have hlt : ∀ j, j < 13 → ¬ (13 : Int32) ≤ nI j := by decide
      refine jx_auto rfl trivial ?_
      refine jx_if rfl (fun c1 => absurd c1 (hlt j (by omega))) (fun _ => ?_)
      refine jx_auto rfl trivial ?_
      refine jx_callE 4 rfl (by decide) (jm_howMany (hs.game h) (hs.page hp)) ?_
      rw [hs.1 0 (by omega), hs.1 6 (by omega)]
      refine jx_auto rfl trivial ?_
      refine jx_callE 1 rfl (by decide) jm_mix ?_
      refine jx_steps 2 rfl trivial ?_
      rw [nI_1]
      exact ih (j + 1) (by omega) v' a' z2 hs
  have pages : ∀ m j, j + m = t → ∀ v' a' z2, jMs v a v' a' → jx_W 14 jk_X7_digest 174 [some (.ref 0), some (.int (nI j)), z2] [] (jM v' a' w (dgF f (dgN G H) j)) (jMdg v a w (an_digest G t f (v 0) (v 6))) := by
    intro m
    induction m with
    | zero =>
      intro j hj v' a' z2 hs
      obtain ⟨p1, p2, p3, p4⟩ := hs.page hp
      have e : j = t := by omega
      subst e
      refine jx_auto rfl trivial ?_
      rw [p1]
      refine jx_if rfl (fun _ => ?_) (fun c1 => absurd (nI_le (Nat.le_refl j) (by omega)) c1)
      refine jx_steps 2 rfl trivial ?_
      exact counts 13 0 rfl v' a' z2 hs
    | succ m ih =>
      intro j hj v' a' z2 hs
      obtain ⟨p1, p2, p3, p4⟩ := hs.page hp
      refine jx_auto rfl trivial ?_
      rw [p1]
      refine jx_if rfl (fun c1 => absurd c1 (nI_ge (by omega) (by omega))) (fun _ => ?_)
      refine jx_auto rfl ⟨vp_in_nI (by omega) (by omega), trivial⟩ ?_
      rw [nI_clamp (by omega), p4 j (by omega)]
      refine jx_callE 1 rfl (by decide) jm_mix ?_
      refine jx_steps 2 rfl trivial ?_
      rw [nI_1]
      exact ih (j + 1) (by omega) v' a' z2 hs
  have done : ∀ v' a' j z2, jMs v a v' a' → jx_W 14 jk_X7_digest 172 [some (.ref 0), some (.int j), z2] [] (jM v' a' w (dgN G H)) (jMdg v a w (an_digest G t f (v 0) (v 6))) := by
    intro v' a' j z2 hs
    refine jx_steps 2 rfl trivial ?_
    exact pages t 0 (by omega) v' a' z2 hs
  have winds : ∀ m j, j + m = 3 → 0 < glg G → ∀ v' a' z2, jMs v a v' a' → jx_W 14 jk_X7_digest 149 [some (.ref 0), some (.int (nI j - 1)), z2] [] (jM v' a' w (dgW G H j)) (jMdg v a w (an_digest G t f (v 0) (v 6))) := by
    intro m
    induction m with
    | zero =>
      intro j hj h0 v' a' z2 hs
      have e : j = 3 := by omega
      subst e
      refine jx_auto rfl trivial ?_
      refine jx_if rfl (fun _ => ?_) (fun c1 => absurd (by decide) c1)
      have e2 : dgN G H = dgW G H 3 := if_pos h0
      rw [← e2]
      exact done v' a' _ z2 hs
    | succ m ih =>
      intro j hj h0 v' a' z2 hs
      have hG := hs.game h
      have hlt : ∀ j, j < 3 → ¬ (1 : Int32) < nI j - 1 := by decide
      refine jx_auto rfl trivial ?_
      refine jx_if rfl (fun c1 => absurd c1 (hlt j (by omega))) (fun _ => ?_)
      refine jx_auto rfl trivial ?_
      rw [hG.laughs]
      refine jx_if rfl (fun c1 => absurd c1 (nI_nle h0 (by omega))) (fun _ => ?_)
      refine jx_auto rfl trivial ?_
      refine jx_call 13 rfl (by decide) (jm_mixWind hG hs.2.2 h9 (hg h0)) (fun r h' hq => ?_)
      obtain ⟨v2, a2, rfl, rfl, hs2⟩ := hq
      refine jx_steps 2 rfl trivial ?_
      have z := ih (j + 1) (by omega) h0 v2 a2 z2 (hs.tr hs2)
      rw [← nI_1, show nI j + 1 - 1 = nI j - 1 + 1 from by rw [Int32.sub_eq_add_neg, Int32.sub_eq_add_neg, Int32.add_assoc, Int32.add_assoc, Int32.add_comm 1 (-1)]] at z
      exact z
  refine jx_steps 5 rfl trivial ?_
  refine jx_at (h' := jM v a w (dgP G (Int64.ofNat 1231) 0)) (ls' := [some (.ref 0), some (.int (nI 0)), none]) (st' := []) ?_ rfl rfl rfl rfl
  refine jm_dgP (h0 := Int64.ofNat 1231) h ?_ (gpg G) 0 (by omega)
  refine jx_steps 2 rfl trivial ?_
  refine jm_dgC (h0 := dgP G (Int64.ofNat 1231) (gpg G)) h ?_ (gcv G) 0 (by omega)
  refine jx_steps 2 rfl trivial ?_
  refine jm_dgL (h0 := dgC G (dgP G (Int64.ofNat 1231) (gpg G)) (gcv G)) h hco (fun v' a' z2 hs => ?_) (glg G) 0 (by omega) v a none (.rf hl)
  rw [← hH]
  refine jx_steps 2 rfl trivial ?_
  by_cases h0 : 0 < glg G
  · exact winds 3 0 rfl h0 v' a' z2 hs
  · have hG := hs.game h
    refine jx_auto rfl trivial ?_
    refine jx_if rfl (fun c1 => absurd c1 (by decide)) (fun _ => ?_)
    refine jx_auto rfl trivial ?_
    rw [hG.laughs]
    refine jx_if rfl (fun _ => ?_) (fun c1 => absurd (nI_le (b := 0) (by omega) (by decide)) c1)
    have e2 : dgN G H = H := if_neg h0
    have z := done v' a' (-1) z2 hs
    rw [e2] at z
    exact z
end
