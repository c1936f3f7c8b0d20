/-! digest: LaughDrive's side, the rest -/
section
variable {v v' : Nat → Int32} {a a' : Nat → List Int32} {w : Int64} {G : jG} {t : Nat} {f : Nat → Int32}
theorem jLs.page (hs : jLs v a v' a') (hp : jpgL v a t f) : jpgL v' a' t f := by
  obtain ⟨p1, p2, p3, p4⟩ := hp
  refine ⟨(hs.1 3 (by omega)).trans p1, p2, ?_, ?_⟩
  · rw [hs.2.1 0 (by omega)]; exact p3
  · rw [hs.2.1 0 (by omega)]; exact p4
def jLd (v : Nat → Int32) (a : Nat → List Int32) (w : Int64) (r : Int64) : jx_Q := fun r' h' => ∃ v' a', r' = some (.long r) ∧ h' = jL v' a' w ∧ jLs v a v' a'
theorem jl_digest (h : jLG v a G) (h9 : g9 G) (hg : 0 < glg G → 0 < gcv G) (hl : jLl a) (hp : jpgL v a t f) : jx_W 14 jk_X6_digest 0 [some (.ref 0), none, none, none, none] [] (jL v a w) (jLd v a w (an_digest G t f (v 1) (v 2))) := by
  have ho := h.ok
  obtain ⟨H, hH⟩ : ∃ H, H = dgL G (dgC G (dgP G (Int64.ofNat 1231) (gpg G)) (gcv G)) (glg G) := ⟨_, rfl⟩
  -- the counts
  have counts : ∀ m j, j + m = 13 → ∀ v' a' z4, jLs v a v' a' → jx_W 14 jk_X6_digest 338 [some (.ref 0), some (.long (dgF (fun k => an_count G t (v 1) (v 2) (nI k)) (dgF f (dgN G H) t) j)), none, some (.int (nI j)), z4] [] (jL v' a' w) (jLd v a w (an_digest G t f (v 1) (v 2))) := by
    intro m
    induction m with
    | zero =>
      intro j hj v' a' z4 hs
      have e : j = 13 := by omega
      subst e
      refine jx_auto rfl trivial ?_
      refine jx_if rfl (fun _ => ?_) (fun c1 => absurd (by decide) c1)
      refine jx_auto rfl trivial ?_
      exact jx_done rfl trivial ⟨v', a', by rw [an_digest, ← hH], rfl, hs⟩
    | succ m ih =>
      intro j hj v' a' z4 hs
      have hlt : ∀ j, j < 13 → ¬ (13 : Int32) ≤ nI j := by decide
      refine jx_auto rfl trivial ?_
      refine jx_if rfl (fun c1 => absurd c1 (hlt j (by omega))) (fun _ => ?_)
      refine jx_auto rfl trivial ?_
      refine jx_callE 4 rfl (by decide) (jl_count (hs.game h) (hs.page hp)) ?_
      rw [hs.1 1 (by omega), hs.1 2 (by omega)]
      refine jx_steps 5 rfl trivial ?_
      rw [nI_1]
      exact ih (j + 1) (by omega) v' a' z4 hs
  -- the page
  have pages : ∀ m j, j + m = t → ∀ v' a' z4, jLs v a v' a' → jx_W 14 jk_X6_digest 300 [some (.ref 0), some (.long (dgF f (dgN G H) j)), none, some (.int (nI j)), z4] [] (jL v' a' w) (jLd v a w (an_digest G t f (v 1) (v 2))) := by
    intro m
    induction m with
    | zero =>
      intro j hj v' a' z4 hs
      obtain ⟨p1, p2, p3, p4⟩ := hs.page hp
      have e : j = t := by omega
      subst e
      refine jx_auto rfl trivial ?_
      rw [p1]
      refine jx_if rfl (fun _ => ?_) (fun c1 => absurd (nI_le (Nat.le_refl j) (by omega)) c1)
      refine jx_steps 2 rfl trivial ?_
      exact counts 13 0 rfl v' a' z4 hs
    | succ m ih =>
      intro j hj v' a' z4 hs
      obtain ⟨p1, p2, p3, p4⟩ := hs.page hp
      refine jx_auto rfl trivial ?_
      rw [p1]
      refine jx_if rfl (fun c1 => absurd c1 (nI_ge (by omega) (by omega))) (fun _ => ?_)
      refine jx_auto rfl trivial ?_
      refine jx_callE 1 rfl (by decide) (jr_at (q := 3) (l := a' 0) (by omega) rfl rfl) ?_
      rw [jp_at_in (by omega) (by omega), p4 j (by omega)]
      refine jx_steps 5 rfl trivial ?_
      rw [nI_1]
      exact ih (j + 1) (by omega) v' a' z4 hs
  -- the winds
  have done : ∀ v' a' j z4, jLs v a v' a' → jx_W 14 jk_X6_digest 298 [some (.ref 0), some (.long (dgN G H)), none, some (.int j), z4] [] (jL v' a' w) (jLd v a w (an_digest G t f (v 1) (v 2))) := by
    intro v' a' j z4 hs
    refine jx_steps 2 rfl trivial ?_
    exact pages t 0 (by omega) v' a' z4 hs
  have winds : ∀ m j, j + m = 3 → 0 < glg G → ∀ v' a' z4, jLs v a v' a' → jx_W 14 jk_X6_digest 180 [some (.ref 0), some (.long (dgW G H j)), none, some (.int (nI j - 1)), z4] [] (jL v' a' w) (jLd v a w (an_digest G t f (v 1) (v 2))) := by
    intro m
    induction m with
    | zero =>
      intro j hj h0 v' a' z4 hs
      have e : j = 3 := by omega
      subst e
      refine jx_auto rfl trivial ?_
      refine jx_callE 1 rfl (by decide) (jl_isThere (hs.game h)) ?_
      rw [if_pos h0]
      refine jx_if rfl (fun c1 => absurd (show (1 : Int32) = 0 from c1) (by decide)) (fun _ => ?_)
      refine jx_auto rfl trivial ?_
      refine jx_if rfl (fun _ => ?_) (fun c1 => absurd (by decide) c1)
      have e2 : dgN G H = dgW G H 3 := if_pos h0
      rw [← e2]
      exact done v' a' _ z4 hs
    | succ m ih =>
      intro j hj h0 v' a' z4 hs
      have hlt : ∀ j, j < 3 → ¬ (1 : Int32) < nI j - 1 := by decide
      refine jx_auto rfl trivial ?_
      refine jx_callE 1 rfl (by decide) (jl_isThere (hs.game h)) ?_
      rw [if_pos h0]
      refine jx_if rfl (fun c1 => absurd (show (1 : Int32) = 0 from c1) (by decide)) (fun _ => ?_)
      refine jx_auto rfl trivial ?_
      refine jx_if rfl (fun c1 => absurd c1 (hlt j (by omega))) (fun _ => ?_)
      refine jl_dgW (hs.game h) h9 (hg h0) hs.2.2 (fun v2 a2 z5 hs2 => ?_)
      refine jx_steps 2 rfl trivial ?_
      have z := ih (j + 1) (by omega) h0 v2 a2 z5 (hs.tr hs2)
      rw [← nI_1, show nI j + 1 - 1 = nI j - 1 + 1 from by rw [Int32.sub_eq_add_neg, Int32.sub_eq_add_neg, Int32.add_assoc, Int32.add_assoc, Int32.add_comm 1 (-1)]] at z
      exact z
  refine jx_steps 4 rfl trivial ?_
  refine jl_dgP (h0 := Int64.ofNat 1231) h ?_ (gpg G) 0 (by omega)
  refine jx_steps 2 rfl trivial ?_
  refine jl_dgC (h0 := dgP G (Int64.ofNat 1231) (gpg G)) h ?_ (gcv G) 0 (by omega)
  refine jx_steps 2 rfl trivial ?_
  refine jl_dgL (h0 := dgC G (dgP G (Int64.ofNat 1231) (gpg G)) (gcv G)) h (fun z4 => ?_) (glg G) 0 (by omega) none
  rw [← hH]
  refine jx_steps 2 rfl trivial ?_
  by_cases h0 : 0 < glg G
  · exact winds 3 0 rfl h0 v a z4 (.rf hl)
  · refine jx_auto rfl trivial ?_
    refine jx_callE 1 rfl (by decide) (jl_isThere h) ?_
    rw [if_neg h0]
    refine jx_if rfl (fun _ => ?_) (fun c1 => absurd rfl c1)
    have e2 : dgN G H = H := if_neg h0
    have z := done v a (-1) z4 (.rf hl)
    rw [e2] at z
    exact z
end
