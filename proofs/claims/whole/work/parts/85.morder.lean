/-! ORDER, the reference's side -/
/-- behind some drives that are not for good: where the laughs are is another -/
def jMi (G : jG) (v : Nat → Int32) (a : Nat → List Int32) (v' : Nat → Int32) (a' : Nat → List Int32) (co : Nat → Int32) : Prop := (∀ j, j ≠ 13 → v' j = v j) ∧ (∀ j, j ≠ 4 → j ≠ 10 → a' j = a j) ∧ (a' 10).length = 6 ∧ (a' 4).length = 6 ∧ ∀ l, l < glg G → (a' 4).getD l 0 = co l
def nx_ob (o : fmO) : Int32 := match o with
  | none => -1
  | some q => iI q.1
def nx_or (n : Nat) (o : fmO) : List Int32 := match o with
  | none => nx_b0
  | some q => nx_bo n q.2
def ob (G : jG) (x : Int32) : Int × List Nat := pl_best (gcv G) (og G x) (oa G x) 1 4 (fun _ => false) (gco G)
theorem nx_or_ok {n : Nat} (hn : n ≤ 6) {o : fmO} (h : ∀ q, o = some q → q.2.length = n) : (nx_or n o).length = 6 ∧ ∀ k, n ≤ k → k < 6 → (nx_or n o).getD k 0 = -1 := by
  cases o with
  | none => exact ⟨rfl, fun k _ hk => nx_b0_get hk⟩
  | some q =>
    have := h q rfl
    refine ⟨nx_bo_len this hn, fun k h1 h2 => ?_⟩
    show (nx_bo n q.2).getD k 0 = -1
    rw [nx_bo_get this h2, if_neg (by omega)]
section
variable {v v' : Nat → Int32} {a a' : Nat → List Int32} {w u : Int64} {G : jG} {co : Nat → Int32}
theorem jMi.game (hi : jMi G v a v' a' co) (h : jMG v a G) : jMG v' a' (gst G 5 co) := by
  obtain ⟨h1, h2, h3, h4, h5⟩ := hi
  unfold jMG at h ⊢
  rw [h1 1 (by omega), h1 2 (by omega), h1 3 (by omega), h1 7 (by omega), h1 4 (by omega), h1 5 (by omega), h2 0 (by omega) (by omega), h2 1 (by omega) (by omega), h2 2 (by omega) (by omega), h2 3 (by omega) (by omega), h2 5 (by omega) (by omega), h2 6 (by omega) (by omega), h2 7 (by omega) (by omega), h2 8 (by omega) (by omega)]
  obtain ⟨p, ⟨l0, l1, l2, l3, l4, l5, l6, l7, l8⟩, q0, q1, q2, q3, q4, q5⟩ := h
  exact ⟨p, ⟨l0, l1, l2, l3, h4, l5, l6, l7, l8⟩, q0, q1, q2, q3, h5, q5⟩
theorem jMi.wl (hi : jMi G v a v' a' co) (hs : jMl a) : jMl a' := by
  obtain ⟨h1, h2, h3, h4, h5⟩ := hi
  unfold jMl at hs ⊢
  rw [h2 11 (by omega) (by omega), h2 12 (by omega) (by omega), h2 13 (by omega) (by omega), h2 14 (by omega) (by omega), h2 15 (by omega) (by omega)]
  exact ⟨h3, hs.2⟩
theorem jMi.rf (h : jMG v a G) (hs : jMl a) : jMi G v a v a (gco G) := ⟨fun _ _ => rfl, fun _ _ _ => rfl, hs.1, h.lens.2.2.2.2.1, fun _ hl => h.co hl⟩
theorem jm_drivenI (h : jMG v a G) (hs : jMl a) (hi : jMi G v a v' a' co) {c : Nat} (hc : c < gcv G) {x : Int32} : jx_W 6 jk_X7_driven 0 [some (.ref 0), some (.int (nI c)), some (.int x), none, none] [] (jM v' a' w u) (fun r h' => ∃ v2 a2, r = some (.int (iI (og G x co c))) ∧ h' = jM v2 a2 w u ∧ jMi G v a v2 a2 (oa G x co c)) := by
  refine jx_mono (jm_driven (hi.game h) (hi.wl hs) hc) (fun r h' hq => ?_)
  obtain ⟨hb, lh, co2, rfl, rfl, q1, q2, q3, q4, q5⟩ := hq
  obtain ⟨h1, h2, h3, h4, h5⟩ := hi
  refine ⟨_, _, by rw [og_i], rfl, fun j hj => by rw [jup_n _ _ hj]; exact h1 j hj, fun j hj hj2 => by rw [jup_n _ _ hj, jup_n _ _ hj2]; exact h2 j hj hj2, q1, q4, q5⟩
theorem jm_nextRowH {n : Nat} (hn : 1 ≤ n) (hn6 : n ≤ 6) {q : List Nat} (hq : nx_good q) (h12 : a 12 = q.map nI) : jx_W 2 jk_X7_nextRow 0 [some (.ref 0), some (.int (nI n)), none, none, none, none] [] (jM v a w u) (jx_is (some (.int (if (nx n q).isSome = true then 1 else 0))) (jM v (jup a 12 (((nx n q).getD q).map nI)) w u)) := by
  have e : jM v a w u = jM v (jup a 12 (q.map nI)) w u := by rw [← h12]; rfl
  rw [e]
  exact jm_nextRow hn hn6 hq
theorem jm_keepRowH {n : Nat} (hn : n ≤ 6) {p : List Nat} (hp : p.length = n) (h12 : a 12 = (nx_ro n p).map nI) (hb : (a 13).length = 6) (hb2 : ∀ k, n ≤ k → k < 6 → (a 13).getD k 0 = -1) : jx_W 1 jk_X7_keepRow 0 [some (.ref 0), some (.int (nI n)), none] [] (jM v a w u) (jx_is none (jM v (jup a 13 (nx_bo n p)) w u)) := by
  have z := jm_keepRow (v := v) (a := a) (w := w) (u := u) hn hp hb hb2
  rw [← h12] at z
  exact z
/-- behind load(): where the laughs were -/
theorem jMi.back (hi : jMi G v' a' v a co) {v0 : Nat → Int32} {a0 : Nat → List Int32} (h0 : jMs v0 a0 v' a') (h11 : a' 11 = a0 4) : jMs v0 a0 v (jup a 4 (a 11)) ∧ (∀ j, 11 ≤ j → jup a 4 (a 11) j = a' j) := by
  obtain ⟨h1, h2, h3, h4, h5⟩ := hi
  refine ⟨⟨fun j hj => by rw [h1 j (by omega)]; exact h0.1 j hj, fun j hj => ?_, h3, ?_⟩, fun j hj => ?_⟩
  · by_cases e : j = 4
    · subst e; show a 11 = a0 4; rw [h2 11 (by omega) (by omega)]; exact h11
    · rw [jup_n _ _ e, h2 j e (by omega)]; exact h0.2.1 j hj
  · have := h0.2.2.2
    rw [← h2 11 (by omega) (by omega), ← h2 12 (by omega) (by omega), ← h2 13 (by omega) (by omega), ← h2 14 (by omega) (by omega), ← h2 15 (by omega) (by omega)] at this
    exact this
  · rw [jup_n _ _ (by omega), h2 j (by omega) (by omega)]
theorem jm_orderIn (h : jMG v a G) (hs : jMl a) {p : List Nat} (hp : p.length = gcv G) (hlt : ∀ k ∈ p, k < gcv G) (h12 : a 12 = (nx_ro (gcv G) p).map nI) {x what best : Int32} {Q : jx_Q} (fin : ∀ v' a' co', jMi G v a v' a' co' → jx_W 8 jk_X7_orderNow 56 [some (.ref 0), some (.int x), some (.int what), some (.int best), some (.int 1), some (.int (iI (pl_tot (og G x) (oa G x) (gco G) p))), some (.int (nI (gcv G)))] [] (jM v' a' w u) Q) : jx_W 8 jk_X7_orderNow 24 [some (.ref 0), some (.int x), some (.int what), some (.int best), some (.int 1), some (.int (iI 0)), some (.int (nI 0))] [] (jM v a w u) Q := by
  have ho := h.ok
  have loop : ∀ (r : List Nat) (i : Nat) (co : Nat → Int32) (v' : Nat → Int32) (a' : Nat → List Int32) (acc : Int), p.drop i = r → i + r.length = gcv G → jMi G v a v' a' co → acc + pl_tot (og G x) (oa G x) co r = pl_tot (og G x) (oa G x) (gco G) p → jx_W 8 jk_X7_orderNow 24 [some (.ref 0), some (.int x), some (.int what), some (.int best), some (.int 1), some (.int (iI acc)), some (.int (nI i))] [] (jM v' a' w u) Q := by
    intro r
    induction r with
    | nil =>
      intro i co v' a' acc hd hi hj ht
      have e : i = gcv G := by simpa using hi
      have hG := hj.game h
      refine jx_auto rfl trivial ?_
      refine jx_if rfl (fun _ => ?_) (fun c1 => absurd (jc_end hG.coverts (by show gcv G ≤ i; omega) (by omega)) c1)
      rw [pl_tot, Int.add_zero] at ht
      rw [ht, e]
      exact fin v' a' co hj
    | cons c r ih =>
      intro i co v' a' acc hd hi hj ht
      have hG := hj.game h
      have hW := hj.wl hs
      rw [List.length_cons] at hi
      have hil : i < gcv G := by omega
      have hpi : p[i]? = some c := by
        have : (p.drop i)[0]? = some c := by rw [hd]; rfl
        rw [List.getElem?_drop] at this
        exact this
      have hc : c < gcv G := hlt c (List.mem_of_getElem? hpi)
      have hd2 : p.drop (i + 1) = r := by rw [← List.drop_drop, hd]; rfl
      have e12 : a' 12 = (nx_ro (gcv G) p).map nI := by rw [hj.2.1 12 (by omega) (by omega)]; exact h12
      have e1 : (a' 12).getD (nI i).toNatClampNeg 0 = nI c := by
        rw [e12, nI_clamp (by omega), nx_map_get, nx_ro_get hp hil, List.getD, hpi]
        rfl
      have l12 : (a' 12).length = 6 := hW.2.2.1
      refine jx_auto rfl trivial ?_
      refine jx_if rfl (fun c1 => absurd c1 (jc_on hG.coverts (by show i < gcv G; omega) (by show gcv G < _; omega))) (fun _ => ?_)
      refine jx_auto rfl ⟨vp_in_nI (by omega) (by omega), trivial⟩ ?_
      rw [e1]
      refine jx_call 6 rfl (by decide) (jm_drivenI h hs hj hc) (fun r2 h' hq => ?_)
      obtain ⟨v2, a2, rfl, rfl, hi2⟩ := hq
      refine jx_steps 4 rfl trivial ?_
      rw [nI_1]
      refine jx_at (ih (i + 1) _ v2 a2 (acc + og G x co c) hd2 (by omega) hi2 ?_) rfl ?_
      · rw [pl_tot] at ht
        rw [Int.add_assoc]; exact ht
      · dsimp only
        rw [iI_add]
  exact loop p 0 (gco G) v a 0 rfl (by omega) (.rf h hs) (by omega)
end
