/-! a run comes to ONE end: what holds of its end holds of one that can be named -/
theorem jx_det {d m pc : Nat} {ls : jx_L} {st : List Value} {h : jx_H} {Q : jx_Q} (k : jx_W d m pc ls st h Q) : ∃ r h', Q r h' ∧ jx_W d m pc ls st h (jx_is r h') := by
  refine k (fun d m pc ls st h Q => ∃ r h', Q r h' ∧ jx_W d m pc ls st h (jx_is r h')) ⟨?_, ?_, ?_, ?_, ?_, ?_⟩
  · intro d m pc ls st h Q o pc' ls' st' h' hd hx ho ⟨r, h2, q, kk⟩
    exact ⟨r, h2, q, jx_W_closed.1 d m pc ls st h _ o pc' ls' st' h' hd hx ho kk⟩
  · intro d m pc ls st h Q c r t f hx ht hf
    by_cases hc : c
    · obtain ⟨r2, h2, q, kk⟩ := ht hc
      exact ⟨r2, h2, q, jx_W_closed.2.1 d m pc ls st h _ c r t f hx (fun _ => kk) (fun z => absurd hc z)⟩
    · obtain ⟨r2, h2, q, kk⟩ := hf hc
      exact ⟨r2, h2, q, jx_W_closed.2.1 d m pc ls st h _ c r t f hx (fun z => absurd z hc) (fun _ => kk)⟩
  · intro d m pc ls st h Q x r t sw hx hs
    have this : ∃ r2 h2, Q r2 h2 ∧ jx_sw (fun q => jx_W d m q ls r h (jx_is r2 h2)) x t sw := by
      clear hx
      induction sw with
      | nil => exact hs
      | cons p sw ih =>
        obtain ⟨i, j⟩ := p
        by_cases e : x = i
        · obtain ⟨r2, h2, q, kk⟩ := hs.1 e
          exact ⟨r2, h2, q, fun _ => kk, fun z => absurd e z⟩
        · obtain ⟨r2, h2, q, kk⟩ := ih (hs.2 e)
          exact ⟨r2, h2, q, fun z => absurd z e, fun _ => kk⟩
    obtain ⟨r2, h2, q, kk⟩ := this
    exact ⟨r2, h2, q, jx_W_closed.2.2.1 d m pc ls st h _ x r t sw hx kk⟩
  · intro d m pc ls st h Q o v hx ho hq
    exact ⟨v, h, hq, jx_W_closed.2.2.2.1 d m pc ls st h _ o v hx ho ⟨rfl, rfl⟩⟩
  · intro d d1 m pc ls st h Q Qc j ls2 r pc2 hx hd ⟨r1, h1, q1, k1⟩ k2
    obtain ⟨r2, h2, q2, kk⟩ := k2 r1 h1 q1
    exact ⟨r2, h2, q2, jx_W_closed.2.2.2.2.1 d d1 m pc ls st h _ (jx_is r1 h1) j ls2 r pc2 hx hd k1 (fun v h' z => by rw [z.1, z.2]; exact kk)⟩
  · intro d x h Q hd hq
    exact ⟨_, _, hq, jx_W_closed.2.2.2.2.2 d x h _ hd ⟨rfl, rfl⟩⟩
