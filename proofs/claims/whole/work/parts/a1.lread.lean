/-! LaughDrive reads THE PAGE: the automaton -/
def auV (v : Nat → Int32) (s : auS) : Nat → Int32 := jup (jup (jup (jup v 4 (nI s.2.1)) 5 (nI s.2.2.1)) 6 (nI s.2.2.2)) 7 (nI s.1)
def auI (s : auS) : Prop := s.1 ≤ 5 ∧ s.2.1 ≤ 6 ∧ s.2.2.1 ≤ 4 ∧ s.2.2.2 ≤ 6 ∧ (s.1 = 2 → s.2.2.2 < 6) ∧ (s.1 = 3 → s.2.2.2 < 6) ∧ (s.1 = 4 → s.2.2.2 < 6) ∧ (s.1 = 0 → s.2.2.2 = 0) ∧ (s.1 = 1 → s.2.2.2 = 0)
theorem auI_step {s : auS} {c : Nat} (h : auI s) {s' : auS} (e : au_step s c = some s') : auI s' := by
  obtain ⟨pt, pe, cv, la⟩ := s
  unfold au_step at e
  unfold auI at h ⊢
  dsimp only at e h
  by_cases h0 : pt = 0
  · rw [if_pos h0] at e
    by_cases h1 : dig c ∧ pe < 6
    · rw [if_pos h1] at e
      rw [← Option.some.inj e]; dsimp only; omega
    · rw [if_neg h1] at e
      by_cases h2 : c = 59 ∧ 2 ≤ pe
      · rw [if_pos h2] at e
        rw [← Option.some.inj e]; dsimp only; omega
      · rw [if_neg h2] at e; cases e
  · rw [if_neg h0] at e
    by_cases h1 : pt = 1
    · rw [if_pos h1] at e
      by_cases h2 : dig c ∧ cv < 4
      · rw [if_pos h2] at e
        rw [← Option.some.inj e]; dsimp only; omega
      · rw [if_neg h2] at e
        by_cases h3 : c = 59 ∧ 2 ≤ cv
        · rw [if_pos h3] at e
          rw [← Option.some.inj e]; dsimp only; omega
        · rw [if_neg h3] at e; cases e
    · rw [if_neg h1] at e
      by_cases h2 : pt = 2
      · rw [if_pos h2] at e
        by_cases h3 : jx_kindC (nI c) = -1
        · rw [if_pos h3] at e; cases e
        · rw [if_neg h3] at e
          rw [← Option.some.inj e]; dsimp only; omega
      · rw [if_neg h2] at e
        by_cases h3 : pt = 3
        · rw [if_pos h3] at e
          by_cases h4 : dig c ∧ c < 48 + cv
          · rw [if_pos h4] at e
            rw [← Option.some.inj e]; dsimp only; omega
          · rw [if_neg h4] at e; cases e
        · rw [if_neg h3] at e
          by_cases h4 : pt = 4
          · rw [if_pos h4] at e
            by_cases h5 : dig c
            · rw [if_pos h5] at e
              rw [← Option.some.inj e]; dsimp only; omega
            · rw [if_neg h5] at e; cases e
          · rw [if_neg h4] at e
            by_cases h5 : c = 44 ∧ la < 6
            · rw [if_pos h5] at e
              rw [← Option.some.inj e]; dsimp only; omega
            · rw [if_neg h5] at e; cases e
section
variable {v : Nat → Int32} {a : Nat → List Int32} {w : Int64}
theorem jl_isDigit {h : jx_H} {c : Nat} (hc : c ≤ 126) : jx_W 1 jk_X3_isDigit 0 [some (.int (nI c))] [] h (jx_is (some (.int (if dig c then 1 else 0))) h) := by
  unfold dig
  refine jx_auto rfl trivial ?_
  refine jx_if rfl (fun c1 => ?_) (fun c1 => ?_)
  · have := (nI_ltI (a := c) (b := 48) (by omega) (by decide)).mp c1
    rw [if_neg (by omega)]
    refine jx_auto rfl trivial ?_
    exact jx_ends rfl ⟨Or.inl rfl, trivial⟩
  · have h1 : ¬ c < 48 := fun z => c1 (nI_lt (b := 48) z (by decide))
    refine jx_auto rfl trivial ?_
    refine jx_if rfl (fun c2 => ?_) (fun c2 => ?_)
    · have := (nI_ltI (a := 57) (b := c) (by decide) (by omega)).mp c2
      rw [if_neg (by omega)]
      refine jx_auto rfl trivial ?_
      exact jx_ends rfl ⟨Or.inl rfl, trivial⟩
    · have h2 : ¬ 57 < c := fun z => c2 (nI_lt (a := 57) z (by omega))
      rw [if_pos (by omega)]
      refine jx_auto rfl trivial ?_
      exact jx_ends rfl ⟨Or.inr rfl, trivial⟩
theorem jl_goesOn (s : auS) {b : Bool} {k : Nat} : jx_W 1 jk_X3_goesOn 0 [some (.ref 4), some (.int (if b = true then 1 else 0)), some (.int (nI k))] [] (jL (auV v s) a w) (jx_is (some (.int (if b = true then 1 else 0))) (jL (auV v (if b = true then (k, s.2) else s)) a w)) := by
  cases b with
  | false =>
    refine jx_auto rfl trivial ?_
    refine jx_if rfl (fun _ => ?_) (fun c1 => absurd rfl c1)
    refine jx_auto rfl trivial ?_
    exact jx_ends rfl ⟨Or.inl rfl, trivial⟩
  | true =>
    refine jx_auto rfl trivial ?_
    refine jx_if rfl (fun c1 => absurd (show (1 : Int32) = 0 from c1) (by decide)) (fun _ => ?_)
    refine jx_auto rfl trivial ?_
    exact jx_ends rfl ⟨Or.inr rfl, trivial⟩
/-- the last step of most letters -/
theorem jl_goes (s : auS) {m pc pc2 : Nat} {ls : jx_L} {b : Bool} {k : Nat} {o : Option auS} (ho : o = if b = true then some (k, s.2) else none) (hx : jx_cal (jx_code m) pc [.int (nI k), .int (if b = true then 1 else 0), .ref 4] (jL (auV v s) a w) = some (jk_X3_goesOn, [some (.ref 4), some (.int (if b = true then 1 else 0)), some (.int (nI k))], [], pc2)) (hr : ∀ x : Int32, jx_end (jx_code m) pc2 [.int x] = some ([x = 0 ∨ x = 1], some (.int x))) : jx_W 2 m pc ls [.int (nI k), .int (if b = true then 1 else 0), .ref 4] (jL (auV v s) a w) (jx_is (some (.int (if o = none then 0 else 1))) (jL (auV v (o.getD s)) a w)) := by
  refine jx_callE 1 hx (by decide) (jl_goesOn s) ?_
  subst ho
  cases b with
  | false => exact jx_ends (hr _) ⟨Or.inl rfl, trivial⟩
  | true => exact jx_ends (hr _) ⟨Or.inr rfl, trivial⟩
theorem jl_takesPeg {pe cv la c : Nat} (hc : c ≤ 126) (hpe : pe ≤ 6) : jx_W 2 jk_X3_takesPeg 0 [some (.ref 4), some (.int (nI c))] [] (jL (auV v (0, pe, cv, la)) a w) (jx_is (some (.int (if au_step (0, pe, cv, la) c = none then 0 else 1))) (jL (auV v ((au_step (0, pe, cv, la) c).getD (0, pe, cv, la))) a w)) := by
  have rest : ¬ (dig c ∧ pe < 6) → jx_W 2 jk_X3_takesPeg 28 [some (.ref 4), some (.int (nI c))] [] (jL (auV v (0, pe, cv, la)) a w) (jx_is (some (.int (if au_step (0, pe, cv, la) c = none then 0 else 1))) (jL (auV v ((au_step (0, pe, cv, la) c).getD (0, pe, cv, la))) a w)) := by
    intro hd
    have es : ∀ b : Bool, (b = true ↔ (c = 59 ∧ 2 ≤ pe)) → au_step (0, pe, cv, la) c = if b = true then some (1, (pe, cv, la)) else none := by
      intro b hb
      unfold au_step
      dsimp only
      rw [if_pos rfl, if_neg hd]
      by_cases h : c = 59 ∧ 2 ≤ pe
      · rw [if_pos h, if_pos (hb.mpr h)]
      · rw [if_neg h, if_neg (fun z => h (hb.mp z))]
    refine jx_auto rfl trivial ?_
    refine jx_if rfl (fun c1 => ?_) (fun c1 => ?_)
    · have h1 : ¬ c = 59 := fun z => c1 (by rw [z]; rfl)
      refine jx_steps 2 rfl trivial ?_
      exact jl_goes (0, pe, cv, la) (b := false) (k := 1) (es false ⟨fun z => (by cases z), fun z => absurd z.1 h1⟩) rfl (fun _ => rfl)
    · have h1 : c = 59 := (nI_eq (b := 59) (by omega) (by decide)).mp (Decidable.not_not.mp c1)
      refine jx_auto rfl trivial ?_
      refine jx_if rfl (fun c2 => ?_) (fun c2 => ?_)
      · have h2 : pe < 2 := (nI_ltI (b := 2) (by omega) (by decide)).mp c2
        refine jx_steps 2 rfl trivial ?_
        exact jl_goes (0, pe, cv, la) (b := false) (k := 1) (es false ⟨fun z => (by cases z), fun z => (by omega)⟩) rfl (fun _ => rfl)
      · have h2 : ¬ pe < 2 := fun z => c2 (nI_lt (b := 2) z (by decide))
        refine jx_steps 3 rfl trivial ?_
        exact jl_goes (0, pe, cv, la) (b := true) (k := 1) (es true ⟨fun _ => ⟨h1, by omega⟩, fun _ => rfl⟩) rfl (fun _ => rfl)
  refine jx_auto rfl trivial ?_
  refine jx_callE 1 rfl (by decide) (jl_isDigit hc) ?_
  by_cases hd : dig c
  · rw [if_pos hd]
    refine jx_if rfl (fun c1 => absurd (show (1 : Int32) = 0 from c1) (by decide)) (fun _ => ?_)
    refine jx_auto rfl trivial ?_
    by_cases h6 : pe < 6
    · refine jx_if rfl (fun c1 => absurd c1 (nI_ge (b := 6) h6 (by decide))) (fun _ => ?_)
      have e : au_step (0, pe, cv, la) c = some (0, pe + 1, cv, la) := by
        unfold au_step; dsimp only; rw [if_pos rfl, if_pos ⟨hd, h6⟩]
      rw [e]
      refine jx_auto rfl trivial ?_
      refine jx_ends rfl ⟨Or.inr rfl, trivial⟩ rfl ?_
      show _ = jL (auV v (0, pe + 1, cv, la)) a w
      unfold auV
      dsimp only
      rw [← nI_1 pe]
      rfl
    · refine jx_if rfl (fun _ => rest (fun z => h6 z.2)) (fun c1 => absurd (nI_le (a := 6) (b := pe) (by omega) (by omega)) c1)
  · rw [if_neg hd]
    refine jx_if rfl (fun _ => rest (fun z => hd z.1)) (fun c1 => absurd rfl c1)
theorem jl_takesCovert {pe cv la c : Nat} (hc : c ≤ 126) (hcv : cv ≤ 4) : jx_W 2 jk_X3_takesCovert 0 [some (.ref 4), some (.int (nI c))] [] (jL (auV v (1, pe, cv, la)) a w) (jx_is (some (.int (if au_step (1, pe, cv, la) c = none then 0 else 1))) (jL (auV v ((au_step (1, pe, cv, la) c).getD (1, pe, cv, la))) a w)) := by
  have rest : ¬ (dig c ∧ cv < 4) → jx_W 2 jk_X3_takesCovert 27 [some (.ref 4), some (.int (nI c))] [] (jL (auV v (1, pe, cv, la)) a w) (jx_is (some (.int (if au_step (1, pe, cv, la) c = none then 0 else 1))) (jL (auV v ((au_step (1, pe, cv, la) c).getD (1, pe, cv, la))) a w)) := by
    intro hd
    have es : ∀ b : Bool, (b = true ↔ (c = 59 ∧ 2 ≤ cv)) → au_step (1, pe, cv, la) c = if b = true then some (2, (pe, cv, la)) else none := by
      intro b hb
      unfold au_step
      dsimp only
      rw [if_neg (by decide), if_pos rfl, if_neg hd]
      by_cases h : c = 59 ∧ 2 ≤ cv
      · rw [if_pos h, if_pos (hb.mpr h)]
      · rw [if_neg h, if_neg (fun z => h (hb.mp z))]
    refine jx_auto rfl trivial ?_
    refine jx_if rfl (fun c1 => ?_) (fun c1 => ?_)
    · have h1 : ¬ c = 59 := fun z => c1 (by rw [z]; rfl)
      refine jx_steps 2 rfl trivial ?_
      exact jl_goes (1, pe, cv, la) (b := false) (k := 2) (es false ⟨fun z => (by cases z), fun z => absurd z.1 h1⟩) rfl (fun _ => rfl)
    · have h1 : c = 59 := (nI_eq (b := 59) (by omega) (by decide)).mp (Decidable.not_not.mp c1)
      refine jx_auto rfl trivial ?_
      refine jx_if rfl (fun c2 => ?_) (fun c2 => ?_)
      · have h2 : cv < 2 := (nI_ltI (b := 2) (by omega) (by decide)).mp c2
        refine jx_steps 2 rfl trivial ?_
        exact jl_goes (1, pe, cv, la) (b := false) (k := 2) (es false ⟨fun z => (by cases z), fun z => (by omega)⟩) rfl (fun _ => rfl)
      · have h2 : ¬ cv < 2 := fun z => c2 (nI_lt (b := 2) z (by decide))
        refine jx_steps 3 rfl trivial ?_
        exact jl_goes (1, pe, cv, la) (b := true) (k := 2) (es true ⟨fun _ => ⟨h1, by omega⟩, fun _ => rfl⟩) rfl (fun _ => rfl)
  refine jx_auto rfl trivial ?_
  refine jx_callE 1 rfl (by decide) (jl_isDigit hc) ?_
  by_cases hd : dig c
  · rw [if_pos hd]
    refine jx_if rfl (fun c1 => absurd (show (1 : Int32) = 0 from c1) (by decide)) (fun _ => ?_)
    refine jx_auto rfl trivial ?_
    by_cases h6 : cv < 4
    · refine jx_if rfl (fun c1 => absurd c1 (nI_ge (b := 4) h6 (by decide))) (fun _ => ?_)
      have e : au_step (1, pe, cv, la) c = some (1, pe, cv + 1, la) := by
        unfold au_step; dsimp only; rw [if_neg (by decide), if_pos rfl, if_pos ⟨hd, h6⟩]
      rw [e]
      refine jx_auto rfl trivial ?_
      refine jx_ends rfl ⟨Or.inr rfl, trivial⟩ rfl ?_
      show _ = jL (auV v (1, pe, cv + 1, la)) a w
      unfold auV
      dsimp only
      rw [← nI_1 cv]
      rfl
    · refine jx_if rfl (fun _ => rest (fun z => h6 z.2)) (fun c1 => absurd (nI_le (a := 4) (b := cv) (by omega) (by omega)) c1)
  · rw [if_neg hd]
    refine jx_if rfl (fun _ => rest (fun z => hd z.1)) (fun c1 => absurd rfl c1)
theorem jl_takesHigh {pe cv la c : Nat} (hc : c ≤ 126) : jx_W 2 jk_X3_takesHigh 0 [some (.ref 4), some (.int (nI c))] [] (jL (auV v (4, pe, cv, la)) a w) (jx_is (some (.int (if au_step (4, pe, cv, la) c = none then 0 else 1))) (jL (auV v ((au_step (4, pe, cv, la) c).getD (4, pe, cv, la))) a w)) := by
  have es : au_step (4, pe, cv, la) c = if dig c then some (5, pe, cv, la + 1) else none := by
    unfold au_step
    dsimp only
    rw [if_neg (by decide), if_neg (by decide), if_neg (by decide), if_neg (by decide), if_pos rfl]
  rw [es]
  refine jx_auto rfl trivial ?_
  refine jx_callE 1 rfl (by decide) (jl_isDigit hc) ?_
  by_cases hd : dig c
  · rw [if_pos hd, if_pos hd]
    refine jx_if rfl (fun c1 => absurd (show (1 : Int32) = 0 from c1) (by decide)) (fun _ => ?_)
    have eW : ∀ h : jx_H, h = jL (jup (auV v (4, pe, cv, la)) 6 (nI la + 1)) a w → h = jL (auV v (4, pe, cv, la + 1)) a w := by
      intro h e
      rw [e]
      unfold auV
      dsimp only
      rw [← nI_1 la]
      rfl
    refine jx_auto rfl trivial ?_
    refine jx_at (h' := jL (auV v (4, pe, cv, la + 1)) a w) ?_ rfl rfl rfl (eW _ rfl)
    refine jx_callE 1 rfl (by decide) (jl_isDigit hc) ?_
    rw [if_pos hd]
    refine jx_auto rfl trivial ?_
    refine jx_callE 1 rfl (by decide) (jl_goesOn (4, pe, cv, la + 1) (b := true) (k := 5)) ?_
    exact jx_ends rfl ⟨Or.inr rfl, trivial⟩
  · rw [if_neg hd, if_neg hd]
    refine jx_if rfl (fun _ => ?_) (fun c1 => absurd rfl c1)
    refine jx_auto rfl trivial ?_
    refine jx_callE 1 rfl (by decide) (jl_isDigit hc) ?_
    rw [if_neg hd]
    refine jx_auto rfl trivial ?_
    refine jx_callE 1 rfl (by decide) (jl_goesOn (4, pe, cv, la) (b := false) (k := 5)) ?_
    exact jx_ends rfl ⟨Or.inl rfl, trivial⟩
end
