/-! LaughDrive reads THE PAGE: takes, faultPlace, fault -/
def au0 : auS := (0, 0, 0, 0)
theorem kind_c : ∀ c, c ≤ 126 → jx_kindOf (nI c) = jx_kindC (nI c) := by decide +kernel
/-- the letters told: they are small, 0 behind the end -/
def pgcc (t : Nat) (f : Nat → Int32) (k : Nat) : Nat := if k < t then (f k).toNatClampNeg else 0
def pgok (t : Nat) (f : Nat → Int32) : Prop := ∀ k, k < t → ∃ m, m ≤ 126 ∧ f k = nI m
theorem pgcc_in {t : Nat} {f : Nat → Int32} (h : pgok t f) {k : Nat} (hk : k < t) : f k = nI (pgcc t f k) ∧ pgcc t f k ≤ 126 := by
  obtain ⟨m, hm, e⟩ := h k hk
  unfold pgcc
  rw [if_pos hk, e, nI_clamp (by omega)]
  exact ⟨rfl, hm⟩
theorem pgcc_out {t : Nat} {f : Nat → Int32} : ∀ k, t ≤ k → pgcc t f k = 0 := fun k hk => if_neg (by omega)
section
variable {v : Nat → Int32} {a : Nat → List Int32} {w : Int64}
theorem jl_takes {s : auS} (hs : auI s) {c : Nat} (hc : c ≤ 126) : jx_W 9 jk_X3_takes 0 [some (.ref 4), some (.int (nI c))] [] (jL (auV v s) a w) (jx_is (some (.int (if au_step s c = none then 0 else 1))) (jL (auV v ((au_step s c).getD s)) a w)) := by
  obtain ⟨pt, pe, cv, la⟩ := s
  unfold auI at hs
  dsimp only at hs
  have b01 : ∀ o : Option auS, (if o = none then (0 : Int32) else 1) = 0 ∨ (if o = none then (0 : Int32) else 1) = 1 := fun o => by
    cases o with
    | none => exact Or.inl rfl
    | some x => exact Or.inr rfl
  refine jx_auto rfl trivial ?_
  rcases (show pt = 0 ∨ pt = 1 ∨ pt = 2 ∨ pt = 3 ∨ pt = 4 ∨ pt = 5 by omega) with e | e | e | e | e | e <;> subst e
  · refine jx_switch rfl ⟨fun _ => ?_, fun z => absurd rfl z⟩
    refine jx_auto rfl trivial ?_
    refine jx_callE 2 rfl (by decide) (jl_takesPeg hc hs.2.1) ?_
    exact jx_ends rfl ⟨b01 _, trivial⟩
  · refine jx_switch rfl ⟨fun z => absurd (show nI 1 = 0 from z) (by decide), fun _ => ⟨fun _ => ?_, fun z => absurd rfl z⟩⟩
    refine jx_auto rfl trivial ?_
    refine jx_callE 2 rfl (by decide) (jl_takesCovert hc hs.2.2.1) ?_
    exact jx_ends rfl ⟨b01 _, trivial⟩
  · refine jx_switch rfl ⟨fun z => absurd (show nI 2 = 0 from z) (by decide), fun _ => ⟨fun z => absurd (show nI 2 = 1 from z) (by decide), fun _ => ⟨fun _ => ?_, fun z => absurd rfl z⟩⟩⟩
    have es : ∀ b : Bool, (b = true ↔ ¬ jx_kindC (nI c) = -1) → au_step (2, pe, cv, la) c = if b = true then some (3, (pe, cv, la)) else none := by
      intro b hb
      unfold au_step
      dsimp only
      rw [if_neg (by decide), if_neg (by decide), if_pos rfl]
      by_cases h : jx_kindC (nI c) = -1
      · rw [if_pos h, if_neg (fun z => hb.mp z h)]
      · rw [if_neg h, if_pos (hb.mpr h)]
    refine jx_auto rfl trivial ?_
    refine jx_callE 8 rfl (by decide) (jx_kind_of ⟨rfl, rfl⟩) ?_
    rw [kind_c c hc]
    refine jx_auto rfl trivial ?_
    refine jx_if rfl (fun c1 => ?_) (fun c1 => ?_)
    · refine jx_steps 2 rfl trivial ?_
      exact jx_deep (d := 2) (by decide) (jl_goes (2, pe, cv, la) (b := false) (k := 3) (es false ⟨fun z => (by cases z), fun z => absurd c1 z⟩) rfl (fun _ => rfl))
    · refine jx_steps 3 rfl trivial ?_
      exact jx_deep (d := 2) (by decide) (jl_goes (2, pe, cv, la) (b := true) (k := 3) (es true ⟨fun _ => c1, fun _ => rfl⟩) rfl (fun _ => rfl))
  · refine jx_switch rfl ⟨fun z => absurd (show nI 3 = 0 from z) (by decide), fun _ => ⟨fun z => absurd (show nI 3 = 1 from z) (by decide), fun _ => ⟨fun z => absurd (show nI 3 = 2 from z) (by decide), fun _ => ⟨fun _ => ?_, fun z => absurd rfl z⟩⟩⟩⟩
    have es : ∀ b : Bool, (b = true ↔ (dig c ∧ c < 48 + cv)) → au_step (3, pe, cv, la) c = if b = true then some (4, (pe, cv, la)) else none := by
      intro b hb
      unfold au_step
      dsimp only
      rw [if_neg (by decide), if_neg (by decide), if_neg (by decide), if_pos rfl]
      by_cases h : dig c ∧ c < 48 + cv
      · rw [if_pos h, if_pos (hb.mpr h)]
      · rw [if_neg h, if_neg (fun z => h (hb.mp z))]
    refine jx_auto rfl trivial ?_
    refine jx_callE 1 rfl (by decide) (jl_isDigit hc) ?_
    by_cases hd : dig c
    · rw [if_pos hd]
      refine jx_if rfl (fun c1 => absurd (show (1 : Int32) = 0 from c1) (by decide)) (fun _ => ?_)
      refine jx_auto rfl trivial ?_
      dsimp only
      rw [show nI c - 48 = nI (c - 48) from pk_sub (b := 48) hd.1]
      refine jx_if rfl (fun c1 => ?_) (fun c1 => ?_)
      · have h1 : cv ≤ c - 48 := (nI_leI (by omega) (by omega)).mp c1
        refine jx_steps 2 rfl trivial ?_
        exact jx_deep (d := 2) (by decide) (jl_goes (3, pe, cv, la) (b := false) (k := 4) (es false ⟨fun z => (by cases z), fun z => (by omega)⟩) rfl (fun _ => rfl))
      · have h1 : ¬ cv ≤ c - 48 := fun z => c1 (nI_le z (by omega))
        refine jx_steps 3 rfl trivial ?_
        exact jx_deep (d := 2) (by decide) (jl_goes (3, pe, cv, la) (b := true) (k := 4) (es true ⟨fun _ => ⟨hd, by omega⟩, fun _ => rfl⟩) rfl (fun _ => rfl))
    · rw [if_neg hd]
      refine jx_if rfl (fun _ => ?_) (fun c1 => absurd rfl c1)
      refine jx_steps 2 rfl trivial ?_
      exact jx_deep (d := 2) (by decide) (jl_goes (3, pe, cv, la) (b := false) (k := 4) (es false ⟨fun z => (by cases z), fun z => absurd z.1 hd⟩) rfl (fun _ => rfl))
  · refine jx_switch rfl ⟨fun z => absurd (show nI 4 = 0 from z) (by decide), fun _ => ⟨fun z => absurd (show nI 4 = 1 from z) (by decide), fun _ => ⟨fun z => absurd (show nI 4 = 2 from z) (by decide), fun _ => ⟨fun z => absurd (show nI 4 = 3 from z) (by decide), fun _ => ⟨fun _ => ?_, fun z => absurd rfl z⟩⟩⟩⟩⟩
    refine jx_auto rfl trivial ?_
    refine jx_callE 2 rfl (by decide) (jl_takesHigh hc) ?_
    exact jx_ends rfl ⟨b01 _, trivial⟩
  · refine jx_switch rfl ⟨fun z => absurd (show nI 5 = 0 from z) (by decide), fun _ => ⟨fun z => absurd (show nI 5 = 1 from z) (by decide), fun _ => ⟨fun z => absurd (show nI 5 = 2 from z) (by decide), fun _ => ⟨fun z => absurd (show nI 5 = 3 from z) (by decide), fun _ => ⟨fun z => absurd (show nI 5 = 4 from z) (by decide), fun _ => ?_⟩⟩⟩⟩⟩
    have es : ∀ b : Bool, (b = true ↔ (c = 44 ∧ la < 6)) → au_step (5, pe, cv, la) c = if b = true then some (2, (pe, cv, la)) else none := by
      intro b hb
      unfold au_step
      dsimp only
      rw [if_neg (by decide), if_neg (by decide), if_neg (by decide), if_neg (by decide), if_neg (by decide)]
      by_cases h : c = 44 ∧ la < 6
      · rw [if_pos h, if_pos (hb.mpr h)]
      · rw [if_neg h, if_neg (fun z => h (hb.mp z))]
    refine jx_auto rfl trivial ?_
    refine jx_if rfl (fun c1 => ?_) (fun c1 => ?_)
    · have h1 : ¬ c = 44 := fun z => c1 (by rw [z]; rfl)
      refine jx_steps 2 rfl trivial ?_
      exact jx_deep (d := 2) (by decide) (jl_goes (5, pe, cv, la) (b := false) (k := 2) (es false ⟨fun z => (by cases z), fun z => absurd z.1 h1⟩) rfl (fun _ => rfl))
    · have h1 : c = 44 := (nI_eq (b := 44) (by omega) (by decide)).mp (Decidable.not_not.mp c1)
      refine jx_auto rfl trivial ?_
      refine jx_if rfl (fun c2 => ?_) (fun c2 => ?_)
      · have h2 : 6 ≤ la := (nI_leI (a := 6) (by decide) (by omega)).mp c2
        refine jx_steps 2 rfl trivial ?_
        exact jx_deep (d := 2) (by decide) (jl_goes (5, pe, cv, la) (b := false) (k := 2) (es false ⟨fun z => (by cases z), fun z => (by omega)⟩) rfl (fun _ => rfl))
      · have h2 : ¬ 6 ≤ la := fun z => c2 (nI_le (a := 6) (b := la) z (by omega))
        refine jx_steps 3 rfl trivial ?_
        exact jx_deep (d := 2) (by decide) (jl_goes (5, pe, cv, la) (b := true) (k := 2) (es true ⟨fun _ => ⟨h1, by omega⟩, fun _ => rfl⟩) rfl (fun _ => rfl))
theorem auI_0 : auI au0 := by unfold auI au0; dsimp only; omega
theorem jl_faultPlace {t : Nat} {f : Nat → Int32} (hp : jpgL v a t f) (hok : pgok t f) : jx_W 10 jk_X1_faultPlace 0 [some (.ref 1), none] [] (jL v a w) (jx_is (some (.int (nI (au_run (pgcc t f) t au0 0).1))) (jL (auV v (au_run (pgcc t f) t au0 0).2) a w)) := by
  obtain ⟨p1, p2, p3, p4⟩ := hp
  have begin_ : jx_W 1 jk_X3_begin 0 [some (.ref 4)] [] (jL v a w) (jx_is none (jL (auV v au0) a w)) := by
    refine jx_auto rfl trivial ?_
    exact jx_ends rfl trivial
  have loop : ∀ m k s, m + k = t → auI s → jx_W 10 jk_X1_faultPlace 9 [some (.ref 1), some (.int (nI k))] [] (jL (auV v s) a w) (jx_is (some (.int (nI (au_run (pgcc t f) m s k).1))) (jL (auV v (au_run (pgcc t f) m s k).2) a w)) := by
    intro m
    induction m with
    | zero =>
      intro k s hk hs
      have e : k = t := by omega
      refine jx_auto rfl trivial ?_
      have e3 : auV v s 3 = nI t := p1
      rw [e3]
      refine jx_if rfl (fun _ => ?_) (fun c1 => absurd (nI_le (by omega) (by omega)) c1)
      refine jx_auto rfl trivial ?_
      refine jx_ends rfl trivial ?_ rfl
      rw [au_run, e3, e]
    | succ m ih =>
      intro k s hk hs
      have hkt : k < t := by omega
      obtain ⟨c1, c2⟩ := pgcc_in hok hkt
      have e3 : auV v s 3 = nI t := p1
      refine jx_auto rfl trivial ?_
      rw [e3]
      refine jx_if rfl (fun c1 => absurd c1 (nI_ge hkt (by omega))) (fun _ => ?_)
      refine jx_auto rfl trivial ?_
      refine jx_callE 1 rfl (by decide) (jr_at (q := 3) (l := a 0) (by omega) rfl rfl) ?_
      rw [jp_at_in (by omega) (by omega), p4 k hkt, c1]
      refine jx_auto rfl trivial ?_
      refine jx_callE 9 rfl (by decide) (jl_takes hs c2) ?_
      cases h : au_step s (pgcc t f k) with
      | none =>
        refine jx_if rfl (fun c1 => absurd rfl c1) (fun _ => ?_)
        refine jx_auto rfl trivial ?_
        refine jx_ends rfl trivial ?_ ?_
        · rw [au_run, h]
        · rw [au_run, h]; rfl
      | some s' =>
        refine jx_if rfl (fun _ => ?_) (fun c1 => absurd (show ¬ (1 : Int32) = 0 by decide) c1)
        refine jx_steps 2 rfl trivial ?_
        rw [nI_1]
        have z := ih (k + 1) s' (by omega) (auI_step hs h)
        rw [au_run, h]
        exact z
  refine jx_auto rfl trivial ?_
  refine jx_callE 1 rfl (by decide) begin_ ?_
  refine jx_steps 2 rfl trivial ?_
  exact loop t 0 au0 (by omega) auI_0
/-- what reading leaves -/
def jLf (v : Nat → Int32) (a : Nat → List Int32) (w : Int64) (r : Int32) : jx_Q := fun r' h' => ∃ v', r' = some (.int r) ∧ h' = jL v' a w ∧ ∀ j, j < 4 ∨ 7 < j → v' j = v j
theorem auV_n {s : auS} {j : Nat} (h : j < 4 ∨ 7 < j) : auV v s j = v j := by
  unfold auV
  rw [jup_n _ _ (by omega), jup_n _ _ (by omega), jup_n _ _ (by omega), jup_n _ _ (by omega)]
def an_fault (t : Nat) (f : Nat → Int32) : Int32 := nI (rd (pgcc t f) t).1
theorem jl_fault {t : Nat} {f : Nat → Int32} (hp : jpgL v a t f) (hok : pgok t f) : jx_W 11 jk_X6_fault 0 [some (.ref 0)] [] (jL v a w) (jLf v a w (an_fault t f)) := by
  refine jx_auto rfl trivial ?_
  refine jx_callE 10 rfl (by decide) (jl_faultPlace hp hok) ?_
  refine jx_auto rfl trivial ?_
  refine jx_done rfl trivial ⟨_, ?_, rfl, fun j hj => auV_n hj⟩
  have := (au_all (cc := pgcc t f) (t := t) pgcc_out).1
  unfold an_fault
  rw [← this]
  rfl
end
