/-! THE PAGE as a text: an automaton that takes letter by letter, and a reader that goes by parts: the same -/
abbrev auS : Type := Nat × Nat × Nat × Nat
abbrev dig (c : Nat) : Prop := 48 ≤ c ∧ c ≤ 57
def au_step (s : auS) (c : Nat) : Option auS :=
  if s.1 = 0 then (if dig c ∧ s.2.1 < 6 then some (0, s.2.1 + 1, s.2.2.1, s.2.2.2) else if c = 59 ∧ 2 ≤ s.2.1 then some (1, s.2.1, s.2.2.1, s.2.2.2) else none)
  else if s.1 = 1 then (if dig c ∧ s.2.2.1 < 4 then some (1, s.2.1, s.2.2.1 + 1, s.2.2.2) else if c = 59 ∧ 2 ≤ s.2.2.1 then some (2, s.2.1, s.2.2.1, s.2.2.2) else none)
  else if s.1 = 2 then (if jx_kindC (nI c) = -1 then none else some (3, s.2.1, s.2.2.1, s.2.2.2))
  else if s.1 = 3 then (if dig c ∧ c < 48 + s.2.2.1 then some (4, s.2.1, s.2.2.1, s.2.2.2) else none)
  else if s.1 = 4 then (if dig c then some (5, s.2.1, s.2.2.1, s.2.2.2 + 1) else none)
  else (if c = 44 ∧ s.2.2.2 < 6 then some (2, s.2.1, s.2.2.1, s.2.2.2) else none)
def au_run (cc : Nat → Nat) : Nat → auS → Nat → Nat × auS
  | 0, s, k => (k, s)
  | m + 1, s, k => match au_step s (cc k) with
    | none => (k, s)
    | some s' => au_run cc m s' (k + 1)
/-- how many figures from k on, m at most -/
def fgN (cc : Nat → Nat) : Nat → Nat → Nat
  | _, 0 => 0
  | k, m + 1 => if dig (cc k) then fgN cc (k + 1) m + 1 else 0
/-- laughs: n more may come, j are read, from k on -/
def rd_l (cc : Nat → Nat) (t q : Nat) : Nat → Nat → Nat → Nat × Bool × Nat
  | 0, j, k => (k, false, j)
  | n + 1, j, k =>
    if jx_kindC (nI (cc k)) = -1 then (k, false, j)
    else if ¬ (dig (cc (k + 1)) ∧ cc (k + 1) < 48 + q) then (k + 1, false, j)
    else if ¬ dig (cc (k + 2)) then (k + 2, false, j)
    else if n = 0 ∨ ¬ cc (k + 3) = 44 then (k + 3, decide (k + 3 = t) && decide (1 < j + 1), j + 1)
    else rd_l cc t q n (j + 1) (k + 4)
def rd_p (cc : Nat → Nat) : Nat := fgN cc 0 6
def rd_q (cc : Nat → Nat) : Nat := fgN cc (rd_p cc + 1) 4
def rd (cc : Nat → Nat) (t : Nat) : Nat × Bool × Nat :=
  if rd_p cc < 2 ∨ ¬ cc (rd_p cc) = 59 then (rd_p cc, false, 0)
  else if rd_q cc < 2 ∨ ¬ cc (rd_p cc + 1 + rd_q cc) = 59 then (rd_p cc + 1 + rd_q cc, false, 0)
  else rd_l cc t (rd_q cc) 6 0 (rd_p cc + 1 + rd_q cc + 1)
theorem fgN_le (cc : Nat → Nat) : ∀ (k m : Nat), fgN cc k m ≤ m
  | _, 0 => Nat.le_refl 0
  | k, m + 1 => by
    rw [fgN]
    by_cases h : dig (cc k)
    · rw [if_pos h]; have := fgN_le cc (k + 1) m; omega
    · rw [if_neg h]; omega
theorem kind0 : jx_kindC (nI 0) = -1 := by decide
section
variable {cc : Nat → Nat} {t : Nat}
theorem au_pegs (hcc : ∀ k, t ≤ k → cc k = 0) : ∀ (m k i : Nat), m + k = t → i ≤ 6 → au_run cc m (0, i, 0, 0) k = if i + fgN cc k (6 - i) < 2 ∨ ¬ cc (k + fgN cc k (6 - i)) = 59 then (k + fgN cc k (6 - i), (0, i + fgN cc k (6 - i), 0, 0)) else au_run cc (t - (k + fgN cc k (6 - i) + 1)) (1, i + fgN cc k (6 - i), 0, 0) (k + fgN cc k (6 - i) + 1) := by
  intro m
  induction m with
  | zero =>
    intro k i hk hi
    have h0 : cc k = 0 := hcc k (by omega)
    have hf : fgN cc k (6 - i) = 0 := by
      cases h6 : 6 - i with
      | zero => rfl
      | succ n => rw [fgN, h0, if_neg (by unfold dig; omega)]
    rw [hf, au_run, Nat.add_zero, Nat.add_zero, if_pos (Or.inr (by omega))]
  | succ m ih =>
    intro k i hk hi
    by_cases hd : dig (cc k) ∧ i < 6
    · have hs : au_step (0, i, 0, 0) (cc k) = some (0, i + 1, 0, 0) := by
        unfold au_step; dsimp only; rw [if_pos rfl, if_pos hd]
      have hf : fgN cc k (6 - i) = fgN cc (k + 1) (6 - (i + 1)) + 1 := by
        rw [show 6 - i = (6 - (i + 1)) + 1 by omega, fgN, if_pos hd.1]
      rw [au_run, hs]
      dsimp only
      rw [ih (k + 1) (i + 1) (by omega) (by omega), hf]
      rw [show i + (fgN cc (k + 1) (6 - (i + 1)) + 1) = i + 1 + fgN cc (k + 1) (6 - (i + 1)) by omega, show k + (fgN cc (k + 1) (6 - (i + 1)) + 1) = k + 1 + fgN cc (k + 1) (6 - (i + 1)) by omega]
    · have hf : fgN cc k (6 - i) = 0 := by
        cases h6 : 6 - i with
        | zero => rfl
        | succ n => rw [fgN, if_neg (fun z => hd ⟨z, by omega⟩)]
      rw [hf, au_run, Nat.add_zero, Nat.add_zero]
      by_cases h59 : cc k = 59 ∧ 2 ≤ i
      · have hs : au_step (0, i, 0, 0) (cc k) = some (1, i, 0, 0) := by
          unfold au_step; dsimp only; rw [if_pos rfl, if_neg hd, if_pos h59]
        rw [hs, if_neg (by rintro (z | z); omega; exact z h59.1)]
        dsimp only
        rw [show t - (k + 1) = m by omega]
        rfl
      · have hs : au_step (0, i, 0, 0) (cc k) = none := by
          unfold au_step; dsimp only; rw [if_pos rfl, if_neg hd, if_neg h59]
        rw [hs, if_pos (by
          by_cases z : cc k = 59
          · exact Or.inl (by have : ¬ 2 ≤ i := fun q => h59 ⟨z, q⟩; omega)
          · exact Or.inr z)]
        rfl
theorem au_cov (hcc : ∀ k, t ≤ k → cc k = 0) (p : Nat) : ∀ (m k i : Nat), m + k = t → i ≤ 4 → au_run cc m (1, p, i, 0) k = if i + fgN cc k (4 - i) < 2 ∨ ¬ cc (k + fgN cc k (4 - i)) = 59 then (k + fgN cc k (4 - i), (1, p, i + fgN cc k (4 - i), 0)) else au_run cc (t - (k + fgN cc k (4 - i) + 1)) (2, p, i + fgN cc k (4 - i), 0) (k + fgN cc k (4 - i) + 1) := by
  intro m
  induction m with
  | zero =>
    intro k i hk hi
    have h0 : cc k = 0 := hcc k (by omega)
    have hf : fgN cc k (4 - i) = 0 := by
      cases h6 : 4 - i with
      | zero => rfl
      | succ n => rw [fgN, h0, if_neg (by unfold dig; omega)]
    rw [hf, au_run, Nat.add_zero, Nat.add_zero, if_pos (Or.inr (by omega))]
  | succ m ih =>
    intro k i hk hi
    by_cases hd : dig (cc k) ∧ i < 4
    · have hs : au_step (1, p, i, 0) (cc k) = some (1, p, i + 1, 0) := by
        unfold au_step; dsimp only; rw [if_neg (by decide), if_pos rfl, if_pos hd]
      have hf : fgN cc k (4 - i) = fgN cc (k + 1) (4 - (i + 1)) + 1 := by
        rw [show 4 - i = (4 - (i + 1)) + 1 by omega, fgN, if_pos hd.1]
      rw [au_run, hs]
      dsimp only
      rw [ih (k + 1) (i + 1) (by omega) (by omega), hf]
      rw [show i + (fgN cc (k + 1) (4 - (i + 1)) + 1) = i + 1 + fgN cc (k + 1) (4 - (i + 1)) by omega, show k + (fgN cc (k + 1) (4 - (i + 1)) + 1) = k + 1 + fgN cc (k + 1) (4 - (i + 1)) by omega]
    · have hf : fgN cc k (4 - i) = 0 := by
        cases h6 : 4 - i with
        | zero => rfl
        | succ n => rw [fgN, if_neg (fun z => hd ⟨z, by omega⟩)]
      rw [hf, au_run, Nat.add_zero, Nat.add_zero]
      by_cases h59 : cc k = 59 ∧ 2 ≤ i
      · have hs : au_step (1, p, i, 0) (cc k) = some (2, p, i, 0) := by
          unfold au_step; dsimp only; rw [if_neg (by decide), if_pos rfl, if_neg hd, if_pos h59]
        rw [hs, if_neg (by rintro (z | z); omega; exact z h59.1)]
        dsimp only
        rw [show t - (k + 1) = m by omega]
        rfl
      · have hs : au_step (1, p, i, 0) (cc k) = none := by
          unfold au_step; dsimp only; rw [if_neg (by decide), if_pos rfl, if_neg hd, if_neg h59]
        rw [hs, if_pos (by
          by_cases z : cc k = 59
          · exact Or.inl (by have : ¬ 2 ≤ i := fun q => h59 ⟨z, q⟩; omega)
          · exact Or.inr z)]
        rfl
/-- the automaton's end against the reader's -/
def au_ok (t p q : Nat) (A : Nat × auS) (B : Nat × Bool × Nat) : Prop := A.1 = B.1 ∧ (B.2.1 = true ↔ (A.1 = t ∧ A.2.1 = 5 ∧ 2 ≤ A.2.2.2.2)) ∧ (B.2.1 = true → A.2.2.1 = p ∧ A.2.2.2.1 = q ∧ A.2.2.2.2 = B.2.2)
theorem au_no {p q : Nat} {k part pe cv la l : Nat} (h : ¬ part = 5) : au_ok t p q (k, (part, pe, cv, la)) (k, false, l) := ⟨rfl, ⟨fun z => (by cases z), fun z => absurd z.2.1 h⟩, fun z => (by cases z)⟩
theorem au_laughs (hcc : ∀ k, t ≤ k → cc k = 0) (p q : Nat) : ∀ (n j k m : Nat), n + j = 6 → 0 < n → m + k = t → au_ok t p q (au_run cc m (2, p, q, j) k) (rd_l cc t q n j k) := by
  intro n
  induction n with
  | zero => intro j k m _ h0; omega
  | succ n ih =>
    intro j k m hj h0 hm
    rw [rd_l]
    -- the kind
    cases m with
    | zero =>
      have e : cc k = 0 := hcc k (by omega)
      rw [e, if_pos kind0]
      exact au_no (by decide)
    | succ m =>
      by_cases hk : jx_kindC (nI (cc k)) = -1
      · rw [if_pos hk, au_run, show au_step (2, p, q, j) (cc k) = none by unfold au_step; dsimp only; rw [if_neg (by decide), if_neg (by decide), if_pos rfl, if_pos hk]]
        exact au_no (by decide)
      · rw [if_neg hk, au_run, show au_step (2, p, q, j) (cc k) = some (3, p, q, j) by unfold au_step; dsimp only; rw [if_neg (by decide), if_neg (by decide), if_pos rfl, if_neg hk]]
        dsimp only
        -- the covert
        cases m with
        | zero =>
          have e : cc (k + 1) = 0 := hcc (k + 1) (by omega)
          rw [e, if_pos (by unfold dig; omega)]
          exact au_no (by decide)
        | succ m =>
          by_cases hd : dig (cc (k + 1)) ∧ cc (k + 1) < 48 + q
          · rw [if_neg (fun z => z hd), au_run, show au_step (3, p, q, j) (cc (k + 1)) = some (4, p, q, j) by unfold au_step; dsimp only; rw [if_neg (by decide), if_neg (by decide), if_neg (by decide), if_pos rfl, if_pos hd]]
            dsimp only
            -- how high
            cases m with
            | zero =>
              have e : cc (k + 2) = 0 := hcc (k + 2) (by omega)
              rw [e, if_pos (by unfold dig; omega)]
              exact au_no (by decide)
            | succ m =>
              by_cases hd2 : dig (cc (k + 2))
              · rw [if_neg (fun z => z hd2), au_run, show au_step (4, p, q, j) (cc (k + 1 + 1)) = some (5, p, q, j + 1) by unfold au_step; dsimp only; rw [if_neg (by decide), if_neg (by decide), if_neg (by decide), if_neg (by decide), if_pos rfl, if_pos hd2]]
                dsimp only
                -- behind it
                cases m with
                | zero =>
                  have e : cc (k + 3) = 0 := hcc (k + 3) (by omega)
                  rw [if_pos (Or.inr (by omega))]
                  refine ⟨rfl, ⟨fun z => ?_, fun z => ?_⟩, fun z => ⟨rfl, rfl, rfl⟩⟩
                  · simp only [Bool.and_eq_true, decide_eq_true_eq] at z
                    exact ⟨z.1, rfl, z.2⟩
                  · simp only [Bool.and_eq_true, decide_eq_true_eq]
                    exact ⟨z.1, z.2.2⟩
                | succ m =>
                  rw [au_run]
                  by_cases h44 : cc (k + 1 + 1 + 1) = 44 ∧ j + 1 < 6
                  · rw [show au_step (5, p, q, j + 1) (cc (k + 1 + 1 + 1)) = some (2, p, q, j + 1) by unfold au_step; dsimp only; rw [if_neg (by decide), if_neg (by decide), if_neg (by decide), if_neg (by decide), if_neg (by decide), if_pos h44]]
                    dsimp only
                    rw [if_neg (by rintro (z | z); omega; exact z h44.1)]
                    exact ih (j + 1) (k + 4) m (by omega) (by omega) (by omega)
                  · rw [show au_step (5, p, q, j + 1) (cc (k + 1 + 1 + 1)) = none by unfold au_step; dsimp only; rw [if_neg (by decide), if_neg (by decide), if_neg (by decide), if_neg (by decide), if_neg (by decide), if_neg h44]]
                    dsimp only
                    rw [if_pos (by
                      by_cases z : cc (k + 3) = 44
                      · exact Or.inl (by have : ¬ j + 1 < 6 := fun y => h44 ⟨z, y⟩; omega)
                      · exact Or.inr z)]
                    refine ⟨rfl, ⟨fun z => ?_, fun z => ?_⟩, fun z => ⟨rfl, rfl, rfl⟩⟩
                    · simp only [Bool.and_eq_true, decide_eq_true_eq] at z
                      exact ⟨z.1, rfl, z.2⟩
                    · simp only [Bool.and_eq_true, decide_eq_true_eq]
                      exact ⟨z.1, z.2.2⟩
              · rw [if_pos hd2, au_run, show au_step (4, p, q, j) (cc (k + 1 + 1)) = none by unfold au_step; dsimp only; rw [if_neg (by decide), if_neg (by decide), if_neg (by decide), if_neg (by decide), if_pos rfl, if_neg hd2]]
                exact au_no (by decide)
          · rw [if_pos hd, au_run, show au_step (3, p, q, j) (cc (k + 1)) = none by unfold au_step; dsimp only; rw [if_neg (by decide), if_neg (by decide), if_neg (by decide), if_pos rfl, if_neg hd]]
            exact au_no (by decide)
theorem au_all (hcc : ∀ k, t ≤ k → cc k = 0) : au_ok t (rd_p cc) (rd_q cc) (au_run cc t (0, 0, 0, 0) 0) (rd cc t) := by
  rw [au_pegs hcc t 0 0 (by omega) (by omega)]
  rw [show 6 - 0 = 6 from rfl, Nat.zero_add]
  show au_ok t (rd_p cc) (rd_q cc) (if rd_p cc < 2 ∨ ¬ cc (rd_p cc) = 59 then _ else _) _
  unfold rd
  by_cases h1 : rd_p cc < 2 ∨ ¬ cc (rd_p cc) = 59
  · rw [if_pos h1, if_pos h1]
    exact au_no (by decide)
  · rw [if_neg h1, if_neg h1]
    have hp : rd_p cc < t := by
      by_cases z : t ≤ rd_p cc
      · exact absurd (Or.inr (by rw [hcc _ z]; decide)) h1
      · omega
    show au_ok t (rd_p cc) (rd_q cc) (au_run cc (t - (rd_p cc + 1)) (1, rd_p cc, 0, 0) (rd_p cc + 1)) _
    rw [au_cov hcc (rd_p cc) (t - (rd_p cc + 1)) (rd_p cc + 1) 0 (by omega) (by omega)]
    rw [show 4 - 0 = 4 from rfl, Nat.zero_add]
    show au_ok t (rd_p cc) (rd_q cc) (if rd_q cc < 2 ∨ ¬ cc (rd_p cc + 1 + rd_q cc) = 59 then _ else _) _
    by_cases h2 : rd_q cc < 2 ∨ ¬ cc (rd_p cc + 1 + rd_q cc) = 59
    · rw [if_pos h2, if_pos h2]
      exact au_no (by decide)
    · rw [if_neg h2, if_neg h2]
      have hq : rd_p cc + 1 + rd_q cc < t := by
        by_cases z : t ≤ rd_p cc + 1 + rd_q cc
        · exact absurd (Or.inr (by rw [hcc _ z]; decide)) h2
        · omega
      exact au_laughs hcc (rd_p cc) (rd_q cc) 6 0 _ _ (by omega) (by omega) (by show t - (rd_p cc + 1 + rd_q cc + 1) + (rd_p cc + 1 + rd_q cc + 1) = t; omega)
/-! what a whole text is -/
theorem fgN_dig : ∀ (m k i : Nat), i < fgN cc k m → dig (cc (k + i))
  | 0, k, i, h => absurd h (Nat.not_lt_zero i)
  | m + 1, k, i, h => by
    rw [fgN] at h
    by_cases hd : dig (cc k)
    · rw [if_pos hd] at h
      cases i with
      | zero => exact hd
      | succ i =>
        have := fgN_dig m (k + 1) i (by omega)
        rw [show k + (i + 1) = k + 1 + i by omega]
        exact this
    · rw [if_neg hd] at h; omega
theorem rd_l_whole {q : Nat} : ∀ (n j k : Nat), n + j = 6 → (rd_l cc t q n j k).2.1 = true → ∃ l, (rd_l cc t q n j k).2.2 = j + l ∧ 1 ≤ l ∧ l ≤ n ∧ 2 ≤ j + l ∧ k + 4 * l = t + 1 ∧ ∀ i, i < l → (dig (cc (k + 4 * i + 1)) ∧ cc (k + 4 * i + 1) < 48 + q) ∧ dig (cc (k + 4 * i + 2)) := by
  intro n
  induction n with
  | zero => intro j k _ h; cases h
  | succ n ih =>
    intro j k hj h
    rw [rd_l] at h ⊢
    by_cases h1 : jx_kindC (nI (cc k)) = -1
    · rw [if_pos h1] at h; cases h
    · rw [if_neg h1] at h ⊢
      by_cases h2 : dig (cc (k + 1)) ∧ cc (k + 1) < 48 + q
      · rw [if_neg (fun z => z h2)] at h ⊢
        by_cases h3 : dig (cc (k + 2))
        · rw [if_neg (fun z => z h3)] at h ⊢
          by_cases h4 : n = 0 ∨ ¬ cc (k + 3) = 44
          · rw [if_pos h4] at h ⊢
            simp only [Bool.and_eq_true, decide_eq_true_eq] at h
            refine ⟨1, rfl, by omega, by omega, by omega, by omega, fun i hi => ?_⟩
            have e : i = 0 := by omega
            subst e
            exact ⟨h2, h3⟩
          · rw [if_neg h4] at h ⊢
            obtain ⟨l, a1, a2, a3, a4, a5, a6⟩ := ih (j + 1) (k + 4) (by omega) h
            refine ⟨l + 1, by rw [a1]; omega, by omega, by omega, by omega, by omega, fun i hi => ?_⟩
            cases i with
            | zero => exact ⟨h2, h3⟩
            | succ i =>
              have := a6 i (by omega)
              rw [show k + 4 * (i + 1) + 1 = k + 4 + 4 * i + 1 by omega, show k + 4 * (i + 1) + 2 = k + 4 + 4 * i + 2 by omega]
              exact this
        · rw [if_pos h3] at h; cases h
      · rw [if_pos h2] at h; cases h
theorem rd_whole (h : (rd cc t).2.1 = true) : 2 ≤ rd_p cc ∧ rd_p cc ≤ 6 ∧ 2 ≤ rd_q cc ∧ rd_q cc ≤ 4 ∧ 2 ≤ (rd cc t).2.2 ∧ (rd cc t).2.2 ≤ 6 ∧ rd_p cc + rd_q cc + 2 + 4 * (rd cc t).2.2 = t + 1 ∧ (∀ i, i < rd_p cc → dig (cc i)) ∧ (∀ i, i < rd_q cc → dig (cc (rd_p cc + 1 + i))) ∧ ∀ i, i < (rd cc t).2.2 → (dig (cc (rd_p cc + rd_q cc + 2 + 4 * i + 1)) ∧ cc (rd_p cc + rd_q cc + 2 + 4 * i + 1) < 48 + rd_q cc) ∧ dig (cc (rd_p cc + rd_q cc + 2 + 4 * i + 2)) := by
  have hp := fgN_le cc 0 6
  have hq := fgN_le cc (rd_p cc + 1) 4
  have hd1 := fun i => fgN_dig (cc := cc) 6 0 i
  have hd2 := fun i => fgN_dig (cc := cc) 4 (rd_p cc + 1) i
  unfold rd at h ⊢
  by_cases h1 : rd_p cc < 2 ∨ ¬ cc (rd_p cc) = 59
  · rw [if_pos h1] at h; cases h
  · rw [if_neg h1] at h ⊢
    by_cases h2 : rd_q cc < 2 ∨ ¬ cc (rd_p cc + 1 + rd_q cc) = 59
    · rw [if_pos h2] at h; cases h
    · rw [if_neg h2] at h ⊢
      obtain ⟨l, a1, a2, a3, a4, a5, a6⟩ := rd_l_whole (t := t) (q := rd_q cc) 6 0 (rd_p cc + 1 + rd_q cc + 1) (by omega) h
      rw [a1, Nat.zero_add]
      refine ⟨by omega, hp, by omega, hq, by omega, by omega, by omega, fun i hi => ?_, fun i hi => hd2 i hi, fun i hi => ?_⟩
      · have := hd1 i hi; rw [Nat.zero_add] at this; exact this
      · have := a6 i hi
        rw [show rd_p cc + 1 + rd_q cc + 1 = rd_p cc + rd_q cc + 2 by omega] at this
        exact this
end
