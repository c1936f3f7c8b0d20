/-! a drive: who is had, where the others go, what it is worth -/
def sp_had (G : jG) (p c : Nat) (x : Int32) : Option Nat := sp_hadN G (grc G p) (nI p) c x (glg G)
def sp_next (G : jG) (c : Nat) : Nat := if c + 1 < gcv G then c + 1 else 0
def sp_taken (G : jG) (c : Nat) (x : Int32) : Nat → Nat → Bool
  | 0, _ => false
  | n + 1, l => sp_taken G c x n l || decide (sp_had G n c x = some l)
def sp_after (G : jG) (c : Nat) (x : Int32) : Nat → Int32 := fun l => if gco G l = nI c then (if sp_taken G c x (gpg G) l = true then -1 else nI (sp_next G c)) else gco G l
def sp_sum (f : Nat → Int32) : Nat → Int32
  | 0 => 0
  | n + 1 => sp_sum f n + f n
def sp_by (f : Nat → Int32) (o : Option Nat) : Int32 := match o with
  | none => 0
  | some b => f b
/-- what the drive is worth -/
def sp_gain (G : jG) (c : Nat) (x : Int32) : Int32 := sp_sum (fun p => sp_by (fun b => sp_height G b c) (sp_had G p c x)) (gpg G)
/-- how many are had -/
def sp_many (G : jG) (c : Nat) (x : Int32) : Int32 := sp_sum (fun p => sp_by (fun _ => 1) (sp_had G p c x)) (gpg G)
theorem sp_sum_congr {f g : Nat → Int32} : ∀ {n : Nat}, (∀ k, k < n → f k = g k) → sp_sum f n = sp_sum g n
  | 0, _ => rfl
  | n + 1, h => by rw [sp_sum, sp_sum, h n (by omega), sp_sum_congr (fun k hk => h k (by omega))]
theorem sp_sum_zero : ∀ n, sp_sum (fun _ => 0) n = 0
  | 0 => rfl
  | n + 1 => by rw [sp_sum, sp_sum_zero n]; rfl
theorem sp_sum_one {f : Nat → Int32} {b : Nat} {y : Int32} : ∀ {n : Nat}, b < n → sp_sum (fun l => f l + if l = b then y else 0) n = sp_sum f n + y
  | 0, h => absurd h (Nat.not_lt_zero _)
  | n + 1, h => by
    rw [sp_sum, sp_sum]
    by_cases e : n = b
    · subst e
      rw [if_pos rfl, sp_sum_congr (g := f) (fun k hk => by rw [if_neg (by omega), Int32.add_zero]), Int32.add_assoc]
    · rw [if_neg e, sp_sum_one (by omega), Int32.add_zero, Int32.add_assoc, Int32.add_assoc, Int32.add_comm y]
section
variable {G : jG}
theorem sp_had_of {p c b : Nat} {x : Int32} (h : sp_had G p c x = some b) : b < glg G ∧ gco G b = nI c ∧ sp_peg G b (nI c) x = nI p ∧ 0 < sp_height G b c ∧ sp_height G b c ≤ grc G p := by
  obtain ⟨h1, h2⟩ := sp_had_cand h
  exact ⟨h1, sp_candB_iff.mp h2⟩
theorem sp_taken_iff {c : Nat} {x : Int32} {l : Nat} : ∀ {n : Nat}, sp_taken G c x n l = true ↔ ∃ p, p < n ∧ sp_had G p c x = some l
  | 0 => by simp [sp_taken]
  | n + 1 => by
    rw [sp_taken, Bool.or_eq_true, sp_taken_iff (n := n), decide_eq_true_eq]
    constructor
    · rintro (⟨p, h1, h2⟩ | h)
      · exact ⟨p, by omega, h2⟩
      · exact ⟨n, by omega, h⟩
    · rintro ⟨p, h1, h2⟩
      by_cases e : p = n
      · subst e; exact Or.inr h2
      · exact Or.inl ⟨p, by omega, h2⟩
/-- one who is had at a peg was not had at another -/
theorem sp_taken_new {c : Nat} {x : Int32} {n b : Nat} (hn : n < 2 ^ 31) (h : sp_had G n c x = some b) : sp_taken G c x n b = false := by
  cases ht : sp_taken G c x n b with
  | false => rfl
  | true =>
    obtain ⟨p, h1, h2⟩ := sp_taken_iff.mp ht
    have e1 := (sp_had_of h).2.2.1
    have e2 := (sp_had_of h2).2.2.1
    have := (nI_eq (by omega) (by omega)).mp (e1.symm.trans e2)
    omega
/-- told by those who are had, or by the pegs: the same -/
theorem sp_swap (f : Nat → Int32) {c : Nat} {x : Int32} : ∀ {n : Nat}, n ≤ 6 → sp_sum (fun l => if sp_taken G c x n l = true then f l else 0) (glg G) = sp_sum (fun p => sp_by f (sp_had G p c x)) n
  | 0, _ => by
    rw [sp_sum_congr (g := fun _ => 0) (fun k _ => by simp [sp_taken]), sp_sum_zero]; rfl
  | n + 1, hn => by
    rw [sp_sum, ← sp_swap f (n := n) (by omega)]
    cases ho : sp_had G n c x with
    | none =>
      rw [sp_by, Int32.add_zero]
      exact sp_sum_congr (fun k _ => by rw [sp_taken, ho]; simp)
    | some b =>
      have hb := sp_had_of ho
      rw [sp_by, ← sp_sum_one (f := fun l => if sp_taken G c x n l = true then f l else 0) hb.1]
      refine sp_sum_congr (fun k _ => ?_)
      rw [sp_taken, ho]
      by_cases e : k = b
      · subst e
        rw [sp_taken_new (by omega) ho]
        simp
      · have : ¬ b = k := fun z => e z.symm
        simp [e, this]
end
section
variable {v : Nat → Int32} {a : Nat → List Int32} {w : Int64} {G : jG}
theorem jl_placesAfter (h : jLG v a G) {P : Int32} {co : Nat → Int32} (hP : jpk P co (glg G)) {c : Nat} (hc : c < gcv G) {x : Int32} : jx_W 5 jk_X0_placesAfter 0 [some (.ref 6), some (.int P), some (.int (nI c)), some (.int x), none, none, none, none, none] [] (jL v a w) (fun r h' => ∃ P', r = some (.int P') ∧ h' = jL v a w ∧ jpk P' (sp_after (gst G 5 co) c x) (glg G)) := by
  have ho := h.ok
  refine jx_auto rfl trivial ?_
  refine jx_callE 2 rfl (by decide) (jl_laughsIn h hP) ?_
  have next : jx_W 5 jk_X0_placesAfter 25 [some (.ref 6), some (.int P), some (.int (nI c)), some (.int x), some (.int (jb_set (fun l => decide (co l = nI c)) (glg G))), none, none, none, none] [.int (nI (sp_next G c))] (jL v a w) (fun r h' => ∃ P', r = some (.int P') ∧ h' = jL v a w ∧ jpk P' (sp_after (gst G 5 co) c x) (glg G)) := by
    have hnx : sp_next G c ≤ 4 := by unfold sp_next; split <;> omega
    have second : ∀ k i, i + k = gpg G → ∀ (P2 : Int32) (z : Option Value), jpk P2 (fun l => if co l = nI c then (if sp_taken (gst G 5 co) c x i l = true then -1 else nI (sp_next G c)) else co l) (glg G) → jx_W 5 jk_X0_placesAfter 72 [some (.ref 6), some (.int P), some (.int (nI c)), some (.int x), some (.int (jb_set (fun l => decide (co l = nI c)) (glg G))), some (.int (nI (sp_next G c))), some (.int P2), some (.int (nI i)), z] [] (jL v a w) (fun r h' => ∃ P', r = some (.int P') ∧ h' = jL v a w ∧ jpk P' (sp_after (gst G 5 co) c x) (glg G)) := by
      intro k
      induction k with
      | zero =>
        intro i hi P2 z hP2
        have fin : jx_W 5 jk_X0_placesAfter 134 [some (.ref 6), some (.int P), some (.int (nI c)), some (.int x), some (.int (jb_set (fun l => decide (co l = nI c)) (glg G))), some (.int (nI (sp_next G c))), some (.int P2), some (.int (nI i)), z] [] (jL v a w) (fun r h' => ∃ P', r = some (.int P') ∧ h' = jL v a w ∧ jpk P' (sp_after (gst G 5 co) c x) (glg G)) := by
          refine jx_auto rfl trivial ?_
          refine jx_done rfl trivial ⟨P2, rfl, rfl, ?_⟩
          have e : i = gpg G := by omega
          subst e
          exact hP2
        refine jx_auto rfl trivial ?_
        refine jx_if rfl (fun _ => fin) (fun _ => ?_)
        refine jx_auto rfl trivial ?_
        exact jx_if rfl (fun _ => fin) (fun c1 => absurd (jc_end h.pegs (by omega) (by omega)) c1)
      | succ k ih =>
        intro i hi P2 z hP2
        refine jx_auto rfl trivial ?_
        refine jx_if rfl (fun c1 => ?_) (fun _ => ?_)
        · refine jx_auto rfl trivial ?_
          refine jx_done rfl trivial ⟨P2, rfl, rfl, jpk_congr hP2 (fun l hl => ?_)⟩
          have := (jb_zero _ ho.2.2.1).mp c1 l hl
          have e : ¬ co l = nI c := by simpa using this
          show _ = if co l = nI c then _ else co l
          rw [if_neg e, if_neg e]
        · refine jx_auto rfl trivial ?_
          refine jx_if rfl (fun c1 => absurd c1 (jc_on h.pegs (by omega) (by omega))) (fun _ => ?_)
          have hn := h.lens
          refine jx_auto rfl trivial ?_
          refine jx_callE 1 rfl (by decide) (jr_at (by omega) rfl rfl) ?_
          have e := h.atReach (show i < gpg G by omega)
          refine jx_auto rfl trivial ?_
          refine jx_callE 4 rfl (by decide) (jl_hadAt (co := co) h hc) ?_
          refine jx_at (pc' := 105) (st' := [.int (sp_opt (sp_had (gst G 5 co) i c x))]) ?_ rfl rfl (by rw [sp_had, ← show jp_at (a 1) (nI i) = grc (gst G 5 co) i from e] <;> rfl) rfl
          refine jx_auto rfl trivial ?_
          cases hq : sp_had (gst G 5 co) i c x with
          | none =>
            refine jx_if rfl (fun c2 => absurd rfl c2) (fun _ => ?_)
            refine jx_steps 5 rfl trivial ?_
            rw [nI_1]
            refine ih (i + 1) (by omega) P2 _ (jpk_congr hP2 (fun l hl => ?_))
            show _ = if co l = nI c then (if sp_taken (gst G 5 co) c x (i + 1) l = true then _ else _) else co l
            rw [sp_taken, hq]
            simp
          | some b =>
            have hb := sp_had_of hq
            have hb1 : b < glg G := hb.1
            have hb2 : co b = nI c := hb.2.1
            refine jx_if rfl (fun _ => ?_) (fun c2 => absurd (fun z => ?_) c2)
            · refine jx_auto rfl trivial ?_
              refine jx_callE 1 rfl (by decide) jl_withPlace ?_
              refine jx_steps 3 rfl trivial ?_
              rw [nI_1]
              refine ih (i + 1) (by omega) _ _ (jpk_congr (jpk_set hP2 ho.2.2.1 (show b < 6 by omega) (show 0 < 8 by decide) (c := -1) (by decide)) (fun l hl => ?_))
              show jup _ b (-1) l = if co l = nI c then (if sp_taken (gst G 5 co) c x (i + 1) l = true then _ else _) else co l
              rw [sp_taken, hq]
              by_cases e2 : l = b
              · subst e2
                rw [jup_s, if_pos hb2]
                simp
              · have e3 : ¬ b = l := fun z => e2 z.symm
                rw [jup_n _ _ e2]
                simp [e3]
            · have z : nI b = -1 := z
              have : (nI b).toInt = b := nI_toInt (by omega)
              rw [z] at this
              have e4 : (-1 : Int32).toInt = -1 := by decide
              omega
    have first : ∀ k i, i + k = glg G → ∀ P2 : Int32, jpk P2 (fun l => if l < i ∧ co l = nI c then nI (sp_next G c) else co l) (glg G) → jx_W 5 jk_X0_placesAfter 33 [some (.ref 6), some (.int P), some (.int (nI c)), some (.int x), some (.int (jb_set (fun l => decide (co l = nI c)) (glg G))), some (.int (nI (sp_next G c))), some (.int P2), some (.int (nI i)), none] [] (jL v a w) (fun r h' => ∃ P', r = some (.int P') ∧ h' = jL v a w ∧ jpk P' (sp_after (gst G 5 co) c x) (glg G)) := by
      intro k
      induction k with
      | zero =>
        intro i hi P2 hP2
        refine jx_auto rfl trivial ?_
        refine jx_if rfl (fun _ => ?_) (fun c1 => absurd (jc_end h.laughs (by omega) (by omega)) c1)
        refine jx_steps 2 rfl trivial ?_
        refine second (gpg G) 0 (by omega) P2 none (jpk_congr hP2 (fun l hl => ?_))
        show (if l < i ∧ co l = nI c then _ else co l) = if co l = nI c then (if sp_taken (gst G 5 co) c x 0 l = true then -1 else nI (sp_next G c)) else co l
        by_cases e : co l = nI c
        · rw [if_pos ⟨by omega, e⟩, if_pos e]; simp [sp_taken]
        · rw [if_neg (fun z => e z.2), if_neg e]
      | succ k ih =>
        intro i hi P2 hP2
        have hin := jb_in (fun l => decide (co l = nI c)) ho.2.2.1 (show i < glg G by omega)
        refine jx_auto rfl trivial ?_
        refine jx_if rfl (fun c1 => absurd c1 (jc_on h.laughs (by omega) (by omega))) (fun _ => ?_)
        refine jx_auto rfl trivial ?_
        dsimp only
        rw [hin]
        refine jx_if rfl (fun c1 => ?_) (fun c1 => ?_)
        · have e : ¬ co i = nI c := fun z => by rw [if_pos (by simpa using z)] at c1; cases c1
          refine jx_steps 2 rfl trivial ?_
          rw [nI_1]
          refine ih (i + 1) (by omega) P2 (jpk_congr hP2 (fun l hl => ?_))
          show (if l < i ∧ co l = nI c then _ else co l) = if l < i + 1 ∧ co l = nI c then _ else co l
          by_cases e2 : l = i
          · subst e2; rw [if_neg (fun z => e z.2), if_neg (fun z => e z.2)]
          · simp only [show l < i ↔ l < i + 1 by omega]
        · have e : co i = nI c := by
            by_cases q : co i = nI c
            · exact q
            · exact absurd (if_neg (by simpa using q)) c1
          refine jx_auto rfl trivial ?_
          refine jx_callE 1 rfl (by decide) jl_withPlace ?_
          refine jx_steps 3 rfl trivial ?_
          rw [nI_1]
          refine ih (i + 1) (by omega) _ (jpk_congr (jpk_set hP2 ho.2.2.1 (show i < 6 by omega) (show sp_next G c + 1 < 8 by omega) (c := nI (sp_next G c)) (nI_1 _)) (fun l hl => ?_))
          show jup _ i (nI (sp_next G c)) l = if l < i + 1 ∧ co l = nI c then _ else co l
          by_cases e2 : l = i
          · subst e2; rw [jup_s, if_pos ⟨by omega, e⟩]
          · rw [jup_n _ _ e2]
            simp only [show l < i ↔ l < i + 1 by omega]
    refine jx_steps 5 rfl trivial ?_
    exact first (glg G) 0 (by omega) P (jpk_congr hP (fun l hl => by rw [if_neg (fun z => absurd z.1 (Nat.not_lt_zero l))]))
  refine jx_auto rfl trivial ?_
  dsimp only
  rw [nI_1]
  refine jx_if rfl (fun c1 => ?_) (fun c1 => ?_)
  · refine jx_steps 1 rfl trivial ?_
    refine jx_at next rfl rfl ?_
    have : ¬ c + 1 < gcv G := fun z => absurd c1 (jc_on h.coverts z (by omega))
    rw [sp_next, if_neg this]; rfl
  · refine jx_steps 4 rfl trivial ?_
    dsimp only
    rw [nI_1]
    refine jx_at next rfl rfl ?_
    have : c + 1 < gcv G := by
      rcases Nat.lt_or_ge (c + 1) (gcv G) with q | q
      · exact q
      · exact absurd (jc_end h.coverts q (by omega)) c1
    rw [sp_next, if_pos this]; rfl
theorem jl_isHad {P P2 : Int32} {co co2 : Nat → Int32} {n l : Nat} (hn : n ≤ 6) (hP : jpk P co n) (hP2 : jpk P2 co2 n) (hl : l < n) : jx_W 2 jk_X0_isHad 0 [some (.ref 6), some (.int (nI l)), some (.int P), some (.int P2)] [] (jL v a w) (jx_is (some (.int (if co l ≠ -1 ∧ co2 l = -1 then 1 else 0))) (jL v a w)) := by
  have e1 := jp_pl_of hP hn hl
  have e2 := jp_pl_of hP2 hn hl
  refine jx_auto rfl trivial ?_
  refine jx_callE 1 rfl (by decide) jl_placeIn ?_
  refine jx_auto rfl trivial ?_
  refine jx_if rfl (fun c1 => ?_) (fun c1 => ?_)
  · refine jx_auto rfl trivial ?_
    refine jx_ends rfl ⟨Or.inl rfl, trivial⟩ ?_
    rw [if_neg (fun z => z.1 (e1.symm.trans c1))]
  · refine jx_auto rfl trivial ?_
    refine jx_callE 1 rfl (by decide) jl_placeIn ?_
    refine jx_auto rfl trivial ?_
    refine jx_if rfl (fun c2 => ?_) (fun c2 => ?_)
    · refine jx_auto rfl trivial ?_
      refine jx_ends rfl ⟨Or.inl rfl, trivial⟩ ?_
      rw [if_neg (fun z => c2 (e2.trans z.2))]
    · have c2 : jp_pl P2 l = -1 := by simpa using c2
      refine jx_auto rfl trivial ?_
      refine jx_ends rfl ⟨Or.inr rfl, trivial⟩ ?_
      rw [if_pos ⟨fun z => c1 (e1.trans z), e2.symm.trans c2⟩]
/-- a drive's laughs, told by where they were and where they are -/
def sp_hadB (G : jG) (co co2 : Nat → Int32) (l : Nat) : Int32 := if co l ≠ -1 ∧ co2 l = -1 then (if 0 ≤ co l ∧ co l < nI (gcv G) then sp_height G l (co l).toNatClampNeg else -1) else 0
theorem jl_sportOf (h : jLG v a G) {P P2 : Int32} {co co2 : Nat → Int32} (hP : jpk P co (glg G)) (hP2 : jpk P2 co2 (glg G)) : jx_W 3 jk_X0_sportOf 0 [some (.ref 6), some (.int P), some (.int P2), none, none] [] (jL v a w) (jx_is (some (.int (sp_sum (sp_hadB G co co2) (glg G)))) (jL v a w)) := by
  have ho := h.ok
  refine jx_steps 4 rfl trivial ?_
  have loop : ∀ k i, i + k = glg G → jx_W 3 jk_X0_sportOf 5 [some (.ref 6), some (.int P), some (.int P2), some (.int (sp_sum (sp_hadB G co co2) i)), some (.int (nI i))] [] (jL v a w) (jx_is (some (.int (sp_sum (sp_hadB G co co2) (glg G)))) (jL v a w)) := by
    intro k
    induction k with
    | zero =>
      intro i hi
      have e : i = glg G := by omega
      refine jx_auto rfl trivial ?_
      refine jx_if rfl (fun _ => ?_) (fun c1 => absurd (jc_end h.laughs (by omega) (by omega)) c1)
      refine jx_auto rfl trivial ?_
      exact jx_ends rfl trivial (by rw [e])
    | succ k ih =>
      intro i hi
      have hil : i < glg G := by omega
      refine jx_auto rfl trivial ?_
      refine jx_if rfl (fun c1 => absurd c1 (jc_on h.laughs (by omega) (by omega))) (fun _ => ?_)
      refine jx_auto rfl trivial ?_
      refine jx_callE 2 rfl (by decide) (jl_isHad ho.2.2.1 hP hP2 hil) ?_
      refine jx_if rfl (fun c1 => ?_) (fun c1 => ?_)
      · refine jx_steps 2 rfl trivial ?_
        rw [nI_1]
        refine jx_at (ih (i + 1) (by omega)) rfl ?_
        rw [sp_sum, sp_hadB, if_neg (fun z => by rw [if_pos z] at c1; cases c1), Int32.add_zero]
      · have hz : co i ≠ -1 ∧ co2 i = -1 := by
          by_cases q : co i ≠ -1 ∧ co2 i = -1
          · exact q
          · exact absurd (if_neg q) c1
        refine jx_auto rfl trivial ?_
        refine jx_callE 1 rfl (by decide) jl_placeIn ?_
        refine jx_auto rfl trivial ?_
        refine jx_callE 2 rfl (by decide) (jl_heightFrom h hil) ?_
        refine jx_steps 4 rfl trivial ?_
        rw [nI_1]
        refine jx_at (ih (i + 1) (by omega)) rfl ?_
        rw [sp_sum, sp_hadB, if_pos hz, jp_pl_of hP ho.2.2.1 hil]
  exact loop (glg G) 0 (by omega)
/-- ... is what the pegs say -/
theorem sp_sport {co : Nat → Int32} {c : Nat} {x : Int32} (hok : gok G) (hc : c < gcv G) : sp_sum (sp_hadB G co (sp_after (gst G 5 co) c x)) (glg G) = sp_gain (gst G 5 co) c x := by
  obtain ⟨o1, o2, o3, o4⟩ := hok
  rw [sp_gain, ← sp_swap (fun b => sp_height (gst G 5 co) b c) (show gpg (gst G 5 co) ≤ 6 from o1)]
  refine sp_sum_congr (fun l hl => ?_)
  have e : sp_after (gst G 5 co) c x l = if co l = nI c then (if sp_taken (gst G 5 co) c x (gpg G) l = true then -1 else nI (sp_next G c)) else co l := rfl
  have hne : ∀ n : Nat, n ≤ 4 → nI n ≠ -1 := by decide
  rw [sp_hadB, e]
  show _ = if sp_taken (gst G 5 co) c x (gpg G) l = true then sp_height G l c else 0
  by_cases h1 : co l = nI c
  · rw [if_pos h1, h1]
    by_cases h2 : sp_taken (gst G 5 co) c x (gpg G) l = true
    · rw [if_pos h2, if_pos ⟨hne c (by omega), rfl⟩, if_pos ⟨nI_pos' (by omega), nI_lt hc (by omega)⟩, nI_clamp (by omega), if_pos h2]
    · rw [if_neg h2, if_neg h2, if_neg]
      intro z
      have hnx : sp_next G c ≤ 4 := by unfold sp_next; split <;> omega
      exact hne _ hnx z.2
  · rw [if_neg h1, if_neg (fun z => z.1 z.2), if_neg]
    intro h2
    obtain ⟨p, -, hp⟩ := sp_taken_iff.mp h2
    exact h1 (sp_had_of hp).2.1
end
