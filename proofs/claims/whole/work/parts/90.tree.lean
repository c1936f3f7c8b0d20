/-! GAME as the reference finds it: a table by codes; a row of moves, the last first -/
def sgn (k : Nat) : Int := if k % 2 = 0 then 1 else -1
def dg : Nat → Nat → List Nat
  | 0, _ => []
  | L + 1, code => (code % 4) :: dg L (code / 4)
def nd_d : List Nat → Nat → Bool
  | [] => fun _ => false
  | c :: r => pl_add (nd_d r) c
def nd_s {σ : Type} (af : σ → Nat → σ) (s0 : σ) : List Nat → σ
  | [] => s0
  | c :: r => af (nd_s af s0 r) c
def nd_c : List Nat → Nat
  | [] => 0
  | c :: r => 4 * nd_c r + c
def nd_a {σ : Type} (g : σ → Nat → Int) (af : σ → Nat → σ) (s0 : σ) : List Nat → Int
  | [] => 0
  | c :: r => nd_a g af s0 r + sgn r.length * g (nd_s af s0 r) c
def nd_v (n : Nat) : List Nat → Bool
  | [] => true
  | c :: r => nd_v n r && decide (c < n) && !(nd_d r c)
def nd_u {σ : Type} (n : Nat) (g : σ → Nat → Int) (af : σ → Nat → σ) (s0 : σ) (r : List Nat) : Int := nd_a g af s0 r + sgn r.length * (pl_best n g af (-1) (4 - r.length) (nd_d r) (nd_s af s0 r)).1
def bg (L : Nat) : Nat := if L = 0 then 0 else if L = 1 then 1 else if L = 2 then 5 else if L = 3 then 21 else 85
theorem dg_len : ∀ (L code : Nat), (dg L code).length = L
  | 0, _ => rfl
  | L + 1, code => by rw [dg, List.length_cons, dg_len L]
theorem dg_step {L code c : Nat} (hc : c < 4) : dg (L + 1) (4 * code + c) = c :: dg L code := by
  rw [dg, show (4 * code + c) % 4 = c by omega, show (4 * code + c) / 4 = code by omega]
theorem dg_of : ∀ (r : List Nat), (∀ k ∈ r, k < 4) → dg r.length (nd_c r) = r ∧ nd_c r < 4 ^ r.length
  | [], _ => ⟨rfl, by decide⟩
  | c :: r, h => by
    obtain ⟨h1, h2⟩ := dg_of r (fun k hk => h k (List.mem_cons_of_mem _ hk))
    have hc := h c List.mem_cons_self
    refine ⟨by rw [List.length_cons, nd_c, dg_step hc, h1], ?_⟩
    rw [List.length_cons, nd_c, Nat.pow_succ]
    omega
theorem nd_k1 : ∀ n, n < 5 → ∀ code, code < 4 ^ n → nd_v n (dg n code) = true → (dg n code).reverse ∈ pl_seqs n 4 (fun _ => false) := by decide +kernel
theorem nd_k2 : ∀ n, n < 5 → ∀ L, L < n → ∀ code, code < 4 ^ L → nd_v n (dg L code) = true → (List.range n).any (fun c => !(nd_d (dg L code) c)) = true := by decide +kernel
theorem nd_k3 : ∀ n, n < 5 → ∀ code, code < 4 ^ n → nd_v n (dg n code) = true → ∀ c, c < n → nd_d (dg n code) c = true := by decide +kernel
theorem bg_k : ∀ L, L < 4 → bg (L + 1) = bg L + 4 ^ L := by decide
theorem sgn_s (k : Nat) : sgn (k + 1) = - sgn k := by
  unfold sgn
  by_cases h : k % 2 = 0
  · rw [if_neg (by omega), if_pos h]
  · rw [if_pos (by omega), if_neg h]; rfl
theorem sgn_1 (k : Nat) : sgn k = 1 ∨ sgn k = -1 := by unfold sgn; split <;> simp
theorem sgn_m {k : Nat} {B y : Int} (h1 : -B ≤ y) (h2 : y ≤ B) : -B ≤ sgn k * y ∧ sgn k * y ≤ B := by
  rcases sgn_1 k with h | h
  · rw [h, Int.one_mul]; exact ⟨h1, h2⟩
  · rw [h, Int.neg_mul, Int.one_mul]; omega
theorem nd_a_b {σ : Type} {g : σ → Nat → Int} {af : σ → Nat → σ} {s0 : σ} (h : ∀ s c, 0 ≤ g s c ∧ g s c ≤ 54) : ∀ (r : List Nat), -(54 * (r.length : Int)) ≤ nd_a g af s0 r ∧ nd_a g af s0 r ≤ 54 * r.length
  | [] => by rw [nd_a]; simp
  | c :: r => by
    have h1 := nd_a_b (af := af) (s0 := s0) h r
    have h2 := h (nd_s af s0 r) c
    have h3 := sgn_m (k := r.length) (B := 54) (y := g (nd_s af s0 r) c) (by omega) (by omega)
    rw [nd_a, List.length_cons]
    omega
/-- what bestNext finds, by the numbers at e -/
def bn_upto (e : Nat → Int32) (L : Nat) (d : Nat → Bool) : Nat → Option Nat
  | 0 => none
  | i + 1 => if d i = true then bn_upto e L d i else match bn_upto e L d i with
    | none => some i
    | some b => if (L % 2 = 0 ∧ e b < e i) ∨ (¬ L % 2 = 0 ∧ e i < e b) then some i else some b
theorem bn_pl {e : Nat → Int32} {L n : Nat} {d : Nat → Bool} {wo : Nat → Int × List Nat} {A : Int} (hA : -300 ≤ A ∧ A ≤ 300) (hw : ∀ c, -300 ≤ (wo c).1 ∧ (wo c).1 ≤ 300) (he : ∀ c, c < n → d c = false → e c = iI (A + sgn L * (wo c).1)) : ∀ i, i ≤ n → (pl_upto wo d i = none ∧ bn_upto e L d i = none) ∨ ∃ c, c < i ∧ d c = false ∧ pl_upto wo d i = some (wo c) ∧ bn_upto e L d i = some c
  | 0, _ => Or.inl ⟨rfl, rfl⟩
  | i + 1, hi => by
    have ih := bn_pl hA hw he i (by omega)
    rw [pl_upto, bn_upto]
    by_cases hd : d i = true
    · rw [if_pos hd, if_pos hd]
      rcases ih with ih | ⟨c, h1, h2, h3, h4⟩
      · exact Or.inl ih
      · exact Or.inr ⟨c, by omega, h2, h3, h4⟩
    · rw [if_neg hd, if_neg hd]
      have hd : d i = false := by simpa using hd
      rcases ih with ⟨h3, h4⟩ | ⟨c, h1, h2, h3, h4⟩
      · rw [h3, h4]
        exact Or.inr ⟨i, by omega, hd, rfl, rfl⟩
      · rw [h3, h4]
        have b1 := hw c
        have b2 := hw i
        have m1 := sgn_m (k := L) (B := 300) b1.1 b1.2
        have m2 := sgn_m (k := L) (B := 300) b2.1 b2.2
        have iff : ((L % 2 = 0 ∧ e c < e i) ∨ (¬ L % 2 = 0 ∧ e i < e c)) ↔ (wo c).1 < (wo i).1 := by
          rw [he c (by omega) h2, he i (by omega) hd, iI_lt (by omega) (by omega) (by omega) (by omega), iI_lt (by omega) (by omega) (by omega) (by omega)]
          unfold sgn
          by_cases hl : L % 2 = 0
          · rw [if_pos hl]; constructor
            · rintro (z | z)
              · omega
              · exact absurd hl z.1
            · intro z; exact Or.inl ⟨hl, by omega⟩
          · rw [if_neg hl]; constructor
            · rintro (z | z)
              · exact absurd z.1 hl
              · omega
            · intro z; exact Or.inr ⟨hl, by omega⟩
        by_cases hlt : (wo c).1 < (wo i).1
        · rw [fm_step]
          dsimp only
          rw [if_pos hlt, if_pos (iff.mpr hlt)]
          exact Or.inr ⟨i, by omega, hd, rfl, rfl⟩
        · rw [fm_step]
          dsimp only
          rw [if_neg hlt, if_neg (fun z => hlt (iff.mp z))]
          exact Or.inr ⟨c, by omega, h2, rfl, rfl⟩
/-- the moves from a node -/
def nd_wo {σ : Type} (n : Nat) (g : σ → Nat → Int) (af : σ → Nat → σ) (s0 : σ) (r : List Nat) (c : Nat) : Int × List Nat := (g (nd_s af s0 r) c + (-1) * (pl_best n g af (-1) (3 - r.length) (pl_add (nd_d r) c) (af (nd_s af s0 r) c)).1, c :: (pl_best n g af (-1) (3 - r.length) (pl_add (nd_d r) c) (af (nd_s af s0 r) c)).2)
theorem nd_best {σ : Type} {n : Nat} {g : σ → Nat → Int} {af : σ → Nat → σ} {s0 : σ} {r : List Nat} (h : r.length < 4) : pl_best n g af (-1) (4 - r.length) (nd_d r) (nd_s af s0 r) = pl_get (pl_upto (nd_wo n g af s0 r) (nd_d r) n) := by
  rw [show 4 - r.length = (3 - r.length) + 1 by omega, pl_best]
  rfl
theorem nd_next {σ : Type} {n : Nat} {g : σ → Nat → Int} {af : σ → Nat → σ} {s0 : σ} {r : List Nat} (h : r.length < 4) (c : Nat) : nd_u n g af s0 (c :: r) = nd_a g af s0 r + sgn r.length * (nd_wo n g af s0 r c).1 := by
  unfold nd_u nd_wo
  rw [nd_a, List.length_cons, sgn_s, nd_d, nd_s, show 4 - (r.length + 1) = 3 - r.length by omega, Int.add_assoc, Int.mul_add, Int.neg_mul, Int.neg_mul, Int.one_mul, Int.mul_neg]
theorem nd_wo_b {σ : Type} {n : Nat} {g : σ → Nat → Int} {af : σ → Nat → σ} {s0 : σ} (h : ∀ s c, 0 ≤ g s c ∧ g s c ≤ 54) (r : List Nat) (c : Nat) : -300 ≤ (nd_wo n g af s0 r c).1 ∧ (nd_wo n g af s0 r c).1 ≤ 300 := by
  unfold nd_wo
  have h1 := h (nd_s af s0 r) c
  have h2 := pl_best_b (n := n) (af := af) (sg := -1) (Or.inr rfl) h (3 - r.length) (pl_add (nd_d r) c) (af (nd_s af s0 r) c)
  have h3 : (54 : Int) * ((3 - r.length : Nat) : Int) ≤ 54 * 3 := by omega
  dsimp only
  rw [Int.neg_mul, Int.one_mul]
  omega
/-- the table is right for all rows of L moves -/
def gbI {σ : Type} (n : Nat) (g : σ → Nat → Int) (af : σ → Nat → σ) (s0 : σ) (gb : List Int32) (L : Nat) : Prop := ∀ code, code < 4 ^ L → nd_v n (dg L code) = true → gb.getD (bg L + code) 0 = iI (nd_u n g af s0 (dg L code))
theorem nd_u_end {σ : Type} {n : Nat} {g : σ → Nat → Int} {af : σ → Nat → σ} {s0 : σ} (hn : n < 5) {code : Nat} (hc : code < 4 ^ n) (hv : nd_v n (dg n code) = true) : nd_u n g af s0 (dg n code) = nd_a g af s0 (dg n code) := by
  have h3 := nd_k3 n hn code hc hv
  have hno : ∀ (wo : Nat → Int × List Nat) (i : Nat), i ≤ n → pl_upto wo (nd_d (dg n code)) i = none := by
    intro wo i
    induction i with
    | zero => intro _; rfl
    | succ i ih => intro hi; rw [pl_upto, if_pos (h3 i (by omega))]; exact ih (by omega)
  unfold nd_u
  rw [dg_len]
  by_cases h4 : n = 4
  · rw [h4]
    show _ + _ * (0 : Int) = _
    rw [Int.mul_zero, Int.add_zero]
  · have := nd_best (n := n) (g := g) (af := af) (s0 := s0) (r := dg n code) (by rw [dg_len]; omega)
    rw [dg_len] at this
    rw [this, hno _ n (Nat.le_refl n)]
    show _ + _ * (0 : Int) = _
    rw [Int.mul_zero, Int.add_zero]
/-- one row of the table out of those behind it -/
theorem gbI_step {σ : Type} {n : Nat} {g : σ → Nat → Int} {af : σ → Nat → σ} {s0 : σ} (hg : ∀ s c, 0 ≤ g s c ∧ g s c ≤ 54) (hn : n < 5) {gb : List Int32} {L : Nat} (hL : L < n) (h : gbI n g af s0 gb (L + 1)) {code : Nat} (hc : code < 4 ^ L) (hv : nd_v n (dg L code) = true) : ∃ c, c < n ∧ bn_upto (fun c => gb.getD (bg (L + 1) + 4 * code + c) 0) L (nd_d (dg L code)) n = some c ∧ gb.getD (bg (L + 1) + 4 * code + c) 0 = iI (nd_u n g af s0 (dg L code)) ∧ pl_upto (nd_wo n g af s0 (dg L code)) (nd_d (dg L code)) n = some (nd_wo n g af s0 (dg L code) c) := by
  have hlen := dg_len L code
  have hA := nd_a_b (af := af) (s0 := s0) hg (dg L code)
  rw [hlen] at hA
  have hw := nd_wo_b (n := n) (af := af) (s0 := s0) hg (dg L code)
  have he : ∀ c, c < n → nd_d (dg L code) c = false → gb.getD (bg (L + 1) + 4 * code + c) 0 = iI (nd_a g af s0 (dg L code) + sgn L * (nd_wo n g af s0 (dg L code) c).1) := by
    intro c hcn hd
    have e1 := dg_step (L := L) (code := code) (c := c) (by omega)
    have e2 := h (4 * code + c) (by rw [Nat.pow_succ]; omega) (by rw [e1, nd_v]; simp [hv, hcn, hd])
    rw [e1, nd_next (by omega), hlen] at e2
    rw [Nat.add_assoc]
    exact e2
  rcases bn_pl (n := n) (A := nd_a g af s0 (dg L code)) (by omega) hw he n (Nat.le_refl n) with ⟨h1, h2⟩ | ⟨c, h1, h2, h3, h4⟩
  · exfalso
    have h5 := nd_k2 n hn L hL code hc hv
    rw [List.any_eq_true] at h5
    obtain ⟨c, hcm, hd⟩ := h5
    have hcn : c < n := List.mem_range.mp hcm
    have hd : nd_d (dg L code) c = false := by simpa using hd
    have hsome : ∀ i, i ≤ n → c < i → pl_upto (nd_wo n g af s0 (dg L code)) (nd_d (dg L code)) i ≠ none := by
      intro i
      induction i with
      | zero => intro _ z; omega
      | succ i ih =>
        intro hi hci
        rw [pl_upto]
        by_cases hdi : nd_d (dg L code) i = true
        · rw [if_pos hdi]
          exact ih (by omega) (by
            by_cases e : c = i
            · rw [e, hdi] at hd; cases hd
            · omega)
        · rw [if_neg hdi]
          cases pl_upto (nd_wo n g af s0 (dg L code)) (nd_d (dg L code)) i with
          | none => intro z; cases z
          | some b =>
            unfold fm_step
            by_cases hlt : b.1 < (nd_wo n g af s0 (dg L code) i).1
            · simp only [hlt, if_true]; intro z; cases z
            · simp only [hlt, if_false]; intro z; cases z
    exact hsome n (Nat.le_refl n) hcn h1
  · refine ⟨c, h1, h4, ?_, h3⟩
    rw [he c h1 h2]
    unfold nd_u
    rw [nd_best (by omega), hlen, h3]
    rfl
