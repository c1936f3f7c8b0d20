/-! STANDS: which reach at which peg, by sets of the reaches given -/
def bc (g : Nat) : Nat := sp_cnt (fun k => g.testBit k) 6
def tb (g : Nat) : Nat → Bool := fun k => g.testBit k
def sw2 (G : jG) (c : Nat) (x : Int32) (s from_ : Nat) : Int := if from_ < gpg G then (sp_by (fun b => sp_height G b c) (sp_hadN G (grc G from_) (nI s) c x (glg G))).toInt else 0
def sV (G : jG) (c : Nat) (x : Int32) (g : Nat) : Int × List Nat := pl_best (gpg G) (sw2 G c x) (fun s _ => s + 1) 1 (6 - bc g) (tb g) (bc g)
def st (G : jG) (c : Nat) (x : Int32) : Int × List Nat := pl_best (gpg G) (sw2 G c x) (fun s _ => s + 1) 1 6 (fun _ => false) 0
def sw (G : jG) (c : Nat) (x : Int32) (g : Nat) (k : Nat) : Int × List Nat := (sw2 G c x (bc g) k + (sV G c x (g ||| 2 ^ k)).1, k :: (sV G c x (g ||| 2 ^ k)).2)
theorem sV_0 {G : jG} {c : Nat} {x : Int32} : sV G c x 0 = st G c x := by
  unfold sV st
  rw [show bc 0 = 0 by decide, show tb 0 = fun _ => false from funext (fun k => Nat.zero_testBit k)]
theorem sw2_b {G : jG} (h : g9 G) {c : Nat} {x : Int32} (s k : Nat) : 0 ≤ sw2 G c x s k ∧ sw2 G c x s k ≤ 9 := by
  unfold sw2
  by_cases hk : k < gpg G
  · rw [if_pos hk]
    obtain ⟨r, hr, e⟩ := h k hk
    obtain ⟨t, ht, e2⟩ := g9_term (G := G) hr e (p := nI s) (c := c) (x := x)
    rw [e2, nI_toInt (by omega)]
    omega
  · rw [if_neg hk]; omega
theorem bc_k : ∀ g, g < 64 → ∀ k, k < 6 → g.testBit k = false → bc (g ||| 2 ^ k) = bc g + 1 ∧ bc g < 6 ∧ g < g ||| 2 ^ k := by decide +kernel
theorem bc_b : ∀ g, g < 64 → bc g ≤ 6 := by decide +kernel
theorem or_k : ∀ n, n < 7 → ∀ g, g < 2 ^ n → ∀ k, k < n → g ||| 2 ^ k < 2 ^ n := by decide +kernel
theorem any_k : ∀ n, n < 7 → ∀ g, g < 2 ^ n - 1 → (List.range n).any (fun k => !(g.testBit k)) = true := by decide +kernel
theorem all_k : ∀ n, n < 7 → ∀ k, k < n → (2 ^ n - 1).testBit k = true := by decide +kernel
theorem tb_add {g k : Nat} : pl_add (tb g) k = tb (g ||| 2 ^ k) := by
  funext j
  unfold pl_add tb
  rw [Nat.testBit_or, Nat.testBit_two_pow, nat_beq]
  by_cases e : k = j
  · subst e; simp
  · simp [e, Ne.symm e]
theorem pl_upto_congr {wo wo2 : Nat → Int × List Nat} {d : Nat → Bool} : ∀ {i : Nat}, (∀ c, c < i → d c = false → wo c = wo2 c) → pl_upto wo d i = pl_upto wo2 d i
  | 0, _ => rfl
  | i + 1, h => by
    rw [pl_upto, pl_upto, pl_upto_congr (fun c hc hd => h c (by omega) hd)]
    by_cases hd : d i = true
    · rw [if_pos hd, if_pos hd]
    · rw [if_neg hd, if_neg hd, h i (by omega) (by simpa using hd)]
theorem sV_step {G : jG} {c : Nat} {x : Int32} (hp : gpg G ≤ 6) {g : Nat} (hg : g < 2 ^ gpg G - 1) : sV G c x g = pl_get (pl_upto (sw G c x g) (tb g) (gpg G)) := by
  have h64 : 2 ^ gpg G ≤ 2 ^ 6 := Nat.pow_le_pow_right (by decide) hp
  have hany := any_k (gpg G) (by omega) g hg
  rw [List.any_eq_true] at hany
  obtain ⟨k, hkm, hkd⟩ := hany
  have hk := List.mem_range.mp hkm
  have hb := bc_k g (by omega) k (by omega) (by simpa using hkd)
  obtain ⟨f, hf⟩ : ∃ f, 6 - bc g = f + 1 := ⟨6 - bc g - 1, by omega⟩
  unfold sV
  rw [hf, pl_best]
  congr 1
  apply pl_upto_congr
  intro k2 h2 hd2
  have hb2 := bc_k g (by omega) k2 (by omega) hd2
  unfold sw sV
  rw [hb2.1, show 6 - (bc g + 1) = f by omega, Int.one_mul, tb_add]
theorem sV_end {G : jG} {c : Nat} {x : Int32} (hp : gpg G ≤ 6) : sV G c x (2 ^ gpg G - 1) = (0, []) := by
  unfold sV
  have hno : ∀ (wo : Nat → Int × List Nat) (i : Nat), i ≤ gpg G → pl_upto wo (tb (2 ^ gpg G - 1)) i = none := by
    intro wo i
    induction i with
    | zero => intro _; rfl
    | succ i ih => intro hi; rw [pl_upto, if_pos (show tb (2 ^ gpg G - 1) i = true from all_k (gpg G) (by omega) i (by omega))]; exact ih (by omega)
  cases h : 6 - bc (2 ^ gpg G - 1) with
  | zero => rfl
  | succ f =>
    rw [pl_best, hno _ (gpg G) (Nat.le_refl _)]
    rfl
theorem sw_some {G : jG} {c : Nat} {x : Int32} (hp : gpg G ≤ 6) {g : Nat} (hg : g < 2 ^ gpg G - 1) : ∃ k, k < gpg G ∧ g.testBit k = false ∧ pl_upto (sw G c x g) (tb g) (gpg G) = some (sw G c x g k) := by
  have hany := any_k (gpg G) (by omega) g hg
  rw [List.any_eq_true] at hany
  obtain ⟨k, hkm, hkd⟩ := hany
  have hk := List.mem_range.mp hkm
  cases h : pl_upto (sw G c x g) (tb g) (gpg G) with
  | some q =>
    obtain ⟨k2, h1, h2, h3⟩ := pl_upto_mem h
    exact ⟨k2, h1, h2, by rw [h3]⟩
  | none =>
    exfalso
    have hsome : ∀ i, i ≤ gpg G → k < i → pl_upto (sw G c x g) (tb g) i ≠ none := by
      intro i
      induction i with
      | zero => intro _ z; omega
      | succ i ih =>
        intro hi hci
        rw [pl_upto]
        by_cases hdi : tb g i = true
        · rw [if_pos hdi]
          refine ih (by omega) ?_
          by_cases e : k = i
          · have : g.testBit i = true := hdi
            rw [← e] at this
            rw [this] at hkd; cases hkd
          · omega
        · rw [if_neg hdi]
          cases pl_upto (sw G c x g) (tb g) i with
          | none => intro z; cases z
          | some b =>
            unfold fm_step
            by_cases hlt : b.1 < (sw G c x g i).1
            · simp only [hlt, if_true]; intro z; cases z
            · simp only [hlt, if_false]; intro z; cases z
    exact hsome (gpg G) (Nat.le_refl _) hk h
theorem sV_b {G : jG} (h : g9 G) {c : Nat} {x : Int32} (g : Nat) : -54 ≤ (sV G c x g).1 ∧ (sV G c x g).1 ≤ 54 := by
  have := pl_best_b (n := gpg G) (af := fun (s _ : Nat) => s + 1) (sg := 1) (Or.inl rfl) (sw2_b h (c := c) (x := x)) (6 - bc g) (tb g) (bc g)
  unfold sV
  have h3 : (9 : Int) * ((6 - bc g : Nat) : Int) ≤ 9 * 6 := by omega
  omega
theorem pl_best_pos {σ : Type} {n : Nat} {g : σ → Nat → Int} {af : σ → Nat → σ} (h : ∀ s c, 0 ≤ g s c) : ∀ (f : Nat) (d : Nat → Bool) (s : σ), 0 ≤ (pl_best n g af 1 f d s).1
  | 0, _, _ => Int.le_refl 0
  | f + 1, d, s => by
    rw [pl_best]
    cases e : pl_upto (fun c => (g s c + 1 * (pl_best n g af 1 f (pl_add d c) (af s c)).1, c :: (pl_best n g af 1 f (pl_add d c) (af s c)).2)) d n with
    | none => exact Int.le_refl 0
    | some q =>
      obtain ⟨c, -, -, e2⟩ := pl_upto_mem e
      have h1 := h s c
      have h2 := pl_best_pos (n := n) (af := af) h f (pl_add d c) (af s c)
      show 0 ≤ q.1
      rw [e2]
      dsimp only
      omega
theorem sV_pos {G : jG} (h : g9 G) {c : Nat} {x : Int32} (g : Nat) : 0 ≤ (sV G c x g).1 := pl_best_pos (fun s k => (sw2_b h s k).1) _ _ _
theorem sw_b {G : jG} (h : g9 G) {c : Nat} {x : Int32} (g k : Nat) : 0 ≤ (sw G c x g k).1 ∧ (sw G c x g k).1 ≤ 63 := by
  have h1 := sw2_b h (c := c) (x := x) (bc g) k
  have h2 := sV_b h (c := c) (x := x) (g ||| 2 ^ k)
  have h3 := sV_pos h (c := c) (x := x) (g ||| 2 ^ k)
  unfold sw
  dsimp only
  omega
/-- the drive with other reaches: told by the row -/
theorem sp_hadN_reach {G : jG} {f : Nat → Int32} {r p : Int32} {c : Nat} {x : Int32} : ∀ n, sp_hadN (gst G 0 f) r p c x n = sp_hadN G r p c x n
  | 0 => rfl
  | n + 1 => by rw [sp_hadN, sp_hadN, sp_hadN_reach n]; rfl
theorem pl_tot_app {g : Nat → Nat → Int} : ∀ (p : List Nat) (s c : Nat), pl_tot g (fun s _ => s + 1) s (p ++ [c]) = pl_tot g (fun s _ => s + 1) s p + g (s + p.length) c
  | [], s, c => by
    show g s c + 0 = 0 + g (s + 0) c
    rw [Int.add_zero, Int.zero_add, Nat.add_zero]
  | b :: p, s, c => by
    rw [List.cons_append, pl_tot, pl_tot, pl_tot_app p (s + 1) c, List.length_cons, Int.add_assoc, show s + 1 + p.length = s + (p.length + 1) by omega]
theorem st_gain {G : jG} {c : Nat} {x : Int32} {f : Nat → Int32} {p : List Nat} (hp : p.length = gpg G) (hlt : ∀ k ∈ p, k < gpg G) (hf : ∀ q, q < gpg G → f q = grc G (p.getD q 0)) : sp_gain (gst G 0 f) c x = iI (pl_tot (sw2 G c x) (fun s _ => s + 1) 0 p) := by
  have key : ∀ k, k ≤ gpg G → sp_sum (fun q => sp_by (fun b => sp_height (gst G 0 f) b c) (sp_had (gst G 0 f) q c x)) k = iI (pl_tot (sw2 G c x) (fun s _ => s + 1) 0 (p.take k)) := by
    intro k
    induction k with
    | zero => intro _; rfl
    | succ k ih =>
      intro hk
      have hget : p[k]? = some (p.getD k 0) := by
        rw [List.getD, List.getElem?_eq_getElem (by omega)]; rfl
      have hmem := hlt _ (List.mem_of_getElem? hget)
      have e1 : p.take (k + 1) = p.take k ++ [p.getD k 0] := by
        rw [List.take_succ, hget]; rfl
      rw [sp_sum, ih (by omega), e1, pl_tot_app, List.length_take, Nat.min_eq_left (by omega), Nat.zero_add, ← iI_add]
      congr 1
      unfold sw2 sp_had
      rw [if_pos hmem, iI_to, sp_hadN_reach]
      show sp_by _ (sp_hadN G (f k) (nI k) c x (glg G)) = _
      rw [hf k (by omega)]
      rfl
  have := key (gpg G) (Nat.le_refl _)
  rw [List.take_of_length_le (by omega)] at this
  exact this
