/-! what a drive is worth: small; the moves of ORDER and GAME -/
def iI (m : Int) : Int32 := Int32.ofInt m
theorem iI_to (x : Int32) : iI x.toInt = x := Int32.ofInt_toInt x
theorem iI_toInt {m : Int} (h1 : -2000 ≤ m) (h2 : m ≤ 2000) : (iI m).toInt = m := Int32.toInt_ofInt_of_le (by omega) (by omega)
theorem iI_nat (n : Nat) : iI (n : Int) = nI n := Int32.ofInt_eq_ofNat
theorem iI_add (a b : Int) : iI a + iI b = iI (a + b) := (Int32.ofInt_add a b).symm
theorem iI_sub (a b : Int) : iI a - iI b = iI (a - b) := (Int32.ofInt_sub a b).symm
theorem iI_mul (a b : Int) : iI a * iI b = iI (a * b) := (Int32.ofInt_mul a b).symm
theorem iI_neg (a : Int) : - iI a = iI (-a) := (Int32.ofInt_neg a).symm
theorem iI_lt {a b : Int} (a1 : -2000 ≤ a) (a2 : a ≤ 2000) (b1 : -2000 ≤ b) (b2 : b ≤ 2000) : iI a < iI b ↔ a < b := by
  rw [Int32.lt_iff_toInt_lt, iI_toInt a1 a2, iI_toInt b1 b2]
theorem iI_le {a b : Int} (a1 : -2000 ≤ a) (a2 : a ≤ 2000) (b1 : -2000 ≤ b) (b2 : b ≤ 2000) : iI a ≤ iI b ↔ a ≤ b := by
  rw [Int32.le_iff_toInt_le, iI_toInt a1 a2, iI_toInt b1 b2]
/-- reaches are digits -/
def g9 (G : jG) : Prop := ∀ p, p < gpg G → ∃ r, r ≤ 9 ∧ grc G p = nI r
theorem g9_st {G : jG} (h : g9 G) {f : Nat → Int32} : g9 (gst G 5 f) := h
theorem g9_term {G : jG} {r : Int32} {k : Nat} (hk : k ≤ 9) (hr : r = nI k) {p : Int32} {c : Nat} {x : Int32} : ∃ t, t ≤ 9 ∧ sp_by (fun b => sp_height G b c) (sp_hadN G r p c x (glg G)) = nI t := by
  cases e : sp_hadN G r p c x (glg G) with
  | none => exact ⟨0, by omega, rfl⟩
  | some b =>
    obtain ⟨-, h2⟩ := sp_had_cand e
    obtain ⟨-, -, h3, h4⟩ := sp_candB_iff.mp h2
    obtain ⟨t, ht, e2⟩ := nI_of2 (M := nI 9) (n := 9) rfl (Int32.not_lt.mpr (Int32.le_of_lt h3)) (Int32.le_trans h4 (by rw [hr]; exact nI_le hk (by decide)))
    exact ⟨t, ht, e2⟩
theorem sp_sum_small {f : Nat → Int32} {B : Nat} : ∀ {n : Nat}, (∀ k, k < n → ∃ t, t ≤ B ∧ f k = nI t) → ∃ t, t ≤ n * B ∧ sp_sum f n = nI t
  | 0, _ => ⟨0, by omega, rfl⟩
  | n + 1, h => by
    obtain ⟨t, h1, h2⟩ := sp_sum_small (n := n) (fun k hk => h k (by omega))
    obtain ⟨t2, h3, h4⟩ := h n (by omega)
    refine ⟨t + t2, ?_, ?_⟩
    · rw [Nat.succ_mul]; omega
    · rw [sp_sum, h2, h4, nI_add]
theorem g9_gain {G : jG} (h : g9 G) (hp : gpg G ≤ 6) (c : Nat) (x : Int32) : ∃ t, t ≤ 54 ∧ sp_gain G c x = nI t := by
  obtain ⟨t, h1, h2⟩ := sp_sum_small (f := fun p => sp_by (fun b => sp_height G b c) (sp_had G p c x)) (B := 9) (n := gpg G) (fun k hk => by
    obtain ⟨r, hr, e⟩ := h k hk
    exact g9_term hr e)
  exact ⟨t, by have : gpg G * 9 ≤ 6 * 9 := Nat.mul_le_mul_right 9 hp; omega, h2⟩
/-- the moves: where the laughs are; a covert driven -/
def og (G : jG) (x : Int32) (co : Nat → Int32) (c : Nat) : Int := (sp_gain (gst G 5 co) c x).toInt
def oa (G : jG) (x : Int32) (co : Nat → Int32) (c : Nat) : Nat → Int32 := sp_after (gst G 5 co) c x
theorem og_b {G : jG} (h : g9 G) (hp : gpg G ≤ 6) (x : Int32) (co : Nat → Int32) (c : Nat) : 0 ≤ og G x co c ∧ og G x co c ≤ 54 := by
  obtain ⟨t, h1, h2⟩ := g9_gain (g9_st (f := co) h) hp c x
  unfold og
  rw [h2, nI_toInt (by omega)]
  omega
theorem og_i {G : jG} {x : Int32} {co : Nat → Int32} {c : Nat} : sp_gain (gst G 5 co) c x = iI (og G x co c) := (iI_to _).symm
theorem pl_upto_b {wo : Nat → Int × List Nat} {d : Nat → Bool} {B : Int} (h : ∀ c, -B ≤ (wo c).1 ∧ (wo c).1 ≤ B) : ∀ i q, pl_upto wo d i = some q → -B ≤ q.1 ∧ q.1 ≤ B
  | 0, q, e => by cases e
  | i + 1, q, e => by
    rw [pl_upto] at e
    by_cases hd : d i = true
    · rw [if_pos hd] at e; exact pl_upto_b h i q e
    · rw [if_neg hd] at e
      cases h0 : pl_upto wo d i with
      | none =>
        rw [h0] at e
        have e2 : wo i = q := Option.some.inj e
        rw [← e2]; exact h i
      | some b =>
        rw [h0] at e
        have hb := pl_upto_b h i b h0
        unfold fm_step at e
        by_cases hlt : b.1 < (wo i).1
        · simp only [hlt, if_true, Option.some.injEq] at e
          rw [← e]; exact h i
        · simp only [hlt, if_false, Option.some.injEq] at e
          rw [← e]; exact hb
theorem pl_best_b {σ : Type} {n : Nat} {g : σ → Nat → Int} {af : σ → Nat → σ} {sg : Int} (hs : sg = 1 ∨ sg = -1) {B : Int} (h : ∀ s c, 0 ≤ g s c ∧ g s c ≤ B) : ∀ (f : Nat) (d : Nat → Bool) (s : σ), -(B * f) ≤ (pl_best n g af sg f d s).1 ∧ (pl_best n g af sg f d s).1 ≤ B * f
  | 0, _, _ => by rw [pl_best]; simp
  | f + 1, d, s => by
    have hB : 0 ≤ B := by have := h s 0; omega
    have hf : 0 ≤ B * (f : Int) := Int.mul_nonneg hB (by omega)
    have e1 : B * ((f + 1 : Nat) : Int) = B * f + B := by rw [Int.natCast_add, Int.mul_add]; simp
    rw [pl_best, e1]
    cases e : pl_upto (fun c => (g s c + sg * (pl_best n g af sg f (pl_add d c) (af s c)).1, c :: (pl_best n g af sg f (pl_add d c) (af s c)).2)) d n with
    | none => show -(B * ↑f + B) ≤ 0 ∧ 0 ≤ B * ↑f + B; omega
    | some q =>
      refine pl_upto_b (B := B * f + B) (fun c => ?_) n q e
      have h1 := h s c
      have h2 := pl_best_b (n := n) (af := af) hs h f (pl_add d c) (af s c)
      dsimp only
      rcases hs with hs | hs
      · subst hs; rw [Int.one_mul]; omega
      · subst hs; rw [Int.neg_mul, Int.one_mul]; omega
theorem pl_tot_b {σ : Type} {g : σ → Nat → Int} {af : σ → Nat → σ} {B : Int} (h : ∀ s c, 0 ≤ g s c ∧ g s c ≤ B) : ∀ (p : List Nat) (s : σ), 0 ≤ pl_tot g af s p ∧ pl_tot g af s p ≤ B * p.length
  | [], s => by rw [pl_tot]; simp
  | c :: r, s => by
    have h1 := h s c
    have h2 := pl_tot_b (af := af) h r (af s c)
    have e1 : B * (((c :: r).length : Nat) : Int) = B * r.length + B := by rw [List.length_cons, Int.natCast_add, Int.mul_add]; simp
    rw [pl_tot, e1]
    omega
/-- told: how great, or a place of the row -/
def an_row (n : Nat) (Z : Int × List Nat) (k : Int32) : Int32 := if k = 0 then iI Z.1 else if (k - 10).toNatClampNeg < n then nI (Z.2.getD (k - 10).toNatClampNeg 0) else -1
