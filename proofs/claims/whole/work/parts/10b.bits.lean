/-! bits of small numbers: sets of laughs and coverts, and where the laughs are as one number -/
theorem jb_and (a b : Nat) : nI a &&& nI b = nI (a &&& b) := by
  apply Int32.toBitVec_inj.1
  show BitVec.ofNat 32 a &&& BitVec.ofNat 32 b = BitVec.ofNat 32 (a &&& b)
  apply BitVec.eq_of_getLsbD_eq
  intro i hi
  simp [hi]
theorem jb_or (a b : Nat) : nI a ||| nI b = nI (a ||| b) := by
  apply Int32.toBitVec_inj.1
  show BitVec.ofNat 32 a ||| BitVec.ofNat 32 b = BitVec.ofNat 32 (a ||| b)
  apply BitVec.eq_of_getLsbD_eq
  intro i hi
  simp [hi]
/-- the set of those below n that p holds of, bit by bit -/
def jb_set (p : Nat → Bool) : Nat → Int32
  | 0 => 0
  | n + 1 => if p n = true then jb_set p n ||| ((1 : Int32) <<< (nI n &&& 31)) else jb_set p n
theorem jb_one : ∀ n, n < 8 → (1 : Int32) <<< (nI n &&& 31) = nI (2 ^ n) := by decide +kernel
theorem jb_amt : ∀ n, n < 32 → ((nI n &&& 31).toBitVec.smod 32).toNat = n := by decide +kernel
theorem jb_set_spec (p : Nat → Bool) : ∀ n, n ≤ 6 → ∃ m, m < 2 ^ n ∧ jb_set p n = nI m ∧ ∀ l, m.testBit l = (decide (l < n) && p l)
  | 0, _ => ⟨0, by decide, rfl, fun l => by simp⟩
  | n + 1, h => by
    obtain ⟨m, h1, h2, h3⟩ := jb_set_spec p n (by omega)
    rw [jb_set]
    by_cases hp : p n = true
    · rw [if_pos hp, h2, jb_one n (by omega), jb_or]
      refine ⟨m ||| 2 ^ n, Nat.or_lt_two_pow (Nat.lt_of_lt_of_le h1 (Nat.pow_le_pow_right (by decide) (by omega))) (Nat.pow_lt_pow_right (by decide) (by omega)), rfl, fun l => ?_⟩
      rw [Nat.testBit_or, h3, Nat.testBit_two_pow]
      by_cases e : n = l
      · subst e; simp [hp]
      · have : decide (l < n + 1) = decide (l < n) := by simp; omega
        simp [this, e]
    · rw [if_neg hp]
      refine ⟨m, Nat.lt_of_lt_of_le h1 (Nat.pow_le_pow_right (by decide) (by omega)), h2, fun l => ?_⟩
      rw [h3]
      by_cases e : l = n
      · subst e; simp [hp]
      · have : decide (l < n + 1) = decide (l < n) := by simp; omega
        rw [this]
theorem jb_tst {m l : Nat} (hm : m < 2 ^ 31) (hl : l < 32) : (nI m >>> (nI l &&& 31)) &&& 1 = if m.testBit l = true then 1 else 0 := by
  rw [pk_shrN hm _ l (jb_amt l hl), pk_andN (Nat.lt_of_le_of_lt (Nat.div_le_self _ _) (by omega)) 1 (by decide)]
  rw [Nat.testBit_eq_decide_div_mod_eq]
  have h2 : m / 2 ^ l % 2 ^ 1 = 0 ∨ m / 2 ^ l % 2 ^ 1 = 1 := by omega
  rcases h2 with h2 | h2
  · rw [h2]; simp [show m / 2 ^ l % 2 = 0 by simpa using h2]; rfl
  · rw [h2]; simp [show m / 2 ^ l % 2 = 1 by simpa using h2]; rfl
/-- is l in the set -/
theorem jb_in (p : Nat → Bool) {n l : Nat} (hn : n ≤ 6) (hl : l < n) : (jb_set p n >>> (nI l &&& 31)) &&& 1 = if p l = true then 1 else 0 := by
  obtain ⟨m, h1, h2, h3⟩ := jb_set_spec p n hn
  have hb : 2 ^ n ≤ 2 ^ 6 := Nat.pow_le_pow_right (by decide) hn
  rw [h2, jb_tst (by omega) (by omega), h3]
  simp [hl]
theorem jb_zero (p : Nat → Bool) {n : Nat} (hn : n ≤ 6) : jb_set p n = 0 ↔ ∀ l, l < n → p l = false := by
  obtain ⟨m, h1, h2, h3⟩ := jb_set_spec p n hn
  have hb : 2 ^ n ≤ 2 ^ 6 := Nat.pow_le_pow_right (by decide) hn
  rw [h2]
  constructor
  · intro e l hl
    have em : m = 0 := (nI_eq (by omega) (by decide)).mp (e.trans nI_0.symm)
    have := h3 l
    rw [em] at this
    simpa [hl] using this.symm
  · intro h
    have em : m = 0 := by
      apply Nat.eq_of_testBit_eq
      intro l
      rw [h3]
      by_cases hl : l < n
      · simp [h l hl]
      · simp [hl]
    rw [em]; rfl
theorem jb_set_congr {p q : Nat → Bool} : ∀ {n : Nat}, (∀ l, l < n → p l = q l) → jb_set p n = jb_set q n
  | 0, _ => rfl
  | n + 1, h => by rw [jb_set, jb_set, h n (by omega), jb_set_congr (fun l hl => h l (by omega))]
/-- where the laughs are: three bits for each -/
def jp_pl (P : Int32) (l : Nat) : Int32 := ((P >>> ((3 * nI l) &&& 31)) &&& 7) - 1
def jp_wp (P : Int32) (l : Nat) (c : Int32) : Int32 := (P &&& ((7 <<< ((3 * nI l) &&& 31)) ^^^ (-1))) ||| ((c + 1) <<< ((3 * nI l) &&& 31))
def jpk (P : Int32) (co : Nat → Int32) (n : Nat) : Prop := ∃ N, N < 262144 ∧ P = nI N ∧ ∀ l, l < n → nI (N / 8 ^ l % 8) = co l + 1
theorem jb_p3 : ∀ l, l < 6 → ((((3 : Int32) * nI l) &&& 31).toBitVec.smod 32).toNat = 3 * l := by decide +kernel
theorem jb_m7 : ∀ l, l < 6 → ((7 : Int32) <<< (((3 : Int32) * nI l) &&& 31)) ^^^ (-1) = nI (4294967295 - 7 * 8 ^ l) := by decide +kernel
theorem jb_c1 : ∀ l, l < 6 → ∀ c, c < 8 → (nI c) <<< (((3 : Int32) * nI l) &&& 31) = nI (c * 8 ^ l) := by decide +kernel
theorem jb_mt : ∀ l, l < 6 → ∀ j, j < 18 → (4294967295 - 7 * 8 ^ l).testBit j = !(decide (3 * l ≤ j) && decide (j < 3 * l + 3)) := by decide +kernel
theorem jb_8 (l : Nat) : 8 ^ l = 2 ^ (3 * l) := by rw [Nat.pow_mul]
theorem jp_pl_of {P : Int32} {co : Nat → Int32} {n l : Nat} (h : jpk P co n) (hn : n ≤ 6) (hl : l < n) : jp_pl P l = co l := by
  obtain ⟨N, h1, rfl, h3⟩ := h
  rw [jp_pl, pk_shrN (by omega) _ (3 * l) (jb_p3 l (by omega)), pk_andN (Nat.lt_of_le_of_lt (Nat.div_le_self _ _) (by omega)) 3 (by decide), ← jb_8]
  rw [show (2 : Nat) ^ 3 = 8 from rfl, h3 l hl]
  exact Int32.add_sub_cancel _ _
theorem jb_dig {N N2 l k c1 : Nat} (hl : l < 6) (hk : k < 6) (hc : c1 < 8) (e : N2 = (N &&& (4294967295 - 7 * 8 ^ l)) ||| c1 * 8 ^ l) : N2 / 8 ^ k % 8 = if k = l then c1 else N / 8 ^ k % 8 := by
  have key : ∀ i, i < 3 → N2.testBit (3 * k + i) = if k = l then c1.testBit i else N.testBit (3 * k + i) := by
    intro i hi
    rw [e, Nat.testBit_or, Nat.testBit_and, jb_mt l hl _ (by omega), jb_8, Nat.testBit_mul_two_pow]
    by_cases hkl : k = l
    · subst hkl
      simp [hi]
    · rw [if_neg hkl]
      by_cases h1 : 3 * l ≤ 3 * k + i
      · have h2 : ¬ (3 * k + i < 3 * l + 3) := by omega
        have h3 : c1.testBit (3 * k + i - 3 * l) = false := Nat.testBit_lt_two_pow (Nat.lt_of_lt_of_le hc (by
          rw [show (8 : Nat) = 2 ^ 3 from rfl]; exact Nat.pow_le_pow_right (by decide) (by omega)))
        simp [h2, h3]
      · simp [h1]
  apply Nat.eq_of_testBit_eq
  intro i
  rw [jb_8 k, show (8 : Nat) = 2 ^ 3 from rfl, Nat.testBit_mod_two_pow, Nat.testBit_div_two_pow]
  by_cases hi : i < 3
  · rw [Nat.add_comm i, key i hi]
    by_cases hkl : k = l
    · simp [hkl, hi]
    · rw [if_neg hkl, if_neg hkl, Nat.testBit_mod_two_pow, Nat.testBit_div_two_pow, Nat.add_comm i]
  · by_cases hkl : k = l
    · rw [if_pos hkl]
      have h3 : c1.testBit i = false := Nat.testBit_lt_two_pow (Nat.lt_of_lt_of_le hc (by
          rw [show (8 : Nat) = 2 ^ 3 from rfl]; exact Nat.pow_le_pow_right (by decide) (by omega)))
      simp [hi, h3]
    · rw [if_neg hkl, Nat.testBit_mod_two_pow]
      simp [hi]
theorem jpk_set {P : Int32} {co : Nat → Int32} {n l c1 : Nat} (h : jpk P co n) (hn : n ≤ 6) (hl : l < 6) (hc : c1 < 8) {c : Int32} (ec : c + 1 = nI c1) : jpk (jp_wp P l c) (jup co l c) n := by
  obtain ⟨N, h1, rfl, h3⟩ := h
  refine ⟨(N &&& (4294967295 - 7 * 8 ^ l)) ||| c1 * 8 ^ l, ?_, ?_, fun k hk => ?_⟩
  · rw [show (262144 : Nat) = 2 ^ 18 from rfl] at h1 ⊢
    refine Nat.or_lt_two_pow (Nat.lt_of_le_of_lt Nat.and_le_left h1) ?_
    have h8 : 8 ^ l ≤ 8 ^ 5 := Nat.pow_le_pow_right (by decide) (by omega)
    have : c1 * 8 ^ l ≤ 7 * 8 ^ 5 := Nat.mul_le_mul (by omega) h8
    omega
  · rw [jp_wp, ec, jb_m7 l hl, jb_c1 l hl c1 hc, jb_and, jb_or]
  · rw [jb_dig hl (by omega) hc rfl]
    by_cases e : k = l
    · subst e; rw [if_pos rfl, jup_s, ec]
    · rw [if_neg e, jup_n _ _ e, h3 k hk]
theorem jpk_congr {P : Int32} {co co' : Nat → Int32} {n : Nat} (h : jpk P co n) (e : ∀ l, l < n → co l = co' l) : jpk P co' n := by
  obtain ⟨N, h1, h2, h3⟩ := h
  exact ⟨N, h1, h2, fun l hl => by rw [h3 l hl, e l hl]⟩
theorem jpk_0 (n : Nat) : jpk 0 (fun _ => -1) n := ⟨0, by decide, rfl, fun l _ => by rw [Nat.zero_div]; show nI (0 % 8) = (-1 : Int32) + 1; decide⟩
