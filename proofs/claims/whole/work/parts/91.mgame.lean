/-! the reference's beginningOf, isNew, bestNext -/
section
variable {v : Nat → Int32} {a : Nat → List Int32} {w u : Int64} {G : jG}
theorem jm_beginningOf {h : jx_H} {L : Nat} (hL : L < 2 ^ 31) : jx_W 1 jk_X7_beginningOf 0 [some (.int (nI L))] [] h (jx_is (some (.int (nI (bg L)))) h) := by
  have e : ∀ k, k < 2 ^ 31 → (nI L = nI k ↔ L = k) := fun k hk => nI_eq hL hk
  unfold bg
  refine jx_auto rfl trivial ?_
  refine jx_if rfl (fun c1 => ?_) (fun c1 => ?_)
  · have n0 : ¬ L = 0 := fun z => c1 ((e 0 (by decide)).mpr z)
    rw [if_neg n0]
    refine jx_auto rfl trivial ?_
    refine jx_if rfl (fun c2 => ?_) (fun c2 => ?_)
    · have n1 : ¬ L = 1 := fun z => c2 ((e 1 (by decide)).mpr z)
      rw [if_neg n1]
      refine jx_auto rfl trivial ?_
      refine jx_if rfl (fun c3 => ?_) (fun c3 => ?_)
      · have n2 : ¬ L = 2 := fun z => c3 ((e 2 (by decide)).mpr z)
        rw [if_neg n2]
        refine jx_auto rfl trivial ?_
        refine jx_if rfl (fun c4 => ?_) (fun c4 => ?_)
        · have n3 : ¬ L = 3 := fun z => c4 ((e 3 (by decide)).mpr z)
          rw [if_neg n3]
          refine jx_auto rfl trivial ?_
          exact jx_ends rfl trivial
        · have n3 : L = 3 := (e 3 (by decide)).mp (Decidable.not_not.mp c4)
          rw [if_pos n3]
          refine jx_auto rfl trivial ?_
          exact jx_ends rfl trivial
      · have n2 : L = 2 := (e 2 (by decide)).mp (Decidable.not_not.mp c3)
        rw [if_pos n2]
        refine jx_auto rfl trivial ?_
        exact jx_ends rfl trivial
    · have n1 : L = 1 := (e 1 (by decide)).mp (Decidable.not_not.mp c2)
      rw [if_pos n1]
      refine jx_auto rfl trivial ?_
      exact jx_ends rfl trivial
  · have n0 : L = 0 := (e 0 (by decide)).mp (Decidable.not_not.mp c1)
    rw [if_pos n0]
    refine jx_auto rfl trivial ?_
    exact jx_ends rfl trivial
theorem nat_beq {m n : Nat} : Nat.beq m n = decide (m = n) := by
  by_cases h : m = n
  · subst h; rw [Nat.beq_refl]; simp
  · cases hb : Nat.beq m n with
    | true => exact absurd (Nat.eq_of_beq_eq_true hb) h
    | false => simp [h]
theorem jm_isNew {h : jx_H} {code L c : Nat} (hcode : code < 2 ^ 31) (hL : L < 2 ^ 31) (hc : c < 2 ^ 31) : jx_W 1 jk_X7_isNew 0 [some (.int (nI code)), some (.int (nI L)), some (.int (nI c)), none, none, none] [] h (jx_is (some (.int (if nd_d (dg L code) c = true then 0 else 1))) h) := by
  have loop : ∀ m j (left : Nat) (is : Bool), j + m = L → left < 2 ^ 31 → ((!is || nd_d (dg m left) c) = nd_d (dg L code) c) → jx_W 1 jk_X7_isNew 8 [some (.int (nI code)), some (.int (nI L)), some (.int (nI c)), some (.int (if is = true then 1 else 0)), some (.int (nI left)), some (.int (nI j))] [] h (jx_is (some (.int (if nd_d (dg L code) c = true then 0 else 1))) h) := by
    intro m
    induction m with
    | zero =>
      intro j left is hj hl he
      have e : j = L := by omega
      refine jx_auto rfl trivial ?_
      refine jx_if rfl (fun _ => ?_) (fun c1 => absurd (nI_le (by omega) (by omega)) c1)
      have e2 : (if nd_d (dg L code) c = true then (0 : Int32) else 1) = (if is = true then 1 else 0) := by
        rw [← he]
        cases is <;> rfl
      rw [e2]
      refine jx_auto rfl trivial ?_
      refine jx_ends rfl ⟨?_, trivial⟩
      cases is
      · exact Or.inl rfl
      · exact Or.inr rfl
    | succ m ih =>
      intro j left is hj hl he
      have last : ∀ is2 : Bool, is2 = (is && !decide (left % 4 = c)) → jx_W 1 jk_X7_isNew 31 [some (.int (nI code)), some (.int (nI L)), some (.int (nI c)), some (.int (if is = true then 1 else 0)), some (.int (nI left)), some (.int (nI j))] [.int (if is2 = true then 1 else 0)] h (jx_is (some (.int (if nd_d (dg L code) c = true then 0 else 1))) h) := by
        intro is2 e2
        refine jx_steps 7 rfl ⟨by decide, trivial⟩ ?_
        dsimp only
        rw [nI_1, show nI left / 4 = nI (left / 4) from pk_div (d := 4) hl (by decide) (by decide)]
        refine ih (j + 1) (left / 4) is2 (by omega) (by omega) ?_
        rw [← he, dg, nd_d, pl_add, nat_beq, e2]
        by_cases q : left % 4 = c
        · cases is <;> simp [q]
        · cases is <;> simp [q, Ne.symm q]
      refine jx_auto rfl trivial ?_
      refine jx_if rfl (fun c1 => absurd c1 (nI_ge (by omega) (by omega))) (fun _ => ?_)
      refine jx_auto rfl trivial ?_
      cases is with
      | false =>
        refine jx_if rfl (fun _ => ?_) (fun c2 => absurd rfl c2)
        refine jx_steps 1 rfl trivial ?_
        exact last false rfl
      | true =>
        refine jx_if rfl (fun c2 => absurd (show (1 : Int32) = 0 from c2) (by decide)) (fun _ => ?_)
        refine jx_auto rfl ⟨by decide, trivial⟩ ?_
        have erem : nI left - nI left / 4 * 4 = nI (left % 4) := pk_rem (d := 4) hl (by decide) (by decide)
        refine jx_if rfl (fun c2 => ?_) (fun c2 => ?_)
        · have c3 : nI left - nI left / 4 * 4 = nI c := c2
          rw [erem] at c3
          have c4 := (nI_eq (by omega) hc).mp c3
          refine jx_steps 1 rfl trivial ?_
          exact last false (by simp [c4])
        · have c3 : ¬ nI left - nI left / 4 * 4 = nI c := c2
          rw [erem] at c3
          have c4 : ¬ left % 4 = c := fun z => c3 (by rw [z])
          refine jx_steps 2 rfl trivial ?_
          exact last true (by simp [c4])
  refine jx_steps 6 rfl trivial ?_
  exact loop L 0 code true (by omega) hcode (by simp)
/-- the numbers that bestNext reads -/
def bn_e (gb : List Int32) (L code : Nat) (c : Nat) : Int32 := gb.getD (bg (L + 1) + 4 * code + c) 0
theorem bn_lt {e : Nat → Int32} {L : Nat} {d : Nat → Bool} : ∀ {n b : Nat}, bn_upto e L d n = some b → b < n
  | 0, b, h => by cases h
  | n + 1, b, h => by
    rw [bn_upto] at h
    by_cases hd : d n = true
    · rw [if_pos hd] at h; have := bn_lt h; omega
    · rw [if_neg hd] at h
      cases h0 : bn_upto e L d n with
      | none => rw [h0] at h; have := Option.some.inj h; omega
      | some k =>
        rw [h0] at h
        have := bn_lt h0
        dsimp only at h
        by_cases q : (L % 2 = 0 ∧ e k < e n) ∨ (¬ L % 2 = 0 ∧ e n < e k)
        · rw [if_pos q] at h; have := Option.some.inj h; omega
        · rw [if_neg q] at h; have := Option.some.inj h; omega
theorem jm_bestNext (h : jMG v a G) (hl : (a 15).length = 341) {code L : Nat} (hL : L < 4) (hcode : code < 4 ^ L) : jx_W 2 jk_X7_bestNext 0 [some (.ref 0), some (.int (nI code)), some (.int (nI L)), none, none, none, none] [] (jM v a w u) (jx_is (some (.int (sp_opt (bn_upto (bn_e (a 15) L code) L (nd_d (dg L code)) (gcv G))))) (jM v a w u)) := by
  have ho := h.ok
  have hb : bg (L + 1) + 4 * code + 3 < 341 ∧ code < 64 := by
    have : L = 0 ∨ L = 1 ∨ L = 2 ∨ L = 3 := by omega
    rcases this with e | e | e | e <;> subst e
    · have : code < 1 := hcode; exact ⟨by show 1 + 4 * code + 3 < 341; omega, by omega⟩
    · have : code < 4 := hcode; exact ⟨by show 5 + 4 * code + 3 < 341; omega, by omega⟩
    · have : code < 16 := hcode; exact ⟨by show 21 + 4 * code + 3 < 341; omega, by omega⟩
    · have : code < 64 := hcode; exact ⟨by show 85 + 4 * code + 3 < 341; omega, by omega⟩
  have ix : ∀ c, nI (bg (L + 1)) + 4 * nI code + nI c = nI (bg (L + 1) + 4 * code + c) := fun c => by
    rw [show (4 : Int32) * nI code = nI (4 * code) from pk_mul 4 code, nI_add, nI_add]
  have loop : ∀ k i, i + k = gcv G → ∀ z5 z6 : Option Value, jx_W 2 jk_X7_bestNext 5 [some (.ref 0), some (.int (nI code)), some (.int (nI L)), some (.int (sp_opt (bn_upto (bn_e (a 15) L code) L (nd_d (dg L code)) i))), some (.int (nI i)), z5, z6] [] (jM v a w u) (jx_is (some (.int (sp_opt (bn_upto (bn_e (a 15) L code) L (nd_d (dg L code)) (gcv G))))) (jM v a w u)) := by
    intro k
    induction k with
    | zero =>
      intro i hi z5 z6
      have e : i = gcv G := by omega
      refine jx_auto rfl trivial ?_
      refine jx_if rfl (fun _ => ?_) (fun c1 => absurd (jc_end h.coverts (by omega) (by omega)) c1)
      refine jx_auto rfl trivial ?_
      exact jx_ends rfl trivial (by rw [e])
    | succ k ih =>
      intro i hi z5 z6
      have hil : i < gcv G := by omega
      have hix : ∀ c, c < 4 → vp_in (nI (bg (L + 1)) + 4 * nI code + nI c) (a 15).length := fun c hc => by
        rw [ix]; exact vp_in_nI (by omega) (by omega)
      have hval : ∀ c, c < 4 → (a 15).getD (nI (bg (L + 1)) + 4 * nI code + nI c).toNatClampNeg 0 = bn_e (a 15) L code c := fun c hc => by
        rw [ix, nI_clamp (by omega)]; rfl
      refine jx_auto rfl trivial ?_
      refine jx_if rfl (fun c1 => absurd c1 (jc_on h.coverts (by omega) (by omega))) (fun _ => ?_)
      refine jx_auto rfl trivial ?_
      refine jx_callE 1 rfl (by decide) (jm_isNew (by omega) (by omega) (by omega)) ?_
      by_cases hd : nd_d (dg L code) i = true
      · rw [if_pos hd]
        refine jx_if rfl (fun _ => ?_) (fun c1 => absurd rfl c1)
        refine jx_steps 2 rfl trivial ?_
        rw [nI_1]
        have z := ih (i + 1) (by omega) z5 z6
        rw [bn_upto, if_pos hd] at z
        exact z
      · rw [if_neg hd]
        refine jx_if rfl (fun c1 => absurd c1 (by decide)) (fun _ => ?_)
        refine jx_auto rfl trivial ?_
        dsimp only
        rw [nI_1]
        refine jx_callE 1 rfl (by decide) (jm_beginningOf (by omega)) ?_
        refine jx_auto rfl ⟨hix i (by omega), trivial⟩ ?_
        dsimp only
        rw [hval i (by omega)]
        have z := fun z5 z6 => ih (i + 1) (by omega) z5 z6
        rw [bn_upto, if_neg hd] at z
        cases hq : bn_upto (bn_e (a 15) L code) L (nd_d (dg L code)) i with
        | none =>
          rw [hq] at z
          refine jx_if rfl (fun c1 => absurd rfl c1) (fun _ => ?_)
          refine jx_auto rfl trivial ?_
          refine jx_if rfl (fun _ => ?_) (fun c1 => absurd rfl c1)
          refine jx_steps 5 rfl trivial ?_
          rw [nI_1]
          exact z _ _
        | some b =>
          rw [hq] at z
          have hbl := bn_lt hq
          have hb1 : ¬ nI b = -1 := nI_ne1 (by omega)
          refine jx_if rfl (fun _ => ?_) (fun c1 => absurd hb1 c1)
          refine jx_auto rfl trivial ?_
          dsimp only
          rw [nI_1]
          refine jx_callE 1 rfl (by decide) (jm_beginningOf (by omega)) ?_
          refine jx_auto rfl ⟨hix b (by omega), trivial⟩ ?_
          have ev : (a 15).getD ((fun x y => x + y) ((fun x y => x + y) (nI (bg (L + 1))) ((fun x y => x * y) 4 (nI code))) (sp_opt (some b))).toNatClampNeg 0 = bn_e (a 15) L code b := hval b (by omega)
          rw [ev]
          refine jx_if rfl (fun c1 => absurd c1 hb1) (fun _ => ?_)
          refine jx_auto rfl ⟨by decide, trivial⟩ ?_
          have hev : nI L - nI L / 2 * 2 = nI (L % 2) := pk_rem (d := 2) (by omega) (by decide) (by decide)
          have yes : ((L % 2 = 0 ∧ bn_e (a 15) L code b < bn_e (a 15) L code i) ∨ (¬ L % 2 = 0 ∧ bn_e (a 15) L code i < bn_e (a 15) L code b)) → ∀ y5 y6, jx_W 2 jk_X7_bestNext 100 [some (.ref 0), some (.int (nI code)), some (.int (nI L)), some (.int (sp_opt (some b))), some (.int (nI i)), y5, y6] [] (jM v a w u) (jx_is (some (.int (sp_opt (bn_upto (bn_e (a 15) L code) L (nd_d (dg L code)) (gcv G))))) (jM v a w u)) := by
            intro q y5 y6
            dsimp only at z
            rw [if_pos q] at z
            refine jx_steps 5 rfl trivial ?_
            rw [nI_1]
            exact z _ _
          have no : ¬ ((L % 2 = 0 ∧ bn_e (a 15) L code b < bn_e (a 15) L code i) ∨ (¬ L % 2 = 0 ∧ bn_e (a 15) L code i < bn_e (a 15) L code b)) → ∀ y5 y6, jx_W 2 jk_X7_bestNext 105 [some (.ref 0), some (.int (nI code)), some (.int (nI L)), some (.int (sp_opt (some b))), some (.int (nI i)), y5, y6] [] (jM v a w u) (jx_is (some (.int (sp_opt (bn_upto (bn_e (a 15) L code) L (nd_d (dg L code)) (gcv G))))) (jM v a w u)) := by
            intro q y5 y6
            dsimp only at z
            rw [if_neg q] at z
            refine jx_steps 4 rfl trivial ?_
            rw [nI_1]
            exact z _ _
          refine jx_if rfl (fun c1 => ?_) (fun c1 => ?_)
          · have c2 : ¬ nI L - nI L / 2 * 2 = 0 := c1
            rw [hev] at c2
            have c3 : ¬ L % 2 = 0 := fun q => c2 (by rw [q]; rfl)
            refine jx_auto rfl trivial ?_
            refine jx_if rfl (fun c4 => ?_) (fun c4 => ?_)
            · exact no (by
                rintro (q | q)
                · exact c3 q.1
                · exact absurd c4 (Int32.not_le.mpr q.2)) _ _
            · exact yes (Or.inr ⟨c3, Int32.not_le.mp c4⟩) _ _
          · have c2 : nI L - nI L / 2 * 2 = 0 := Decidable.not_not.mp c1
            rw [hev] at c2
            have c3 : L % 2 = 0 := (nI_eq (b := 0) (by omega) (by decide)).mp c2
            refine jx_auto rfl trivial ?_
            refine jx_if rfl (fun c4 => ?_) (fun c4 => ?_)
            · exact no (by
                rintro (q | q)
                · exact absurd c4 (Int32.not_le.mpr q.2)
                · exact q.1 c3) _ _
            · refine jx_steps 1 rfl trivial ?_
              exact yes (Or.inl ⟨c3, Int32.not_le.mp c4⟩) _ _
  refine jx_steps 4 rfl trivial ?_
  exact loop (gcv G) 0 (by omega) none none
end
