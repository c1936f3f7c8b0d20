/-! the reference's side -/
def jMG (v : Nat → Int32) (a : Nat → List Int32) (G : jG) : Prop :=
  (v 1 = nI (gpg G) ∧ v 2 = nI (gcv G) ∧ v 3 = nI (glg G) ∧ v 7 = nI (gsn G) ∧ gok G) ∧
  ((a 0).length = 6 ∧ (a 1).length = 6 ∧ (a 2).length = 4 ∧ (a 3).length = 6 ∧ (a 4).length = 6 ∧ (a 5).length = 6 ∧ (a 6).length = 6 ∧ (a 7).length = 6 ∧ (a 8).length = 6) ∧
  (∀ p, p < gpg G → (a 0).getD p 0 = grc G p) ∧ (∀ p, p < gpg G → (a 1).getD p 0 = gbg G p) ∧ (∀ c, c < gcv G → (a 2).getD c 0 = gfe G c) ∧
  (∀ l, l < glg G → (a 3).getD l 0 = gkd G l) ∧ (∀ l, l < glg G → (a 4).getD l 0 = gco G l) ∧ (∀ l, l < glg G → (a 5).getD l 0 = ghi G l) ∧
  (∀ k, k < gsn G → (a 6).getD k 0 = gsl G k) ∧ (∀ k, k < gsn G → (a 7).getD k 0 = gsw G k) ∧ (∀ k, k < gsn G → (a 8).getD k 0 = gsp G k) ∧
  v 4 = gno G 0 ∧ v 5 = gno G 1
/-- the sizes of the rows that are worked with -/
def jMl (a : Nat → List Int32) : Prop := (a 10).length = 6 ∧ (a 11).length = 6 ∧ (a 12).length = 6 ∧ (a 13).length = 6 ∧ (a 14).length = 6 ∧ (a 15).length = 341
/-- a set of small numbers, as bits -/
def jms (x : Int32) (p : Nat → Bool) : Prop := ∃ m, m < 64 ∧ x = nI m ∧ ∀ l, l < 6 → m.testBit l = p l
theorem jms_in {x : Int32} {p : Nat → Bool} (h : jms x p) {l : Nat} (hl : l < 6) : (x >>> (nI l &&& 31)) &&& 1 = if p l = true then 1 else 0 := by
  obtain ⟨m, h1, rfl, h3⟩ := h
  rw [jb_tst (by omega) (by omega), h3 l hl]
theorem jms_0 : jms 0 (fun _ => false) := ⟨0, by decide, rfl, fun l _ => Nat.zero_testBit l⟩
theorem jms_or {x : Int32} {p : Nat → Bool} (h : jms x p) {b : Nat} (hb : b < 6) : jms (x ||| ((1 : Int32) <<< (nI b &&& 31))) (fun l => p l || decide (b = l)) := by
  obtain ⟨m, h1, rfl, h3⟩ := h
  refine ⟨m ||| 2 ^ b, ?_, by rw [jb_one b (by omega), jb_or], fun l hl => ?_⟩
  · rw [show (64 : Nat) = 2 ^ 6 from rfl] at h1 ⊢
    exact Nat.or_lt_two_pow h1 (Nat.pow_lt_pow_right (by decide) hb)
  · rw [Nat.testBit_or, h3 l hl, Nat.testBit_two_pow]
theorem jms_congr {x : Int32} {p q : Nat → Bool} (h : jms x p) (e : ∀ l, l < 6 → p l = q l) : jms x q := by
  obtain ⟨m, h1, h2, h3⟩ := h
  exact ⟨m, h1, h2, fun l hl => by rw [h3 l hl, e l hl]⟩
theorem jms_set (p : Nat → Bool) {n : Nat} (hn : n ≤ 6) : jms (jb_set p n) (fun l => decide (l < n) && p l) := by
  obtain ⟨m, h1, h2, h3⟩ := jb_set_spec p n hn
  have hb : 2 ^ n ≤ 2 ^ 6 := Nat.pow_le_pow_right (by decide) hn
  exact ⟨m, by omega, h2, fun l _ => h3 l⟩
section
variable {v : Nat → Int32} {a : Nat → List Int32} {w u : Int64} {G : jG}
theorem jMG.pegs (h : jMG v a G) : v 1 = nI (gpg G) := h.1.1
theorem jMG.coverts (h : jMG v a G) : v 2 = nI (gcv G) := h.1.2.1
theorem jMG.laughs (h : jMG v a G) : v 3 = nI (glg G) := h.1.2.2.1
theorem jMG.seen (h : jMG v a G) : v 7 = nI (gsn G) := h.1.2.2.2.1
theorem jMG.ok (h : jMG v a G) : gpg G ≤ 6 ∧ gcv G ≤ 4 ∧ glg G ≤ 6 ∧ gsn G ≤ 6 := h.1.2.2.2.2
theorem jMG.lens (h : jMG v a G) : (a 0).length = 6 ∧ (a 1).length = 6 ∧ (a 2).length = 4 ∧ (a 3).length = 6 ∧ (a 4).length = 6 ∧ (a 5).length = 6 ∧ (a 6).length = 6 ∧ (a 7).length = 6 ∧ (a 8).length = 6 := h.2.1
theorem jMG.reach (h : jMG v a G) {p : Nat} (hp : p < gpg G) : (a 0).getD p 0 = grc G p := h.2.2.1 p hp
theorem jMG.bag (h : jMG v a G) {p : Nat} (hp : p < gpg G) : (a 1).getD p 0 = gbg G p := h.2.2.2.1 p hp
theorem jMG.feed (h : jMG v a G) {p : Nat} (hp : p < gcv G) : (a 2).getD p 0 = gfe G p := h.2.2.2.2.1 p hp
theorem jMG.kind (h : jMG v a G) {p : Nat} (hp : p < glg G) : (a 3).getD p 0 = gkd G p := h.2.2.2.2.2.1 p hp
theorem jMG.co (h : jMG v a G) {p : Nat} (hp : p < glg G) : (a 4).getD p 0 = gco G p := h.2.2.2.2.2.2.1 p hp
theorem jMG.high (h : jMG v a G) {p : Nat} (hp : p < glg G) : (a 5).getD p 0 = ghi G p := h.2.2.2.2.2.2.2.1 p hp
theorem jMG.sl (h : jMG v a G) {p : Nat} (hp : p < gsn G) : (a 6).getD p 0 = gsl G p := h.2.2.2.2.2.2.2.2.1 p hp
theorem jMG.sw (h : jMG v a G) {p : Nat} (hp : p < gsn G) : (a 7).getD p 0 = gsw G p := h.2.2.2.2.2.2.2.2.2.1 p hp
theorem jMG.sp (h : jMG v a G) {p : Nat} (hp : p < gsn G) : (a 8).getD p 0 = gsp G p := h.2.2.2.2.2.2.2.2.2.2.1 p hp
theorem jMG.sport (h : jMG v a G) : v 4 = gno G 0 := h.2.2.2.2.2.2.2.2.2.2.2.1
theorem jMG.drives (h : jMG v a G) : v 5 = gno G 1 := h.2.2.2.2.2.2.2.2.2.2.2.2
theorem jm_within {h : jx_H} {x lo hi : Int32} : jx_W 1 jk_X7_within 0 [some (.int x), some (.int lo), some (.int hi)] [] h (jx_is (some (.int (if lo ≤ x ∧ x ≤ hi then 1 else 0))) h) := by
  refine jx_auto rfl trivial ?_
  refine jx_if rfl (fun c1 => ?_) (fun c1 => ?_)
  · refine jx_auto rfl trivial ?_
    refine jx_ends rfl ⟨Or.inl rfl, trivial⟩ ?_
    rw [if_neg (fun z => absurd c1 (Int32.not_lt.mpr z.1))]
  · refine jx_auto rfl trivial ?_
    refine jx_if rfl (fun c2 => ?_) (fun c2 => ?_)
    · refine jx_auto rfl trivial ?_
      refine jx_ends rfl ⟨Or.inl rfl, trivial⟩ ?_
      rw [if_neg (fun z => absurd c2 (Int32.not_lt.mpr z.2))]
    · refine jx_auto rfl trivial ?_
      refine jx_ends rfl ⟨Or.inr rfl, trivial⟩ ?_
      rw [if_pos ⟨Int32.not_lt.mp c1, Int32.not_lt.mp c2⟩]
theorem jm_isIn {h : jx_H} {x : Int32} {p : Nat → Bool} (hx : jms x p) {l : Nat} (hl : l < 6) : jx_W 1 jk_X7_isIn 0 [some (.int x), some (.int (nI l))] [] h (jx_is (some (.int (if p l = true then 1 else 0))) h) := by
  have e := jms_in hx hl
  refine jx_auto rfl trivial ?_
  dsimp only
  rw [e]
  refine jx_if rfl (fun c1 => ?_) (fun c1 => ?_)
  · refine jx_auto rfl trivial ?_
    refine jx_ends rfl ⟨Or.inl rfl, trivial⟩ ?_
    by_cases q : p l = true
    · rw [if_pos q] at c1; exact absurd rfl c1
    · rw [if_neg q]
  · refine jx_auto rfl trivial ?_
    refine jx_ends rfl ⟨Or.inr rfl, trivial⟩ ?_
    by_cases q : p l = true
    · rw [if_pos q]
    · rw [if_neg q] at c1; exact absurd (by decide) c1
theorem sp_has_le {n : Nat} (hn : n ≤ 6) (x : Int32) : (if 0 ≤ x ∧ x ≤ nI n - 1 then (1 : Int32) else 0) = sp_has n x := by
  have e : ∀ n, n ≤ 6 → (nI n - 1).toInt = (nI n).toInt - 1 := by decide
  have : x ≤ nI n - 1 ↔ x < nI n := by
    rw [Int32.le_iff_toInt_le, Int32.lt_iff_toInt_lt, e n hn]; omega
  simp only [sp_has, this]
theorem jm_isPeg (h : jMG v a G) {x : Int32} : jx_W 2 jk_X7_isPeg 0 [some (.ref 0), some (.int x)] [] (jM v a w u) (jx_is (some (.int (sp_has (gpg G) x))) (jM v a w u)) := by
  have ho := h.ok
  refine jx_auto rfl trivial ?_
  refine jx_callE 1 rfl (by decide) jm_within ?_
  refine jx_ends rfl ⟨?_, trivial⟩ ?_
  · split <;> simp
  · show some (Value.int (if 0 ≤ x ∧ x ≤ v 1 - 1 then 1 else 0)) = _
    rw [h.pegs, sp_has_le ho.1]
theorem jm_isCovert (h : jMG v a G) {x : Int32} : jx_W 2 jk_X7_isCovert 0 [some (.ref 0), some (.int x)] [] (jM v a w u) (jx_is (some (.int (sp_has (gcv G) x))) (jM v a w u)) := by
  have ho := h.ok
  refine jx_auto rfl trivial ?_
  refine jx_callE 1 rfl (by decide) jm_within ?_
  refine jx_ends rfl ⟨?_, trivial⟩ ?_
  · split <;> simp
  · show some (Value.int (if 0 ≤ x ∧ x ≤ v 2 - 1 then 1 else 0)) = _
    rw [h.coverts, sp_has_le (by omega)]
theorem jm_isLaugh (h : jMG v a G) {x : Int32} : jx_W 2 jk_X7_isLaugh 0 [some (.ref 0), some (.int x)] [] (jM v a w u) (jx_is (some (.int (sp_has (glg G) x))) (jM v a w u)) := by
  have ho := h.ok
  refine jx_auto rfl trivial ?_
  refine jx_callE 1 rfl (by decide) jm_within ?_
  refine jx_ends rfl ⟨?_, trivial⟩ ?_
  · split <;> simp
  · show some (Value.int (if 0 ≤ x ∧ x ≤ v 3 - 1 then 1 else 0)) = _
    rw [h.laughs, sp_has_le ho.2.2.1]
theorem jm_isWind {h : jx_H} {x : Int32} : jx_W 2 jk_X7_isWind 0 [some (.int x)] [] h (jx_is (some (.int (if -1 ≤ x ∧ x ≤ 1 then 1 else 0))) h) := by
  refine jx_auto rfl trivial ?_
  refine jx_callE 1 rfl (by decide) jm_within ?_
  refine jx_ends rfl ⟨?_, trivial⟩ rfl
  split <;> simp
theorem jm_pegFrom (h : jMG v a G) {l : Nat} (hl : l < glg G) {c x : Int32} : jx_W 3 jk_X7_pegFrom 0 [some (.ref 0), some (.int (nI l)), some (.int c), some (.int x), none] [] (jM v a w u) (jx_is (some (.int (sp_peg G l c x))) (jM v a w u)) := by
  have ho := h.ok
  have hn := h.lens
  have ek : (a 3).getD (nI l).toNatClampNeg 0 = gkd G l := by rw [nI_clamp (by omega)]; exact h.kind hl
  have hv : vp_in (nI l) (a 3).length := vp_in_nI (by omega) (by omega)
  have tail : ∀ f : Int32, f = sp_further (gkd G l) → jx_W 3 jk_X7_pegFrom 32 [some (.ref 0), some (.int (nI l)), some (.int c), some (.int x), none] [.int f, .int (c + x)] (jM v a w u) (jx_is (some (.int (sp_peg G l c x))) (jM v a w u)) := by
    intro f hf
    subst hf
    refine jx_auto rfl trivial ?_
    refine jx_callE 2 rfl (by decide) (jm_isPeg h) ?_
    refine jx_if rfl (fun c2 => ?_) (fun c2 => ?_)
    · refine jx_auto rfl trivial ?_
      refine jx_ends rfl trivial ?_
      rw [sp_peg, if_neg]
      intro z
      rw [sp_has, if_pos z] at c2
      cases c2
    · refine jx_auto rfl trivial ?_
      refine jx_ends rfl trivial ?_
      rw [sp_peg, if_pos]
      rw [sp_has] at c2
      split at c2
      · assumption
      · exact absurd rfl c2
  refine jx_auto rfl ⟨hv, trivial⟩ ?_
  rw [ek]
  refine jx_if rfl (fun c1 => ?_) (fun c1 => ?_)
  · refine jx_auto rfl ⟨hv, trivial⟩ ?_
    rw [ek]
    refine jx_if rfl (fun c2 => ?_) (fun c2 => ?_)
    · refine jx_steps 1 rfl trivial ?_
      exact tail 0 (by rw [sp_further, if_neg c1, if_neg c2])
    · refine jx_steps 2 rfl trivial ?_
      exact tail 2 (by rw [sp_further, if_neg c1, if_pos (by simpa using c2)])
  · refine jx_steps 2 rfl trivial ?_
    exact tail 1 (by rw [sp_further, if_pos (by simpa using c1)])
theorem jm_heightFrom (h : jMG v a G) {l c : Nat} (hl : l < glg G) (hc : c < gcv G) : jx_W 1 jk_X7_heightFrom 0 [some (.ref 0), some (.int (nI l)), some (.int (nI c)), none] [] (jM v a w u) (jx_is (some (.int (sp_height G l c))) (jM v a w u)) := by
  have ho := h.ok
  have hn := h.lens
  have e1 : (a 3).getD (nI l).toNatClampNeg 0 = gkd G l := by rw [nI_clamp (by omega)]; exact h.kind hl
  have e2 : (a 5).getD (nI l).toNatClampNeg 0 = ghi G l := by rw [nI_clamp (by omega)]; exact h.high hl
  have e3 : (a 2).getD (nI c).toNatClampNeg 0 = gfe G c := by rw [nI_clamp (by omega)]; exact h.feed hc
  refine jx_auto rfl ⟨vp_in_nI (by omega) (by omega), vp_in_nI (by omega) (by omega), vp_in_nI (by omega) (by omega), trivial⟩ ?_
  rw [e1, e2, e3]
  refine jx_switch rfl ⟨fun c2 => ?_, fun c2 => ⟨fun c3 => ?_, fun c3 => ⟨fun c4 => ?_, fun c4 => ⟨fun c5 => ?_, fun c5 => ?_⟩⟩⟩⟩
  · refine jx_auto rfl ⟨by decide, trivial⟩ ?_
    refine jx_ends rfl trivial ?_
    rw [sp_height, if_pos c2]
  · refine jx_auto rfl trivial ?_
    refine jx_ends rfl trivial ?_
    rw [sp_height, if_neg c2, if_pos c3]
  · refine jx_auto rfl trivial ?_
    refine jx_ends rfl trivial ?_
    rw [sp_height, if_neg c2, if_neg c3, if_pos c4]
  · refine jx_auto rfl trivial ?_
    refine jx_ends rfl trivial ?_
    rw [sp_height, if_neg c2, if_neg c3, if_neg c4, if_pos c5]
  · refine jx_auto rfl trivial ?_
    refine jx_ends rfl trivial ?_
    rw [sp_height, if_neg c2, if_neg c3, if_neg c4, if_neg c5]
theorem jm_canHave (h : jMG v a G) {p l c : Nat} (hp : p < gpg G) (hl : l < glg G) (hc : c < gcv G) {x : Int32} : jx_W 4 jk_X7_canHave 0 [some (.ref 0), some (.int (nI p)), some (.int (nI l)), some (.int (nI c)), some (.int x), none] [] (jM v a w u) (jx_is (some (.int (if sp_candB G (grc G p) (nI p) c x l = true then 1 else 0))) (jM v a w u)) := by
  have ho := h.ok
  have hn := h.lens
  have e1 : (a 4).getD (nI l).toNatClampNeg 0 = gco G l := by rw [nI_clamp (by omega)]; exact h.co hl
  have e2 : (a 0).getD (nI p).toNatClampNeg 0 = grc G p := by rw [nI_clamp (by omega)]; exact h.reach hp
  have no : ¬ (gco G l = nI c ∧ sp_peg G l (nI c) x = nI p ∧ 0 < sp_height G l c ∧ sp_height G l c ≤ grc G p) → jx_W 4 jk_X7_canHave 50 [some (.ref 0), some (.int (nI p)), some (.int (nI l)), some (.int (nI c)), some (.int x), some (.int (sp_height G l c))] [] (jM v a w u) (jx_is (some (.int (if sp_candB G (grc G p) (nI p) c x l = true then 1 else 0))) (jM v a w u)) := by
    intro hno
    refine jx_auto rfl trivial ?_
    refine jx_ends rfl ⟨Or.inl rfl, trivial⟩ ?_
    rw [if_neg (fun z => hno (sp_candB_iff.mp z))]
  refine jx_auto rfl trivial ?_
  refine jx_callE 1 rfl (by decide) (jm_heightFrom h hl hc) ?_
  refine jx_auto rfl ⟨vp_in_nI (by omega) (by omega), trivial⟩ ?_
  rw [e1]
  refine jx_if rfl (fun c1 => no (fun z => c1 z.1)) (fun c1 => ?_)
  refine jx_auto rfl trivial ?_
  refine jx_callE 3 rfl (by decide) (jm_pegFrom h hl) ?_
  refine jx_auto rfl trivial ?_
  refine jx_if rfl (fun c2 => no (fun z => c2 z.2.1)) (fun c2 => ?_)
  refine jx_auto rfl trivial ?_
  refine jx_if rfl (fun c3 => no (fun z => absurd z.2.2.1 (Int32.not_lt.mpr c3))) (fun c3 => ?_)
  refine jx_auto rfl ⟨vp_in_nI (by omega) (by omega), trivial⟩ ?_
  rw [e2]
  refine jx_if rfl (fun c4 => no (fun z => absurd c4 (Int32.not_lt.mpr z.2.2.2))) (fun c4 => ?_)
  refine jx_auto rfl trivial ?_
  refine jx_ends rfl ⟨Or.inr rfl, trivial⟩ ?_
  rw [if_pos (sp_candB_iff.mpr ⟨by simpa using c1, by simpa using c2, Int32.not_le.mp c3, Int32.not_lt.mp c4⟩)]
theorem jm_hadAt (h : jMG v a G) {p c : Nat} (hp : p < gpg G) (hc : c < gcv G) {x : Int32} : jx_W 5 jk_X7_hadAt 0 [some (.ref 0), some (.int (nI p)), some (.int (nI c)), some (.int x), none, none] [] (jM v a w u) (jx_is (some (.int (sp_opt (sp_had G p c x)))) (jM v a w u)) := by
  have ho := h.ok
  refine jx_steps 4 rfl trivial ?_
  have loop : ∀ k i, i + k = glg G → jx_W 5 jk_X7_hadAt 6 [some (.ref 0), some (.int (nI p)), some (.int (nI c)), some (.int x), some (.int (sp_opt (sp_hadN G (grc G p) (nI p) c x i))), some (.int (nI i))] [] (jM v a w u) (jx_is (some (.int (sp_opt (sp_had G p c x)))) (jM v a w u)) := by
    intro k
    induction k with
    | zero =>
      intro i hi
      have e : i = glg G := by omega
      refine jx_auto rfl trivial ?_
      refine jx_if rfl (fun _ => ?_) (fun c1 => absurd (jc_end h.laughs (by omega) (by omega)) c1)
      refine jx_auto rfl trivial ?_
      exact jx_ends rfl trivial (by rw [sp_had, e])
    | succ k ih =>
      intro i hi
      have hil : i < glg G := by omega
      have stay : sp_hadN G (grc G p) (nI p) c x (i + 1) = sp_hadN G (grc G p) (nI p) c x i → jx_W 5 jk_X7_hadAt 55 [some (.ref 0), some (.int (nI p)), some (.int (nI c)), some (.int x), some (.int (sp_opt (sp_hadN G (grc G p) (nI p) c x i))), some (.int (nI i))] [] (jM v a w u) (jx_is (some (.int (sp_opt (sp_had G p c x)))) (jM v a w u)) := by
        intro e
        refine jx_steps 4 rfl trivial ?_
        rw [nI_1, ← e]
        exact ih (i + 1) (by omega)
      have take : sp_hadN G (grc G p) (nI p) c x (i + 1) = some i → jx_W 5 jk_X7_hadAt 50 [some (.ref 0), some (.int (nI p)), some (.int (nI c)), some (.int x), some (.int (sp_opt (sp_hadN G (grc G p) (nI p) c x i))), some (.int (nI i))] [] (jM v a w u) (jx_is (some (.int (sp_opt (sp_had G p c x)))) (jM v a w u)) := by
        intro e
        refine jx_steps 5 rfl trivial ?_
        rw [nI_1]
        refine jx_at (ih (i + 1) (by omega)) rfl ?_
        rw [e]; rfl
      refine jx_auto rfl trivial ?_
      refine jx_if rfl (fun c1 => absurd c1 (jc_on h.laughs (by omega) (by omega))) (fun _ => ?_)
      refine jx_auto rfl trivial ?_
      refine jx_callE 4 rfl (by decide) (jm_canHave h hp hil hc) ?_
      refine jx_if rfl (fun c1 => ?_) (fun c1 => ?_)
      · have hb : sp_candB G (grc G p) (nI p) c x i = false := by
          cases q : sp_candB G (grc G p) (nI p) c x i with
          | false => rfl
          | true => rw [q] at c1; cases c1
        refine stay ?_
        rw [sp_hadN]
        cases sp_hadN G (grc G p) (nI p) c x i <;> simp [hb]
      · have hb : sp_candB G (grc G p) (nI p) c x i = true := by
          cases q : sp_candB G (grc G p) (nI p) c x i with
          | true => rfl
          | false => rw [q] at c1; exact absurd rfl c1
        refine jx_auto rfl trivial ?_
        cases hq : sp_hadN G (grc G p) (nI p) c x i with
        | none =>
          rw [hq] at take
          refine jx_if rfl (fun _ => take ?_) (fun c2 => absurd rfl c2)
          rw [sp_hadN, hq]; simp [hb]
        | some b =>
          rw [hq] at take stay
          have hbl := (sp_had_cand hq).1
          refine jx_if rfl (fun c2 => absurd c2 (nI_ne1 (by omega))) (fun _ => ?_)
          refine jx_auto rfl trivial ?_
          refine jx_callE 1 rfl (by decide) (jm_heightFrom h hil hc) ?_
          refine jx_auto rfl trivial ?_
          refine jx_callE 1 rfl (by decide) (jm_heightFrom h (show b < glg G by omega) hc) ?_
          refine jx_if rfl (fun c3 => stay ?_) (fun c3 => take ?_)
          · have : ¬ sp_height G b c < sp_height G i c := Int32.not_lt.mpr c3
            rw [sp_hadN, hq]; simp [this]
          · have : sp_height G b c < sp_height G i c := Int32.not_le.mp c3
            rw [sp_hadN, hq]; simp [this, hb]
  exact loop (glg G) 0 (by omega)
end
