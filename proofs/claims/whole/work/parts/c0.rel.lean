/-! THE RELATION of the two worlds -/
def gR (G : jG) : Prop := g9 G ∧ gcok G ∧ ¬ 999 < gno G 1 ∧ (0 < glg G → 0 < gcv G) ∧ (0 < gcv G → 0 < gpg G)
def gsz (G K : jG) : Prop := gpg K = gpg G ∧ gcv K = gcv G ∧ glg K = glg G ∧ ∀ l, l < glg G → gkd K l = gkd G l
/-- the image kept pictures K -/
def kL (v : Nat → Int32) (a : Nat → List Int32) (K : jG) : Prop := v 21 = nI (gsn K) ∧ gsn K ≤ 6 ∧ (∀ p, p < gpg K → (a 9).getD p 0 = grc K p) ∧ (∀ p, p < gpg K → (a 10).getD p 0 = gbg K p) ∧ (∀ c, c < gcv K → (a 11).getD c 0 = gfe K c) ∧ (∀ l, l < glg K → (a 13).getD l 0 = ghi K l) ∧ (∀ k, k < gsn K → (a 14).getD k 0 = gsl K k) ∧ (∀ k, k < gsn K → (a 15).getD k 0 = gsw K k) ∧ (∀ k, k < gsn K → (a 16).getD k 0 = gsp K k) ∧ jpk (v 18) (gco K) (glg K) ∧ v 19 = gno K 0 ∧ v 20 = gno K 1
def kM (v : Nat → Int32) (a : Nat → List Int32) (K : jG) : Prop := v 18 = nI (gsn K) ∧ (∀ p, p < gpg K → (a 16).getD p 0 = grc K p) ∧ (∀ p, p < gpg K → (a 17).getD p 0 = gbg K p) ∧ (∀ c, c < gcv K → (a 18).getD c 0 = gfe K c) ∧ (∀ l, l < glg K → (a 19).getD l 0 = gco K l) ∧ (∀ l, l < glg K → (a 20).getD l 0 = ghi K l) ∧ (∀ k, k < gsn K → (a 21).getD k 0 = gsl K k) ∧ (∀ k, k < gsn K → (a 22).getD k 0 = gsw K k) ∧ (∀ k, k < gsn K → (a 23).getD k 0 = gsp K k) ∧ v 16 = gno K 0 ∧ v 17 = gno K 1
def jR0 (n : Nat) (v : Nat → Int32) (a : Nat → List Int32) (v' : Nat → Int32) (a' : Nat → List Int32) (G : jG) (t : Nat) (f : Nat → Int32) (m s : Nat) : Prop := jLG v a G ∧ jMG v' a' G ∧ jpgL v a t f ∧ jpgM v' a' t f ∧ pgok t f ∧ v 1 = nI m ∧ v' 0 = nI m ∧ m ≤ n ∧ v 2 = nI s ∧ v' 6 = nI s ∧ s ≤ 20 ∧ jLl a ∧ jMl a' ∧ jkL a ∧ jmkL a' ∧ gR G
def jRi (v : Nat → Int32) (a : Nat → List Int32) (v' : Nat → Int32) (a' : Nat → List Int32) (G : jG) (m : Nat) : Prop := (v 0 = 0 ∧ (v' 14 = 0 ∨ ∃ k, k < m ∧ v' 15 = nI k)) ∨ (v 0 = 1 ∧ v' 14 = 1 ∧ v' 15 = nI m ∧ ∃ K, gR K ∧ gsz G K ∧ kL v a K ∧ kM v' a' K)
def jR (n : Nat) (hL hM : jx_H) : Prop := ∃ v a w v' a' w' u' G t f m s, hL = jL v a w ∧ hM = jM v' a' w' u' ∧ jR0 n v a v' a' G t f m s ∧ jRi v a v' a' G m
theorem gsz_rf (G : jG) : gsz G G := ⟨rfl, rfl, rfl, fun _ _ => rfl⟩
theorem gsz_tr {G K L : jG} (h : gsz G K) (h2 : gsz G L) : gsz L K := ⟨h.1.trans h2.1.symm, h.2.1.trans h2.2.1.symm, h.2.2.1.trans h2.2.2.1.symm, fun l hl => (h.2.2.2 l (by rw [← h2.2.2.1]; exact hl)).trans (h2.2.2.2 l (by rw [← h2.2.2.1]; exact hl)).symm⟩
/-- the games behind the calls -/
theorem gR_dig {G : jG} (h : gR G) {row n : Nat} {x k : Int32} (hrow : row = 0 ∨ row = 2 ∨ row = 4) : gR (up_dig G row n x k) ∧ gsz G (up_dig G row n x k) := by
  unfold up_dig
  by_cases h1 : sp_has n x = 0
  · rw [if_pos h1]; exact ⟨h, gsz_rf G⟩
  · rw [if_neg h1]
    by_cases h2 : 0 ≤ k ∧ k ≤ 9
    · rw [if_pos h2]
      obtain ⟨k9, hk9, ek⟩ := nI_of2 (M := 9) (n := 9) rfl (Int32.not_lt.mpr h2.1) h2.2
      obtain ⟨g1, g2, g3, g4, g5⟩ := h
      rcases hrow with e | e | e <;> subst e
      · refine ⟨⟨fun p hp => ?_, g2, g3, g4, g5⟩, rfl, rfl, rfl, fun _ _ => rfl⟩
        show ∃ r, r ≤ 9 ∧ uf (grc G) x.toNatClampNeg k p = nI r
        unfold uf
        by_cases e : p = x.toNatClampNeg
        · rw [if_pos e]; exact ⟨k9, hk9, ek⟩
        · rw [if_neg e]; exact g1 p hp
      · exact ⟨⟨g1, g2, g3, g4, g5⟩, rfl, rfl, rfl, fun _ _ => rfl⟩
      · exact ⟨⟨g1, g2, g3, g4, g5⟩, rfl, rfl, rfl, fun _ _ => rfl⟩
    · rw [if_neg h2]; exact ⟨h, gsz_rf G⟩
theorem gR_put {G : jG} (h : gR G) {x y : Int32} : gR (up_put G x y) ∧ gsz G (up_put G x y) := by
  unfold up_put
  by_cases h1 : sp_has (glg G) x = 0 ∨ sp_has (gcv G) y = 0
  · rw [if_pos h1]; exact ⟨h, gsz_rf G⟩
  · rw [if_neg h1]
    obtain ⟨g1, g2, g3, g4, g5⟩ := h
    obtain ⟨c, hc, ec⟩ := sp_has_ex (fun q => h1 (Or.inr q))
    refine ⟨⟨g1, fun l hl => ?_, g3, g4, g5⟩, rfl, rfl, rfl, fun _ _ => rfl⟩
    show uf (gco G) x.toNatClampNeg y l = -1 ∨ ∃ c, c < gcv G ∧ uf (gco G) x.toNatClampNeg y l = nI c
    unfold uf
    by_cases e : l = x.toNatClampNeg
    · rw [if_pos e]; exact Or.inr ⟨c, hc, ec⟩
    · rw [if_neg e]; exact g2 l hl
theorem gR_see {G : jG} (h : gR G) {x y z : Int32} : gR (up_see G x y z) ∧ gsz G (up_see G x y z) := by
  have hh : gR (gse G x y z) ∧ gsz G (gse G x y z) := ⟨h, gsz_rf G⟩
  unfold up_see
  split
  · exact ⟨h, gsz_rf G⟩
  · split
    · split
      · exact hh
      · exact ⟨h, gsz_rf G⟩
    · exact ⟨h, gsz_rf G⟩
theorem gR_forget {G : jG} (h : gR G) : gR (gfo G) ∧ gsz G (gfo G) := ⟨h, gsz_rf G⟩
theorem gR_drive {G : jG} (h : gR G) {x k : Int32} : gR (up_driveO G x k) ∧ gsz G (up_driveO G x k) := by
  unfold up_driveO
  by_cases h1 : sp_has (gcv G) x = 0
  · rw [if_pos h1]; exact ⟨h, gsz_rf G⟩
  · rw [if_neg h1]
    by_cases h2 : -1 ≤ k ∧ k ≤ 1
    · rw [if_pos h2]
      by_cases h3 : gno G 1 < 999
      · rw [if_pos h3]
        obtain ⟨g1, g2, g3, g4, g5⟩ := h
        obtain ⟨c, hc, rfl⟩ := sp_has_ex h1
        refine ⟨⟨g1, fun l hl => ?_, ?_, g4, g5⟩, rfl, rfl, rfl, fun _ _ => rfl⟩
        · show sp_after G (nI c).toNatClampNeg k l = -1 ∨ ∃ c2, c2 < gcv G ∧ sp_after G (nI c).toNatClampNeg k l = nI c2
          unfold sp_after
          split
          · split
            · exact Or.inl rfl
            · refine Or.inr ⟨_, ?_, rfl⟩
              unfold sp_next
              split <;> omega
          · exact g2 l hl
        · show ¬ 999 < gno G 1 + 1
          rw [Int32.lt_iff_toInt_lt] at h3 ⊢
          have e1 : (999 : Int32).toInt = 999 := by decide
          have hb := Int32.le_toInt (gno G 1)
          rw [Int32.toInt_add, show (1 : Int32).toInt = 1 by decide, Int.bmod_eq_of_le (by omega) (by omega)]
          omega
      · rw [if_neg h3]; exact ⟨h, gsz_rf G⟩
    · rw [if_neg h2]; exact ⟨h, gsz_rf G⟩
/-- the calls that keep the page, the counts and the image -/
def PL (v : Nat → Int32) (a : Nat → List Int32) (G : jG) (v2 : Nat → Int32) (a2 : Nat → List Int32) : Prop := jLG v2 a2 G ∧ (∀ j, j < 4 → v2 j = v j) ∧ (∀ j, 18 ≤ j → j ≤ 21 → v2 j = v j) ∧ a2 0 = a 0 ∧ (∀ j, 9 ≤ j → j < 17 → a2 j = a j) ∧ jLl a2
def PM (v : Nat → Int32) (a : Nat → List Int32) (G : jG) (v2 : Nat → Int32) (a2 : Nat → List Int32) : Prop := jMG v2 a2 G ∧ v2 0 = v 0 ∧ v2 6 = v 6 ∧ v2 8 = v 8 ∧ (∀ j, 14 ≤ j → v2 j = v j) ∧ a2 9 = a 9 ∧ (∀ j, 16 ≤ j → a2 j = a j) ∧ jMl a2
section
variable {n : Nat} {v v' v2 v2' : Nat → Int32} {a a' a2 a2' : Nat → List Int32} {w w' u' w2 w2' u2' : Int64} {G G2 : jG} {t : Nat} {f : Nat → Int32} {m s : Nat}
theorem kL_keep {K : jG} (h : kL v a K) (hv : ∀ j, 18 ≤ j → j ≤ 21 → v2 j = v j) (ha : ∀ j, 9 ≤ j → j < 17 → a2 j = a j) : kL v2 a2 K := by
  unfold kL at h ⊢
  rw [hv 21 (by omega) (by omega), hv 18 (by omega) (by omega), hv 19 (by omega) (by omega), hv 20 (by omega) (by omega), ha 9 (by omega) (by omega), ha 10 (by omega) (by omega), ha 11 (by omega) (by omega), ha 13 (by omega) (by omega), ha 14 (by omega) (by omega), ha 15 (by omega) (by omega), ha 16 (by omega) (by omega)]
  exact h
theorem kM_keep {K : jG} (h : kM v a K) (hv : ∀ j, 14 ≤ j → v2 j = v j) (ha : ∀ j, 16 ≤ j → a2 j = a j) : kM v2 a2 K := by
  unfold kM at h ⊢
  rw [hv 18 (by omega), hv 16 (by omega), hv 17 (by omega), ha 16 (by omega), ha 17 (by omega), ha 18 (by omega), ha 19 (by omega), ha 20 (by omega), ha 21 (by omega), ha 22 (by omega), ha 23 (by omega)]
  exact h
theorem jRi_keep (h : jRi v a v' a' G m) (h0 : v2 0 = v 0) (hv : ∀ j, 18 ≤ j → j ≤ 21 → v2 j = v j) (ha : ∀ j, 9 ≤ j → j < 17 → a2 j = a j) (hv' : ∀ j, 14 ≤ j → v2' j = v' j) (ha' : ∀ j, 16 ≤ j → a2' j = a' j) (hg : gsz G G2) : jRi v2 a2 v2' a2' G2 m := by
  rcases h with ⟨h1, h2⟩ | ⟨h1, h2, h3, K, h4, h5, h6, h7⟩
  · refine Or.inl ⟨h0.trans h1, ?_⟩
    rw [hv' 14 (by omega), hv' 15 (by omega)]
    exact h2
  · refine Or.inr ⟨h0.trans h1, (hv' 14 (by omega)).trans h2, (hv' 15 (by omega)).trans h3, K, h4, gsz_tr h5 hg, kL_keep h6 hv ha, kM_keep h7 hv' ha'⟩
theorem jkL_keep (h : jkL a) (ha : ∀ j, 9 ≤ j → j < 17 → a2 j = a j) : jkL a2 := by
  unfold jkL at h ⊢
  rw [ha 9 (by omega) (by omega), ha 10 (by omega) (by omega), ha 11 (by omega) (by omega), ha 13 (by omega) (by omega), ha 14 (by omega) (by omega), ha 15 (by omega) (by omega), ha 16 (by omega) (by omega)]
  exact h
theorem jmkL_keep (h : jmkL a) (ha : ∀ j, 16 ≤ j → a2 j = a j) : jmkL a2 := by
  unfold jmkL at h ⊢
  rw [ha 16 (by omega), ha 17 (by omega), ha 18 (by omega), ha 19 (by omega), ha 20 (by omega), ha 21 (by omega), ha 22 (by omega), ha 23 (by omega)]
  exact h
theorem keep_R (h : jR0 n v a v' a' G t f m s) (hi : jRi v a v' a' G m) (pl : PL v a G2 v2 a2) (pm : PM v' a' G2 v2' a2') (hg : gR G2 ∧ gsz G G2) : jR (n + 1) (jL v2 a2 w2) (jM v2' a2' w2' u2') := by
  obtain ⟨r1, r2, r3, r4, r5, r6, r7, r8, r9, r10, r11, r12, r13, r14, r15, r16⟩ := h
  obtain ⟨l1, l2, l3, l4, l5, l6⟩ := pl
  obtain ⟨m1, m2, m3, m4, m5, m6, m7, m8⟩ := pm
  refine ⟨v2, a2, w2, v2', a2', w2', u2', G2, t, f, m, s, rfl, rfl, ⟨l1, m1, ?_, ?_, r5, (l2 1 (by omega)).trans r6, m2.trans r7, by omega, (l2 2 (by omega)).trans r9, m3.trans r10, r11, l6, m8, jkL_keep r14 l5, jmkL_keep r15 m7, hg.1⟩, jRi_keep hi (l2 0 (by omega)) l3 l5 m5 m7 hg.2⟩
  · obtain ⟨p1, p2, p3, p4⟩ := r3
    refine ⟨(l2 3 (by omega)).trans p1, p2, ?_, ?_⟩
    · rw [l4]; exact p3
    · rw [l4]; exact p4
  · obtain ⟨p1, p2, p3, p4⟩ := r4
    refine ⟨m4.trans p1, p2, ?_, ?_⟩
    · rw [m6]; exact p3
    · rw [m6]; exact p4
theorem jR_up {hL hM : jx_H} (h : jR n hL hM) : jR (n + 1) hL hM := by
  obtain ⟨v, a, w, v', a', w', u', G, t, f, m, s, h1, h2, h3, h4⟩ := h
  obtain ⟨r1, r2, r3, r4, r5, r6, r7, r8, r9⟩ := h3
  exact ⟨v, a, w, v', a', w', u', G, t, f, m, s, h1, h2, ⟨r1, r2, r3, r4, r5, r6, r7, by omega, r9⟩, h4⟩
end
