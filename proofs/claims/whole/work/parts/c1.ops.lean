/-! the calls, one by one: both answer alike, the relation holds behind them -/
def jop (n : Nat) (hL hM : jx_H) (j k kL kM : Nat) (x y z : Int32) : Prop := ∃ (d1 d2 : Nat) (w : Value) (lsL lsM : jx_L) (hL' hM' : jx_H), d1 ≤ 2000 ∧ d2 ≤ 2000 ∧ jw_lc kL (jw_as k x y z) = some lsL ∧ jw_lc kM (jw_as k x y z) = some lsM ∧ jx_W d1 kL 0 lsL [] hL (fun v h1 => v = some w ∧ h1 = hL') ∧ jx_W d2 kM 0 lsM [] hM (fun v h1 => v = some w ∧ h1 = hM') ∧ (j = 23 → ∃ t, w = .long t) ∧ (j ≠ 23 → ∃ t, w = .int t) ∧ jR (n + 1) hL' hM'
theorem jop_int {n : Nat} {hL hM : jx_H} {j k kL kM : Nat} {x y z : Int32} {d1 d2 : Nat} {lsL lsM : jx_L} {QL QM : jx_Q} (hj : j ≠ 23) (c1 : jw_lc kL (jw_as k x y z) = some lsL) (c2 : jw_lc kM (jw_as k x y z) = some lsM) (rL : jx_W d1 kL 0 lsL [] hL QL) (rM : jx_W d2 kM 0 lsM [] hM QM) (hd1 : d1 ≤ 2000) (hd2 : d2 ≤ 2000) (fin : ∀ rv h1 rv2 h2, QL rv h1 → QM rv2 h2 → ∃ q : Int32, rv = some (.int q) ∧ rv2 = some (.int q) ∧ jR (n + 1) h1 h2) : jop n hL hM j k kL kM x y z := by
  obtain ⟨rv, h1, q1, w1⟩ := jx_det rL
  obtain ⟨rv2, h2, q2, w2⟩ := jx_det rM
  obtain ⟨q, rfl, rfl, hR⟩ := fin rv h1 rv2 h2 q1 q2
  exact ⟨d1, d2, .int q, lsL, lsM, h1, h2, hd1, hd2, c1, c2, w1, w2, fun e => absurd e hj, fun _ => ⟨q, rfl⟩, hR⟩
section
variable {n : Nat} {v v' v2 v2' : Nat → Int32} {a a' a2 a2' : Nat → List Int32} {w w' u' w2 w2' u2' : Int64} {G G2 : jG} {t : Nat} {f : Nat → Int32} {m s : Nat} {x y z : Int32}
theorem jLG_keep (h : jLG v a G) (hv : ∀ j, 8 ≤ j → j ≤ 14 → v2 j = v j) (ha : ∀ j, 1 ≤ j → j ≤ 8 → a2 j = a j) : jLG v2 a2 G := by
  unfold jLG at h ⊢
  rw [hv vL_pegs (by decide) (by decide), hv vL_coverts (by decide) (by decide), hv vL_laughs (by decide) (by decide), hv vL_seen (by decide) (by decide), hv vL_places (by decide) (by decide), hv vL_sport (by decide) (by decide), hv vL_drives (by decide) (by decide), ha 1 (by omega) (by omega), ha 2 (by omega) (by omega), ha 3 (by omega) (by omega), ha 4 (by omega) (by omega), ha 5 (by omega) (by omega), ha 6 (by omega) (by omega), ha 7 (by omega) (by omega), ha 8 (by omega) (by omega)]
  exact h
theorem jMG_keep (h : jMG v a G) (hv : ∀ j, 1 ≤ j → j ≤ 7 → j ≠ 6 → v2 j = v j) (ha : ∀ j, j ≤ 8 → a2 j = a j) : jMG v2 a2 G := by
  unfold jMG at h ⊢
  rw [hv 1 (by omega) (by omega) (by omega), hv 2 (by omega) (by omega) (by omega), hv 3 (by omega) (by omega) (by omega), hv 7 (by omega) (by omega) (by omega), hv 4 (by omega) (by omega) (by omega), hv 5 (by omega) (by omega) (by omega), ha 0 (by omega), ha 1 (by omega), ha 2 (by omega), ha 3 (by omega), ha 4 (by omega), ha 5 (by omega), ha 6 (by omega), ha 7 (by omega), ha 8 (by omega)]
  exact h
theorem jLl_keep (h : jLl a) (ha : ∀ j, 17 ≤ j → a2 j = a j) : jLl a2 := by
  unfold jLl at h ⊢
  rw [ha 17 (by omega), ha 18 (by omega), ha 19 (by omega)]
  exact h
theorem jMl_keep (h : jMl a) (ha : ∀ j, 10 ≤ j → j ≤ 15 → a2 j = a j) : jMl a2 := by
  unfold jMl at h ⊢
  rw [ha 10 (by omega) (by omega), ha 11 (by omega) (by omega), ha 12 (by omega) (by omega), ha 13 (by omega) (by omega), ha 14 (by omega) (by omega), ha 15 (by omega) (by omega)]
  exact h
theorem PL_rf (h : jLG v a G) (hl : jLl a) : PL v a G v a := ⟨h, fun _ _ => rfl, fun _ _ _ => rfl, rfl, fun _ _ _ => rfl, hl⟩
theorem PM_rf (h : jMG v a G) (hl : jMl a) : PM v a G v a := ⟨h, rfl, rfl, rfl, fun _ _ => rfl, rfl, fun _ _ => rfl, hl⟩
theorem PL_z (hl : jLl a) (h : jLG v2 a2 G2) (hv : ∀ j, j < 8 ∨ 14 < j → v2 j = v j) (ha : ∀ j, j = 0 ∨ 8 < j → a2 j = a j) : PL v a G2 v2 a2 := ⟨h, fun j hj => hv j (by omega), fun j h1 h2 => hv j (by omega), ha 0 (by omega), fun j h1 h2 => ha j (by omega), jLl_keep hl (fun j hj => ha j (by omega))⟩
theorem PM_z (h : jMG v2 a2 G2) (hv : ∀ j, j = 0 ∨ j = 6 ∨ j = 8 ∨ 13 < j → v2 j = v j) (ha : ∀ j, j = 9 ∨ 15 < j → a2 j = a j) (hl : jMl a2) : PM v a G2 v2 a2 := ⟨h, hv 0 (by omega), hv 6 (by omega), hv 8 (by omega), fun j hj => hv j (by omega), ha 9 (by omega), fun j hj => ha j (by omega), hl⟩
theorem PL_s (hs : jLs v a v2 a2) (h : jLG v a G) : PL v a G v2 a2 := ⟨hs.game h, fun j hj => hs.1 j (by omega), fun j h1 h2 => hs.1 j (by omega), hs.2.1 0 (by omega), fun j h1 h2 => hs.2.1 j (by omega), hs.2.2⟩
theorem PM_s (hs : jMs v a v2 a2) (h : jMG v a G) : PM v a G v2 a2 := ⟨hs.game h, hs.1 0 (by omega), hs.1 6 (by omega), hs.1 8 (by omega), fun j hj => hs.1 j (by omega), hs.2.1 9 (by omega), fun j hj => hs.2.1 j (by omega), hs.2.2⟩
theorem gR.rf (h : gR G) : gR G ∧ gsz G G := ⟨h, gsz_rf G⟩
/-- those that look alone, worlds as they were -/
theorem look_R (h : jR0 n v a v' a' G t f m s) (hi : jRi v a v' a' G m) : jR (n + 1) (jL v a w) (jM v' a' w' u') := jR_up ⟨v, a, w, v', a', w', u', G, t, f, m, s, rfl, rfl, h, hi⟩
theorem op_letter (h : jR0 n v a v' a' G t f m s) (hi : jRi v a v' a' G m) : jop n (jL v a w) (jM v' a' w' u') 0 1 59 92 x y z := by
  obtain ⟨r1, r2, r3, r4, r5, r6, r7, r8, r9, r10, r11, r12, r13, r14, r15, r16⟩ := id h
  refine jop_int (by decide) rfl rfl (jl_letter r3) (jm_letter r4) (by decide) (by decide) (fun rv h1 rv2 h2 q1 q2 => ?_)
  obtain ⟨v2, a2, rfl, rfl, p1, p2, p3⟩ := q1
  obtain ⟨v2', a2', rfl, rfl, p1', p2', p3'⟩ := q2
  refine ⟨_, rfl, rfl, v2, a2, w, v2', a2', w', u', G, _, _, m, s, rfl, rfl, ⟨jLG_keep r1 (fun j h1 h2 => p2 j (by omega)) (fun j h1 h2 => p3 j (by omega)), jMG_keep r2 (fun j h1 h2 h3 => p2' j (by omega)) (fun j h1 => p3' j (by omega)), p1, p1', ?_, (p2 1 (by omega)).trans r6, (p2' 0 (by omega)).trans r7, by omega, (p2 2 (by omega)).trans r9, (p2' 6 (by omega)).trans r10, r11, jLl_keep r12 (fun j hj => p3 j (by omega)), jMl_keep r13 (fun j h1 h2 => p3' j (by omega)), jkL_keep r14 (fun j h1 h2 => p3 j (by omega)), jmkL_keep r15 (fun j h1 => p3' j (by omega)), r16⟩, jRi_keep hi (p2 0 (by omega)) (fun j h1 h2 => p2 j (by omega)) (fun j h1 h2 => p3 j (by omega)) (fun j h1 => p2' j (by omega)) (fun j h1 => p3' j (by omega)) (gsz_rf G)⟩
  intro k hk
  by_cases hkt : k < t
  · rw [uf_lt hkt]; exact r5 k hkt
  · unfold up_let at hk
    by_cases h32 : 32 ≤ x ∧ x ≤ 126
    · rw [if_pos h32] at hk
      by_cases h40 : t < 40
      · rw [if_pos h40] at hk
        have e : k = t := by omega
        subst e
        have h0 : ¬ x < 0 := fun q => by
          have h1 := h32.1
          rw [Int32.lt_iff_toInt_lt] at q
          rw [Int32.le_iff_toInt_le] at h1
          have e1 : (32 : Int32).toInt = 32 := by decide
          have e2 : (0 : Int32).toInt = 0 := by decide
          omega
        obtain ⟨mm, hm, em⟩ := nI_of2 (M := 126) (n := 126) rfl h0 h32.2
        exact ⟨mm, hm, (if_pos rfl : uf f k x k = x).trans em⟩
      · rw [if_neg h40] at hk; exact absurd hk hkt
    · rw [if_neg h32] at hk; exact absurd hk hkt
theorem op_blank (h : jR0 n v a v' a' G t f m s) (hi : jRi v a v' a' G m) : jop n (jL v a w) (jM v' a' w' u') 1 0 60 93 x y z := by
  obtain ⟨r1, r2, r3, r4, r5, r6, r7, r8, r9, r10, r11, r12, r13, r14, r15, r16⟩ := id h
  refine jop_int (by decide) rfl rfl (jl_blank r3) (jm_blank r4) (by decide) (by decide) (fun rv h1 rv2 h2 q1 q2 => ?_)
  obtain ⟨v2, a2, rfl, rfl, p1, p2, p3⟩ := q1
  obtain ⟨v2', a2', rfl, rfl, p1', p2', p3'⟩ := q2
  exact ⟨_, rfl, rfl, v2, a2, w, v2', a2', w', u', G, 0, f, m, s, rfl, rfl, ⟨jLG_keep r1 (fun j h1 h2 => p2 j (by omega)) (fun j h1 h2 => p3 j (by omega)), jMG_keep r2 (fun j h1 h2 h3 => p2' j (by omega)) (fun j h1 => p3' j (by omega)), p1, p1', fun k hk => absurd hk (Nat.not_lt_zero k), (p2 1 (by omega)).trans r6, (p2' 0 (by omega)).trans r7, by omega, (p2 2 (by omega)).trans r9, (p2' 6 (by omega)).trans r10, r11, jLl_keep r12 (fun j hj => p3 j (by omega)), jMl_keep r13 (fun j h1 h2 => p3' j (by omega)), jkL_keep r14 (fun j h1 h2 => p3 j (by omega)), jmkL_keep r15 (fun j h1 => p3' j (by omega)), r16⟩, jRi_keep hi (p2 0 (by omega)) (fun j h1 h2 => p2 j (by omega)) (fun j h1 h2 => p3 j (by omega)) (fun j h1 => p2' j (by omega)) (fun j h1 => p3' j (by omega)) (gsz_rf G)⟩
theorem op_fault (h : jR0 n v a v' a' G t f m s) (hi : jRi v a v' a' G m) : jop n (jL v a w) (jM v' a' w' u') 2 0 61 101 x y z := by
  obtain ⟨r1, r2, r3, r4, r5, r6, r7, r8, r9, r10, r11, r12, r13, r14, r15, r16⟩ := id h
  refine jop_int (by decide) rfl rfl (jl_fault r3 r5) (jm_fault r4 r5) (by decide) (by decide) (fun rv h1 rv2 h2 q1 q2 => ?_)
  obtain ⟨v2, rfl, rfl, p1⟩ := q1
  obtain ⟨v2', rfl, rfl, p1'⟩ := q2
  exact ⟨_, rfl, rfl, keep_R h hi ⟨jLG_keep r1 (fun j h1 h2 => p1 j (by omega)) (fun _ _ _ => rfl), fun j hj => p1 j (by omega), fun j h1 h2 => p1 j (by omega), rfl, fun _ _ _ => rfl, r12⟩ ⟨jMG_keep r2 (fun j h1 h2 h3 => p1' j (by omega)) (fun _ _ => rfl), p1' 0 (by omega), p1' 6 (by omega), p1' 8 (by omega), fun j hj => p1' j (by omega), rfl, fun _ _ => rfl, r13⟩ r16.rf⟩
theorem op_peg (h : jR0 n v a v' a' G t f m s) (hi : jRi v a v' a' G m) : jop n (jL v a w) (jM v' a' w' u') 4 2 63 114 x y z := by
  obtain ⟨r1, r2, -⟩ := id h
  refine jop_int (by decide) rfl rfl (jl_peg r1) (jm_peg r2) (by decide) (by decide) (fun rv h1 rv2 h2 q1 q2 => ?_)
  obtain ⟨rfl, rfl⟩ := q1
  obtain ⟨rfl, rfl⟩ := q2
  exact ⟨_, rfl, rfl, look_R h hi⟩
theorem op_covert (h : jR0 n v a v' a' G t f m s) (hi : jRi v a v' a' G m) : jop n (jL v a w) (jM v' a' w' u') 5 2 64 116 x y z := by
  obtain ⟨r1, r2, -⟩ := id h
  refine jop_int (by decide) rfl rfl (jl_covert r1) (jm_covert r2) (by decide) (by decide) (fun rv h1 rv2 h2 q1 q2 => ?_)
  obtain ⟨rfl, rfl⟩ := q1
  obtain ⟨rfl, rfl⟩ := q2
  exact ⟨_, rfl, rfl, look_R h hi⟩
theorem op_laugh (h : jR0 n v a v' a' G t f m s) (hi : jRi v a v' a' G m) : jop n (jL v a w) (jM v' a' w' u') 6 2 65 119 x y z := by
  obtain ⟨r1, r2, r3, r4, r5, r6, r7, r8, r9, r10, r11, r12, r13, r14, r15, r16⟩ := id h
  refine jop_int (by decide) rfl rfl (jl_laugh r1) (jm_laugh r2 r13 r16.2.1) (by decide) (by decide) (fun rv h1 rv2 h2 q1 q2 => ?_)
  obtain ⟨rfl, rfl⟩ := q1
  obtain ⟨v2', a2', rfl, rfl, hs⟩ := q2
  exact ⟨_, rfl, rfl, keep_R h hi (PL_rf r1 r12) (PM_s hs r2) r16.rf⟩
theorem op_as (h : jR0 n v a v' a' G t f m s) (hi : jRi v a v' a' G m) : jop n (jL v a w) (jM v' a' w' u') 7 2 66 120 x y z := by
  obtain ⟨r1, r2, -⟩ := id h
  refine jop_int (by decide) rfl rfl (jl_as r1) (jm_as r2) (by decide) (by decide) (fun rv h1 rv2 h2 q1 q2 => ?_)
  obtain ⟨rfl, rfl⟩ := q1
  obtain ⟨rfl, rfl⟩ := q2
  exact ⟨_, rfl, rfl, look_R h hi⟩
theorem op_over (h : jR0 n v a v' a' G t f m s) (hi : jRi v a v' a' G m) : jop n (jL v a w) (jM v' a' w' u') 8 2 67 122 x y z := by
  obtain ⟨r1, r2, r3, r4, r5, r6, r7, r8, r9, r10, r11, r12, r13, r14, r15, r16⟩ := id h
  refine jop_int (by decide) rfl rfl (jl_over r1) (jm_over r2 r16.2.1) (by decide) (by decide) (fun rv h1 rv2 h2 q1 q2 => ?_)
  obtain ⟨rfl, rfl⟩ := q1
  obtain ⟨rfl, rfl⟩ := q2
  exact ⟨_, rfl, rfl, look_R h hi⟩
theorem op_drive (h : jR0 n v a v' a' G t f m s) (hi : jRi v a v' a' G m) : jop n (jL v a w) (jM v' a' w' u') 9 2 68 123 x y z := by
  obtain ⟨r1, r2, r3, r4, r5, r6, r7, r8, r9, r10, r11, r12, r13, r14, r15, r16⟩ := id h
  refine jop_int (by decide) rfl rfl (jl_drive r1 r16.2.1) (jm_drive r2 r13 r16.2.2.1) (by decide) (by decide) (fun rv h1 rv2 h2 q1 q2 => ?_)
  obtain ⟨v2, a2, rfl, rfl, p1, p2, p3⟩ := q1
  obtain ⟨v2', a2', rfl, rfl, p1', p2', p3', p4'⟩ := q2
  exact ⟨_, rfl, rfl, keep_R h hi (PL_z r12 p1 p2 p3) (PM_z p1' p2' p3' p4') (gR_drive r16)⟩
theorem op_put (h : jR0 n v a v' a' G t f m s) (hi : jRi v a v' a' G m) : jop n (jL v a w) (jM v' a' w' u') 10 2 69 124 x y z := by
  obtain ⟨r1, r2, r3, r4, r5, r6, r7, r8, r9, r10, r11, r12, r13, r14, r15, r16⟩ := id h
  refine jop_int (by decide) rfl rfl (jl_put r1) (jm_put r2 r13) (by decide) (by decide) (fun rv h1 rv2 h2 q1 q2 => ?_)
  obtain ⟨v2, a2, rfl, rfl, p1, p2, p3⟩ := q1
  obtain ⟨v2', a2', rfl, rfl, p1', p2', p3', p4'⟩ := q2
  exact ⟨_, rfl, rfl, keep_R h hi (PL_z r12 p1 p2 p3) (PM_z p1' p2' p3' p4') (gR_put r16)⟩
theorem op_feed (h : jR0 n v a v' a' G t f m s) (hi : jRi v a v' a' G m) : jop n (jL v a w) (jM v' a' w' u') 11 2 70 125 x y z := by
  obtain ⟨r1, r2, r3, r4, r5, r6, r7, r8, r9, r10, r11, r12, r13, r14, r15, r16⟩ := id h
  refine jop_int (by decide) rfl rfl (jl_feed r1) (jm_feed r2) (by decide) (by decide) (fun rv h1 rv2 h2 q1 q2 => ?_)
  obtain ⟨v2, a2, rfl, rfl, p1, p2, p3⟩ := jLq_z q1
  obtain ⟨v2', a2', rfl, rfl, p1', p2', p3', p4'⟩ := jMq_z r13 q2
  exact ⟨_, rfl, rfl, keep_R h hi (PL_z r12 p1 p2 p3) (PM_z p1' p2' p3' p4') (gR_dig r16 (Or.inr (Or.inl rfl)))⟩
theorem op_arm (h : jR0 n v a v' a' G t f m s) (hi : jRi v a v' a' G m) : jop n (jL v a w) (jM v' a' w' u') 12 2 71 126 x y z := by
  obtain ⟨r1, r2, r3, r4, r5, r6, r7, r8, r9, r10, r11, r12, r13, r14, r15, r16⟩ := id h
  refine jop_int (by decide) rfl rfl (jl_arm r1) (jm_arm r2) (by decide) (by decide) (fun rv h1 rv2 h2 q1 q2 => ?_)
  obtain ⟨v2, a2, rfl, rfl, p1, p2, p3⟩ := jLq_z q1
  obtain ⟨v2', a2', rfl, rfl, p1', p2', p3', p4'⟩ := jMq_z r13 q2
  exact ⟨_, rfl, rfl, keep_R h hi (PL_z r12 p1 p2 p3) (PM_z p1' p2' p3' p4') (gR_dig r16 (Or.inl rfl))⟩
theorem op_rear (h : jR0 n v a v' a' G t f m s) (hi : jRi v a v' a' G m) : jop n (jL v a w) (jM v' a' w' u') 13 2 72 127 x y z := by
  obtain ⟨r1, r2, r3, r4, r5, r6, r7, r8, r9, r10, r11, r12, r13, r14, r15, r16⟩ := id h
  refine jop_int (by decide) rfl rfl (jl_rear r1) (jm_rear r2) (by decide) (by decide) (fun rv h1 rv2 h2 q1 q2 => ?_)
  obtain ⟨v2, a2, rfl, rfl, p1, p2, p3⟩ := jLq_z q1
  obtain ⟨v2', a2', rfl, rfl, p1', p2', p3', p4'⟩ := jMq_z r13 q2
  exact ⟨_, rfl, rfl, keep_R h hi (PL_z r12 p1 p2 p3) (PM_z p1' p2' p3' p4') (gR_dig r16 (Or.inr (Or.inr rfl)))⟩
theorem op_order (h : jR0 n v a v' a' G t f m s) (hi : jRi v a v' a' G m) : jop n (jL v a w) (jM v' a' w' u') 15 2 74 135 x y z := by
  obtain ⟨r1, r2, r3, r4, r5, r6, r7, r8, r9, r10, r11, r12, r13, r14, r15, r16⟩ := id h
  refine jop_int (by decide) rfl rfl (jl_order r1 r16.1 r12) (jm_order r2 r13 r16.1 r16.2.2.2.1) (by decide) (by decide) (fun rv h1 rv2 h2 q1 q2 => ?_)
  obtain ⟨v2, a2, rfl, rfl, hs⟩ := q1
  obtain ⟨v2', a2', rfl, rfl, hs'⟩ := q2
  exact ⟨_, rfl, rfl, keep_R h hi (PL_s hs r1) (PM_s hs' r2) r16.rf⟩
theorem op_game (h : jR0 n v a v' a' G t f m s) (hi : jRi v a v' a' G m) : jop n (jL v a w) (jM v' a' w' u') 16 2 75 141 x y z := by
  obtain ⟨r1, r2, r3, r4, r5, r6, r7, r8, r9, r10, r11, r12, r13, r14, r15, r16⟩ := id h
  refine jop_int (by decide) rfl rfl (jl_game r1 r16.1 r16.2.2.2.1 r12) (jm_game r2 r13 r16.1 r16.2.2.2.1) (by decide) (by decide) (fun rv h1 rv2 h2 q1 q2 => ?_)
  obtain ⟨v2, a2, rfl, rfl, hs⟩ := q1
  obtain ⟨v2', a2', rfl, rfl, hs'⟩ := q2
  exact ⟨_, rfl, rfl, keep_R h hi (PL_s hs r1) (PM_s hs' r2) r16.rf⟩
theorem op_see (h : jR0 n v a v' a' G t f m s) (hi : jRi v a v' a' G m) : jop n (jL v a w) (jM v' a' w' u') 17 3 76 142 x y z := by
  obtain ⟨r1, r2, r3, r4, r5, r6, r7, r8, r9, r10, r11, r12, r13, r14, r15, r16⟩ := id h
  refine jop_int (by decide) rfl rfl (jl_see r1) (jm_see r2 r13) (by decide) (by decide) (fun rv h1 rv2 h2 q1 q2 => ?_)
  obtain ⟨v2, a2, rfl, rfl, p1, p2, p3⟩ := q1
  obtain ⟨v2', a2', rfl, rfl, p1', p2', p3', p4'⟩ := q2
  exact ⟨_, rfl, rfl, keep_R h hi (PL_z r12 p1 p2 p3) (PM_z p1' p2' p3' p4') (gR_see r16)⟩
theorem op_forget (h : jR0 n v a v' a' G t f m s) (hi : jRi v a v' a' G m) : jop n (jL v a w) (jM v' a' w' u') 18 0 77 143 x y z := by
  obtain ⟨r1, r2, r3, r4, r5, r6, r7, r8, r9, r10, r11, r12, r13, r14, r15, r16⟩ := id h
  refine jop_int (by decide) rfl rfl (jl_forget r1) (jm_forget r2 r13) (by decide) (by decide) (fun rv h1 rv2 h2 q1 q2 => ?_)
  obtain ⟨v2, a2, rfl, rfl, p1, p2, p3⟩ := q1
  obtain ⟨v2', a2', rfl, rfl, p1', p2', p3', p4'⟩ := q2
  exact ⟨_, rfl, rfl, keep_R h hi (PL_z r12 p1 p2 p3) (PM_z p1' p2' p3' p4') (gR_forget r16)⟩
theorem op_seasons (h : jR0 n v a v' a' G t f m s) (hi : jRi v a v' a' G m) : jop n (jL v a w) (jM v' a' w' u') 19 3 78 151 x y z := by
  obtain ⟨r1, r2, r3, r4, r5, r6, r7, r8, r9, r10, r11, r12, r13, r14, r15, r16⟩ := id h
  refine jop_int (by decide) rfl rfl (jl_seasons r1 r16.2.2.2.1) (jm_seasons r2 r13 r16.2.2.2.1) (by decide) (by decide) (fun rv h1 rv2 h2 q1 q2 => ?_)
  obtain ⟨v2, w2, rfl, rfl, p1⟩ := q1
  obtain ⟨v2', a2', w2', rfl, rfl, hs'⟩ := q2
  exact ⟨_, rfl, rfl, keep_R h hi (PL_s ⟨fun j hj => p1 j (by omega), fun _ _ => rfl, r12⟩ r1) (PM_s hs' r2) r16.rf⟩
theorem op_count (h : jR0 n v a v' a' G t f m s) (hi : jRi v a v' a' G m) : jop n (jL v a w) (jM v' a' w' u') 22 1 81 157 x y z := by
  obtain ⟨r1, r2, r3, r4, r5, r6, r7, r8, r9, r10, r11, r12, r13, r14, r15, r16⟩ := id h
  have e1 := jl_count (w := w) r1 r3 (k := x)
  have e2 := jm_count (w := w') (u := u') r2 r4 (k := x)
  rw [r6, r9] at e1
  rw [r7, r10] at e2
  refine jop_int (by decide) rfl rfl e1 e2 (by decide) (by decide) (fun rv h1 rv2 h2 q1 q2 => ?_)
  obtain ⟨rfl, rfl⟩ := q1
  obtain ⟨rfl, rfl⟩ := q2
  exact ⟨_, rfl, rfl, look_R h hi⟩
theorem op_stands (h : jR0 n v a v' a' G t f m s) (hi : jRi v a v' a' G m) : jop n (jL v a w) (jM v' a' w' u') 14 3 73 133 x y z := by
  obtain ⟨r1, r2, r3, r4, r5, r6, r7, r8, r9, r10, r11, r12, r13, r14, r15, r16⟩ := id h
  refine jop_int (by decide) rfl rfl (jl_stands r1 r16.1 r12 r9 r11) (jm_stands r2 r13 r16.1 r16.2.2.2.2 r10 r11) (by decide) (by decide) (fun rv h1 rv2 h2 q1 q2 => ?_)
  obtain ⟨v2, a2, rfl, rfl, p0, p1, p2, p3⟩ := q1
  obtain ⟨v2', a2', rfl, rfl, p0', p1', p2', p3'⟩ := q2
  have hs20 : up_asks G s x y z ≤ 20 := by
    unfold up_asks
    split
    · exact r11
    · split
      · split
        · omega
        · exact r11
      · exact r11
  obtain ⟨t1, t2, t3, t4⟩ := r3
  obtain ⟨t1', t2', t3', t4'⟩ := r4
  refine ⟨_, rfl, rfl, v2, a2, w, v2', a2', w', u', G, t, f, m, _, rfl, rfl, ⟨jLG_keep r1 (fun j h1 h2 => p1 j (by omega)) (fun j h1 h2 => p2 j (by omega)), jMG_keep r2 (fun j h1 h2 h3 => p1' j h3 (by omega)) (fun j h1 => p2' j (by omega)), ⟨(p1 3 (by omega)).trans t1, t2, ?_, ?_⟩, ⟨(p1' 8 (by omega) (by omega)).trans t1', t2', ?_, ?_⟩, r5, (p1 1 (by omega)).trans r6, (p1' 0 (by omega) (by omega)).trans r7, by omega, p0, p0', hs20, p3, p3', jkL_keep r14 (fun j h1 h2 => p2 j (by omega)), jmkL_keep r15 (fun j h1 => p2' j (by omega)), r16⟩, jRi_keep hi (p1 0 (by omega)) (fun j h1 h2 => p1 j (by omega)) (fun j h1 h2 => p2 j (by omega)) (fun j h1 => p1' j (by omega) (by omega)) (fun j h1 => p2' j (by omega)) (gsz_rf G)⟩
  · rw [p2 0 (by omega)]; exact t3
  · rw [p2 0 (by omega)]; exact t4
  · rw [p2' 9 (by omega)]; exact t3'
  · rw [p2' 9 (by omega)]; exact t4'
theorem op_digest (h : jR0 n v a v' a' G t f m s) (hi : jRi v a v' a' G m) : jop n (jL v a w) (jM v' a' w' u') 23 0 82 160 x y z := by
  obtain ⟨r1, r2, r3, r4, r5, r6, r7, r8, r9, r10, r11, r12, r13, r14, r15, r16⟩ := id h
  have e1 := jl_digest (w := w) r1 r16.1 r16.2.2.2.1 r12 r3
  have e2 := jm_digest (w := w') (u := u') r2 r13 r16.1 r16.2.1 r16.2.2.2.1 r4
  rw [r6, r9] at e1
  rw [r7, r10] at e2
  obtain ⟨rv, h1, q1, w1⟩ := jx_det e1
  obtain ⟨rv2, h2, q2, w2⟩ := jx_det e2
  obtain ⟨v2, a2, rfl, rfl, hs⟩ := q1
  obtain ⟨v2', a2', u2', rfl, rfl, hs'⟩ := q2
  exact ⟨14, 14, _, _, _, _, _, by decide, by decide, rfl, rfl, w1, w2, fun _ => ⟨_, rfl⟩, fun e => absurd rfl e, keep_R h hi (PL_s hs r1) (PM_s hs' r2) r16.rf⟩
end
