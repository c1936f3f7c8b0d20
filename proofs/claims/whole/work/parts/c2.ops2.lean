/-! moor, image, restore; the relation at the start; jw_R -/
theorem gR_new {t : Nat} {f : Nat → Int32} (hok : pgok t f) (h : (rd (pgcc t f) t).2.1 = true) : gR (gnew t f) := by
  obtain ⟨h1, h2, h3, h4, h5, h6, h7, h8, h9, h10⟩ := rd_whole h
  obtain ⟨-, -, -, -, -, -, hx⟩ := tx_of hok h
  refine ⟨fun p hp => ?_, fun l hl => Or.inr (hx l hl), show ¬ (999 : Int32) < 0 by decide, fun _ => ?_, fun _ => ?_⟩
  · have hp : p < rd_p (pgcc t f) := hp
    have hd := h8 p hp
    refine ⟨pgcc t f p - 48, by omega, ?_⟩
    show f p - 48 = _
    rw [(pgcc_in hok (show p < t by omega)).1]
    exact pk_sub (b := 48) hd.1
  · show 0 < rd_q (pgcc t f); omega
  · show 0 < rd_p (pgcc t f); omega
section
variable {n : Nat} {v v' v2 v2' : Nat → Int32} {a a' a2 a2' : Nat → List Int32} {w w' u' w2 w2' u2' : Int64} {G G2 : jG} {t : Nat} {f : Nat → Int32} {m s : Nat} {x y z : Int32}
theorem op_moor (h : jR0 n v a v' a' G t f m s) (hi : jRi v a v' a' G m) : jop n (jL v a w) (jM v' a' w' u') 3 0 62 102 x y z := by
  obtain ⟨r1, r2, r3, r4, r5, r6, r7, r8, r9, r10, r11, r12, r13, r14, r15, r16⟩ := id h
  refine jop_int (by decide) rfl rfl (jl_moor r1 r3 r5) (jm_moor r2 r4 r5) (by decide) (by decide) (fun rv h1 rv2 h2 q1 q2 => ?_)
  rcases q1 with ⟨hyes, v2, a2, rfl, rfl, p1, p2, p3, p4, p5, p6, p7⟩ | ⟨hno, v2, rfl, rfl, p1⟩
  · rcases q2 with ⟨-, v2', a2', rfl, rfl, p1', p2', p3', p4', p5', p6'⟩ | ⟨hno, -⟩
    · refine ⟨_, rfl, rfl, v2, a2, w, v2', a2', w', u', gnew t f, 0, f, m + 1, s, rfl, rfl, ⟨p1, p1', ⟨p5, by omega, ?_, fun k hk => absurd hk (Nat.not_lt_zero k)⟩, ⟨p4', by omega, ?_, fun k hk => absurd hk (Nat.not_lt_zero k)⟩, fun k hk => absurd hk (Nat.not_lt_zero k), by rw [p3, r6, nI_1], by rw [p2', r7, nI_1], by omega, p4.trans r9, p3'.trans r10, r11, jLl_keep r12 (fun j hj => p7 j (by omega)), jMl_keep r13 (fun j hj hj2 => p6' j (by omega)), jkL_keep r14 (fun j hj hj2 => p7 j (by omega)), jmkL_keep r15 (fun j hj => p6' j (by omega)), gR_new r5 hyes⟩, Or.inl ⟨p2, ?_⟩⟩
      · rw [p7 0 (by omega)]; exact r3.2.2.1
      · rw [p6' 9 (by omega)]; exact r4.2.2.1
      · rw [p5' 14 (by omega), p5' 15 (by omega)]
        rcases hi with ⟨-, q | ⟨k, hk, ek⟩⟩ | ⟨-, -, ek, -⟩
        · exact Or.inl q
        · exact Or.inr ⟨k, by omega, ek⟩
        · exact Or.inr ⟨m, by omega, ek⟩
    · rw [hyes] at hno; cases hno
  · rcases q2 with ⟨hyes, -⟩ | ⟨-, v2', rfl, rfl, p1'⟩
    · rw [hyes] at hno; cases hno
    · exact ⟨_, rfl, rfl, keep_R h hi ⟨jLG_keep r1 (fun j h1 h2 => p1 j (by omega)) (fun _ _ _ => rfl), fun j hj => p1 j (by omega), fun j h1 h2 => p1 j (by omega), rfl, fun _ _ _ => rfl, r12⟩ ⟨jMG_keep r2 (fun j h1 h2 h3 => p1' j (by omega)) (fun _ _ => rfl), p1' 0 (by omega), p1' 6 (by omega), p1' 8 (by omega), fun j hj => p1' j (by omega), rfl, fun _ _ => rfl, r13⟩ r16.rf⟩
theorem kL_now (h : jLG v a G) : kL (jup (jkV v) 0 1) (jkA a) G := by
  obtain ⟨⟨n1, n2, n3, n4, g1, g2, g3, g4⟩, l, h0, h1, h2, h3, h4, h5, h6, h7, hP, hs, hd⟩ := h
  exact ⟨n4, g4, h0, h1, h2, h4, h5, h6, h7, hP, hs, hd⟩
theorem op_image (h : jR0 n v a v' a' G t f m s) (hi : jRi v a v' a' G m) : jop n (jL v a w) (jM v' a' w' u') 20 0 79 152 x y z := by
  obtain ⟨r1, r2, r3, r4, r5, r6, r7, r8, r9, r10, r11, r12, r13, r14, r15, r16⟩ := id h
  refine jop_int (by decide) rfl rfl (jl_image r1 r14) (jm_image r2 r15) (by decide) (by decide) (fun rv h1 rv2 h2 q1 q2 => ?_)
  obtain ⟨rfl, rfl⟩ := q1
  rcases q2 with ⟨h0, rfl, rfl⟩ | ⟨h0, rfl, b, rfl, bb, b16, b17, b19, b20, b21, b22, b23, b18⟩
  · rw [if_neg (by omega), if_neg (by omega)]
    exact ⟨_, rfl, rfl, look_R h hi⟩
  · rw [if_pos h0, if_pos h0]
    have hl := r1.lens
    have hl' := r2.lens
    obtain ⟨t1, t2, t3, t4⟩ := r3
    obtain ⟨t1', t2', t3', t4'⟩ := r4
    refine ⟨_, rfl, rfl, _, _, w, _, _, w', u', G, t, f, m, s, rfl, rfl, ⟨jLG_keep r1 (fun j h1 h2 => ?_) (fun j h1 h2 => ?_), jMG_keep r2 (fun j h1 h2 h3 => ?_) (fun j h1 => bb j (by omega)), ⟨t1, t2, t3, t4⟩, ⟨t1', t2', ?_, ?_⟩, r5, r6, r7, by omega, r9, r10, r11, r12, jMl_keep r13 (fun j h1 h2 => bb j (by omega)), ?_, ?_, r16⟩, Or.inr ⟨rfl, rfl, r7, G, r16, gsz_rf G, kL_now r1, ?_⟩⟩
    · unfold jkV; rw [jup_n _ _ (by omega), jup_n _ _ (by omega), jup_n _ _ (by omega), jup_n _ _ (by omega), jup_n _ _ (by omega)]
    · unfold jkA; rw [jup_n _ _ (by omega), jup_n _ _ (by omega), jup_n _ _ (by omega), jup_n _ _ (by omega), jup_n _ _ (by omega), jup_n _ _ (by omega), jup_n _ _ (by omega)]
    · unfold jmkV; rw [jup_n _ _ (by omega), jup_n _ _ (by omega), jup_n _ _ (by omega), jup_n _ _ (by omega), jup_n _ _ (by omega)]
    · rw [bb 9 (by decide)]; exact t3'
    · rw [bb 9 (by decide)]; exact t4'
    · exact ⟨hl.1, hl.2.1, hl.2.2.1, hl.2.2.2.2.1, hl.2.2.2.2.2.1, hl.2.2.2.2.2.2.1, hl.2.2.2.2.2.2.2⟩
    · unfold jmkL
      rw [b16, b17, b18, b19, b20, b21, b22, b23]
      exact ⟨hl'.1, hl'.2.1, hl'.2.2.1, hl'.2.2.2.2.1, hl'.2.2.2.2.2.1, hl'.2.2.2.2.2.2.1, hl'.2.2.2.2.2.2.2.1, hl'.2.2.2.2.2.2.2.2⟩
    · unfold kM
      rw [b16, b17, b18, b19, b20, b21, b22, b23]
      exact ⟨r2.seen, fun p hp => r2.reach hp, fun p hp => r2.bag hp, fun c hc => r2.feed hc, fun l hl => r2.co hl, fun l hl => r2.high hl, fun k hk => r2.sl hk, fun k hk => r2.sw hk, fun k hk => r2.sp hk, r2.sport, r2.drives⟩
theorem op_restore (hn : n < 64) (h : jR0 n v a v' a' G t f m s) (hi : jRi v a v' a' G m) : jop n (jL v a w) (jM v' a' w' u') 21 0 80 153 x y z := by
  obtain ⟨r1, r2, r3, r4, r5, r6, r7, r8, r9, r10, r11, r12, r13, r14, r15, r16⟩ := id h
  refine jop_int (by decide) rfl rfl (jl_restore r1 r14) (jm_restore r2 r15) (by decide) (by decide) (fun rv h1 rv2 h2 q1 q2 => ?_)
  obtain ⟨rfl, rfl⟩ := q1
  have hi0 := hi
  rcases hi with ⟨i1, i2⟩ | ⟨i1, i2, i3, K, i4, i5, i6, i7⟩
  · rw [if_pos i1, if_pos i1]
    rcases q2 with ⟨-, rfl, rfl⟩ | ⟨k1, k2, -⟩
    · exact ⟨_, rfl, rfl, look_R h hi0⟩
    · exfalso
      rcases i2 with i2 | ⟨k, hk, ek⟩
      · exact k1 i2
      · rw [ek, r7] at k2
        have := (nI_eq (by omega) (by omega)).mp k2
        omega
  · have hv0 : ¬ v 0 = 0 := by rw [i1]; decide
    rw [if_neg hv0, if_neg hv0]
    rcases q2 with ⟨k1, -⟩ | ⟨k1, k2, rfl, b, rfl, bb, b0, b1, b4, b5, b6, b7, b8, b2⟩
    · exfalso
      rcases k1 with k1 | k1
      · rw [i2] at k1; exact absurd k1 (by decide)
      · exact k1 (by rw [i3, r7])
    · obtain ⟨t1, t2, t3, t4⟩ := r3
      obtain ⟨t1', t2', t3', t4'⟩ := r4
      have hl := r1.lens
      have hl' := r2.lens
      obtain ⟨s1, s2, s3, s4⟩ := i5
      have hok := r1.ok
      obtain ⟨x1, x2, x3, x4, x5, x6, x7, x8, x9, x10, x11, x12⟩ := id i6
      obtain ⟨y1, y2, y3, y4, y5, y6, y7, y8, y9, y10, y11⟩ := id i7
      have okK : gpg K ≤ 6 ∧ gcv K ≤ 4 ∧ glg K ≤ 6 ∧ gsn K ≤ 6 := ⟨by omega, by omega, by omega, x2⟩
      have JL : jLG (jnV v) (jnA a) K := ⟨⟨r1.pegs.trans (by rw [s1]), r1.coverts.trans (by rw [s2]), r1.laughs.trans (by rw [s3]), x1, okK⟩, ⟨r14.1, r14.2.1, r14.2.2.1, hl.2.2.2.1, r14.2.2.2.1, r14.2.2.2.2.1, r14.2.2.2.2.2.1, r14.2.2.2.2.2.2⟩, x3, x4, x5, fun l hl2 => (r1.kind (by rw [← s3]; exact hl2)).trans (s4 l (by rw [← s3]; exact hl2)).symm, x6, x7, x8, x9, x10, x11, x12⟩
      have JM : jMG (jmnV v') b K := by
        refine ⟨⟨r2.pegs.trans (by rw [s1]), r2.coverts.trans (by rw [s2]), r2.laughs.trans (by rw [s3]), y1, okK⟩, ?_⟩
        rw [b0, b1, b2, b4, b5, b6, b7, b8, bb 3 (by decide)]
        exact ⟨⟨r15.1, r15.2.1, r15.2.2.1, hl'.2.2.2.1, r15.2.2.2.1, r15.2.2.2.2.1, r15.2.2.2.2.2.1, r15.2.2.2.2.2.2.1, r15.2.2.2.2.2.2.2⟩, y2, y3, y4, fun l hl2 => (r2.kind (by rw [← s3]; exact hl2)).trans (s4 l (by rw [← s3]; exact hl2)).symm, y5, y6, y7, y8, y9, y10, y11⟩
      refine ⟨v 20, rfl, by rw [x12, y11], jnV v, jnA a, w, jmnV v', b, w', u', K, t, f, m, s, rfl, rfl, ⟨JL, JM, ⟨t1, t2, t3, t4⟩, ⟨t1', t2', ?_, ?_⟩, r5, r6, r7, by omega, r9, r10, r11, r12, jMl_keep r13 (fun j h1 h2 => bb j (by omega)), r14, jmkL_keep r15 (fun j h1 => bb j (by omega)), i4⟩, Or.inr ⟨i1, i2, i3, K, i4, gsz_rf K, i6, kM_keep i7 (fun j hj => ?_) (fun j hj => bb j (by omega))⟩⟩
      · rw [bb 9 (by decide)]; exact t3'
      · rw [bb 9 (by decide)]; exact t4'
      · unfold jmnV; rw [jup_n _ _ (by omega), jup_n _ _ (by omega), jup_n _ _ (by omega)]
end
theorem jR_ops : jw_R jR := by
  refine ⟨fun n hL hM h => ?_, fun n hL hM h => jR_up h, fun n hn hL hM h j k kL kM hops x y z => ?_⟩
  · obtain ⟨v, a, w, v', a', w', u', G, t, f, m, s, rfl, rfl, -⟩ := h
    exact ⟨⟨_, rfl⟩, ⟨_, rfl⟩⟩
  · obtain ⟨v, a, w, v', a', w', u', G, t, f, m, s, rfl, rfl, h, hi⟩ := h
    show jop n (jL v a w) (jM v' a' w' u') j k kL kM x y z
    match j, hops with
    | 0, e => have e2 := Option.some.inj e; cases e2; exact op_letter h hi
    | 1, e => have e2 := Option.some.inj e; cases e2; exact op_blank h hi
    | 2, e => have e2 := Option.some.inj e; cases e2; exact op_fault h hi
    | 3, e => have e2 := Option.some.inj e; cases e2; exact op_moor h hi
    | 4, e => have e2 := Option.some.inj e; cases e2; exact op_peg h hi
    | 5, e => have e2 := Option.some.inj e; cases e2; exact op_covert h hi
    | 6, e => have e2 := Option.some.inj e; cases e2; exact op_laugh h hi
    | 7, e => have e2 := Option.some.inj e; cases e2; exact op_as h hi
    | 8, e => have e2 := Option.some.inj e; cases e2; exact op_over h hi
    | 9, e => have e2 := Option.some.inj e; cases e2; exact op_drive h hi
    | 10, e => have e2 := Option.some.inj e; cases e2; exact op_put h hi
    | 11, e => have e2 := Option.some.inj e; cases e2; exact op_feed h hi
    | 12, e => have e2 := Option.some.inj e; cases e2; exact op_arm h hi
    | 13, e => have e2 := Option.some.inj e; cases e2; exact op_rear h hi
    | 14, e => have e2 := Option.some.inj e; cases e2; exact op_stands h hi
    | 15, e => have e2 := Option.some.inj e; cases e2; exact op_order h hi
    | 16, e => have e2 := Option.some.inj e; cases e2; exact op_game h hi
    | 17, e => have e2 := Option.some.inj e; cases e2; exact op_see h hi
    | 18, e => have e2 := Option.some.inj e; cases e2; exact op_forget h hi
    | 19, e => have e2 := Option.some.inj e; cases e2; exact op_seasons h hi
    | 20, e => have e2 := Option.some.inj e; cases e2; exact op_image h hi
    | 21, e => have e2 := Option.some.inj e; cases e2; exact op_restore hn h hi
    | 22, e => have e2 := Option.some.inj e; cases e2; exact op_count h hi
    | 23, e => have e2 := Option.some.inj e; cases e2; exact op_digest h hi
    | j + 24, e => cases e
/-- no moor -/
def gno0 : jG := (fun _ => 0, fun _ _ => 0)
theorem jR_sL : jLG (fun _ => 0) jz_aL gno0 := by
  have no : ∀ (P : Nat → Prop) (k : Nat), k < 0 → P k := fun P k hk => absurd hk (Nat.not_lt_zero k)
  exact ⟨⟨rfl, rfl, rfl, rfl, Nat.zero_le _, Nat.zero_le _, Nat.zero_le _, Nat.zero_le _⟩, ⟨rfl, rfl, rfl, rfl, rfl, rfl, rfl, rfl⟩, no _, no _, no _, no _, no _, no _, no _, no _, ⟨0, by decide, rfl, no _⟩, rfl, rfl⟩
theorem jR_sM : jMG (fun _ => 0) jz_aM gno0 := by
  have no : ∀ (P : Nat → Prop) (k : Nat), k < 0 → P k := fun P k hk => absurd hk (Nat.not_lt_zero k)
  exact ⟨⟨rfl, rfl, rfl, rfl, Nat.zero_le _, Nat.zero_le _, Nat.zero_le _, Nat.zero_le _⟩, ⟨rfl, rfl, rfl, rfl, rfl, rfl, rfl, rfl, rfl⟩, no _, no _, no _, no _, no _, no _, no _, no _, no _, rfl, rfl⟩
theorem jz_l341 : (jz_aM 15).length = 341 := by
  unfold jz_aM jz_LM
  rw [List.length_replicate]
  rfl
theorem jz_l64 : (jz_aL 18).length = 64 ∧ (jz_aL 19).length = 64 ∧ (jz_aL 0).length = 40 ∧ (jz_aM 9).length = 40 := by
  unfold jz_aM jz_LM jz_aL jz_LL
  rw [List.length_replicate, List.length_replicate, List.length_replicate, List.length_replicate]
  exact ⟨rfl, rfl, rfl, rfl⟩
theorem jR_start : jR 0 (jL (fun _ => 0) jz_aL 0) (jM (fun _ => 0) jz_aM 0 0) := by
  have no : ∀ (P : Nat → Prop) (k : Nat), k < 0 → P k := fun P k hk => absurd hk (Nat.not_lt_zero k)
  obtain ⟨l18, l19, l0, l9⟩ := jz_l64
  exact ⟨_, _, _, _, _, _, _, gno0, 0, fun _ => 0, 0, 0, rfl, rfl, ⟨jR_sL, jR_sM, ⟨rfl, by decide, l0, no _⟩, ⟨rfl, by decide, l9, no _⟩, no _, rfl, rfl, by decide, rfl, rfl, by decide, ⟨rfl, l18, l19⟩, ⟨rfl, rfl, rfl, rfl, rfl, jz_l341⟩, ⟨rfl, rfl, rfl, rfl, rfl, rfl, rfl⟩, ⟨rfl, rfl, rfl, rfl, rfl, rfl, rfl, rfl⟩, no _, no _, show ¬ (999 : Int32) < 0 by decide, fun q => absurd q (Nat.lt_irrefl 0), fun q => absurd q (Nat.lt_irrefl 0)⟩, Or.inl ⟨rfl, Or.inl rfl⟩⟩
