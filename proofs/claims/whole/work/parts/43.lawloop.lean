/-! the law comes to its end, if the two answer alike -/
def jw_as (k : Nat) (x y z : Int32) : List Value := match k with
  | 0 => []
  | 1 => [.int x]
  | 2 => [.int x, .int y]
  | _ => [.int x, .int y, .int z]
def jw_lc (k : Nat) (as : List Value) : Option jx_L := match jx_meth k with
  | some (_, _, _, ml, _, _, _, _, _) => jx_args ml (.ref 0 :: as) some
  | none => none
/-- what is wanted of the two: R holds of them after n calls -/
def jw_R (R : Nat → jx_H → jx_H → Prop) : Prop := (∀ n hL hM, R n hL hM → (∃ fs, jx_get hL 0 = some (.inr (6, fs))) ∧ ∃ fs, jx_get hM 0 = some (.inr (7, fs))) ∧ (∀ n hL hM, R n hL hM → R (n + 1) hL hM) ∧
  ∀ n, n < 64 → ∀ hL hM, R n hL hM → ∀ j k kL kM, jx_get jw_ops j = some (k, kL, kM) → ∀ x y z : Int32, ∃ (d1 d2 : Nat) (w : Value) (lsL lsM : jx_L) (hL' hM' : jx_H), d1 ≤ 2000 ∧ d2 ≤ 2000 ∧ jw_lc kL (jw_as k x y z) = some lsL ∧ jw_lc kM (jw_as k x y z) = some lsM ∧
    jx_W d1 kL 0 lsL [] hL (fun v h1 => v = some w ∧ h1 = hL') ∧ jx_W d2 kM 0 lsM [] hM (fun v h1 => v = some w ∧ h1 = hM') ∧ (j = 23 → ∃ t, w = .long t) ∧ (j ≠ 23 → ∃ t, w = .int t) ∧ R (n + 1) hL' hM'
theorem jw_sub : ∀ L : Nat, L < 257 → (Int32.ofNat L - 4).toInt = (L : Int) - 4 := by decide +kernel
section LOOP
variable {l : Launch} {dC : Nat → ClassId} {dI : Nat → Nat → Nat} {cI cB : ClassId} {KS : State → Prop} {R : Nat → jx_H → jx_H → Prop}
variable {p : Program} {e : Env} {s : State} {m : MethodId} {below : List Frame} {meth : Method} {c : Code} {b L : Nat} {xs : Nat → Int32}
theorem jw_if (C0 : lw_At p s m meth c b L xs) {H : Heap} {locs : List Loc} {pc a nx bb : Nat} {i : Instr} {sw : List (Int32 × Nat)} {ws : List Nat} {ls : jx_L} {st r : List Value} {q : Prop} (hlk : jx_look jc_law pc = some (i, nx, a, bb, sw, ws)) (hbr : jx_br i st = some (q, r)) (kt : q → jw_Sem l p e s m below meth c b H locs a ls r) (kf : ¬ q → jw_Sem l p e s m below meth c b H locs nx ls r) : jw_Sem l p e s m below meth c b H locs pc ls st := by
  intro la hrel
  obtain ⟨g1, g2, g3, g4, g5, hts, hX, hbl, g7, -⟩ := C0
  obtain ⟨c1, ⟨len, c2⟩, c3, c4⟩ := jx_chk_spec (jw_look hlk)
  have hk : jx_isSw i = false ∧ jx_len i = 3 := by
    cases i <;> first | exact ⟨rfl, rfl⟩ | cases hbr
  obtain ⟨hnx, hdec⟩ := c1 hk.1
  rw [hk.2] at hnx
  subst hnx
  exact jx_s_br g1 g2 hdec c3 hbr (fun z => kt z la hrel) (fun z => kf z la hrel)
theorem jw_switch (C0 : lw_At p s m meth c b L xs) {H : Heap} {locs : List Loc} {ls : jx_L} {x : Int32} {r : List Value} {d lo hi : Int} {offs : Array Int} {nx a bb : Nat} {sw : List (Int32 × Nat)} {ws : List Nat} {pc : Nat} (hlk : jx_look jc_law pc = some (.tableswitch d lo hi offs, nx, a, bb, sw, ws)) (hsw : jx_sw (fun q => jw_Sem l p e s m below meth c b H locs q ls r) x a sw) : jw_Sem l p e s m below meth c b H locs pc ls (.int x :: r) := by
  intro la hrel
  obtain ⟨g1, g2, g3, g4, g5, hts, hX, hbl, g7, -⟩ := C0
  obtain ⟨c1, ⟨len, c2⟩, c3, c4⟩ := jx_chk_spec (jw_look hlk)
  simp only [jx_chkO, Bool.and_eq_true, decide_eq_true_eq] at c3
  obtain ⟨⟨e1, e2⟩, e3⟩ := c3
  refine jx_sw_tab e3 hsw (fun z w => lv_tableOut g1 g2 c2 ?_ e1 (w la hrel)) (fun off t2 w0 w1 w2 w3 => lv_tableIn g1 g2 c2 (by omega) ?_ (by rw [← Array.getElem?_toList]; exact w1) w2 (w3 la hrel))
  · rw [Array.length_toList] at z; omega
  · have := (List.getElem?_eq_some_iff.mp w1).1
    rw [Array.length_toList] at this; omega
/-- the two calls of an operation -/
theorem jw_both (hq : ∀ k M, jx_meth k = some M → jx_chkH M = true ∧ jx_chkC M = true) (hR : jw_R R) (C0 : lw_At p s m meth c b L xs) (hKK : jw_K l KS dC dI cI cB s.heap.size) (hK : va_K (dC, dI) vwCl (jx_ty cI cB) s) (hKS : KS s) {n : Nat} (hn : n < 64)
    {H : Heap} {locs : List Loc} (hS : va_S (s.heap.size ≤ ·) s.heap H locs) {hL hM : jx_H} (h2 : jw_two dC dI cI cB s.heap.size hL hM H) (hRn : R n hL hM) {j k kL kM : Nat} (hops : jx_get jw_ops j = some (k, kL, kM)) {x y z : Int32} {ls : jx_L} {f P P1 P2 nx1 nx2 ix1 ix2 bb1 bb2 : Nat} {sw1 sw2 : List (Int32 × Nat)} {ws1 ws2 : List Nat} {o1 o2 : List Prop}
    (m1 : jw_many xs L f [] P ls [] = some (o1, P1, ls, (jw_as k x y z).reverse ++ .ref 1 :: [])) (ho1 : jx_all o1) (hlk1 : jx_look jc_law P1 = some (.invokevirtual ix1, nx1, kL, bb1, sw1, ws1))
    (m2 : ∀ w : Value, jw_many xs L f [] nx1 ls [w] = some (o2, P2, ls, (jw_as k x y z).reverse ++ .ref 2 :: [w])) (ho2 : jx_all o2) (hlk2 : jx_look jc_law P2 = some (.invokevirtual ix2, nx2, kM, bb2, sw2, ws2))
    {own1 : String} {y1 : MethodName} {b1 : ByteArray} {ml1 : Nat} {ret1 : Option FieldType} {n1 : Nat} {cd1 : jx_C} {mw1 : List Nat} (hm1 : jx_meth kL = some (own1, y1, b1, ml1, ret1, n1, false, cd1, mw1)) (hn1 : n1 = (jw_as k x y z).length) (hy1 : y1.cls = RX6)
    {own2 : String} {y2 : MethodName} {b2 : ByteArray} {ml2 : Nat} {ret2 : Option FieldType} {n2 : Nat} {cd2 : jx_C} {mw2 : List Nat} (hm2 : jx_meth kM = some (own2, y2, b2, ml2, ret2, n2, false, cd2, mw2)) (hn2 : n2 = (jw_as k x y z).length) (hy2 : y2.cls = RX7)
    (kk : ∀ (w : Value) (hL' hM' : jx_H) (H1 : Heap) (locs1 : List Loc), (j = 23 → ∃ t, w = .long t) → (j ≠ 23 → ∃ t, w = .int t) → jw_two dC dI cI cB s.heap.size hL' hM' H1 → R (n + 1) hL' hM' → va_S (s.heap.size ≤ ·) s.heap H1 locs1 → jw_Sem l p e s m below meth c b H1 locs1 nx2 ls [w, w]) : jw_Sem l p e s m below meth c b H locs P ls [] := by
  obtain ⟨hR1, -, hR2⟩ := hR
  obtain ⟨⟨fL, h0L⟩, fM, h0M⟩ := hR1 n hL hM hRn
  obtain ⟨d1, d2, w, lsL, lsM, hL', hM', hd1, hd2, a1, a2, w1, w2, t1, t2, hRn'⟩ := hR2 n hn hL hM hRn j k kL kM hops x y z
  obtain ⟨hPL, hPM, lL, lM⟩ := h2
  have hw : (∀ f : Nat → Nat, jx_xv f w = w) ∧ jx_cats [w] ≤ 8 := by
    by_cases hj : j = 23
    · obtain ⟨t, rfl⟩ := t1 hj; exact ⟨fun _ => rfl, Nat.le_of_ble_eq_true rfl⟩
    · obtain ⟨t, rfl⟩ := t2 hj; exact ⟨fun _ => rfl, Nat.le_of_ble_eq_true rfl⟩
  have hint : ∀ f : Nat → Nat, (jw_as k x y z).map (jx_xv f) = jw_as k x y z := by
    intro f
    match k with
    | 0 => rfl
    | 1 => rfl
    | 2 => rfl
    | _ + 3 => rfl
  have a1' : jx_args ml1 (.ref 0 :: jw_as k x y z) some = some lsL := by
    unfold jw_lc at a1; rw [hm1] at a1; exact a1
  have a2' : jx_args ml2 (.ref 0 :: jw_as k x y z) some = some lsM := by
    unfold jw_lc at a2; rw [hm2] at a2; exact a2
  refine (jw_stepsA C0 hS ho1 ?_ f [] P ls [] m1).2
  refine jw_call (ad := (s.heap.size + ·)) (N := 48) (A := jw_inL s.heap.size) (ci := 6) (q0 := 1) hq C0 hKK hK hKS (fun q z => z.1) (fun i j _ _ (q : _ + i = _ + j) => by omega) (fun i hi => ⟨Nat.le_add_right _ _, by show _ + i < _; omega⟩) rfl hS hPL lL hlk1 hm1 hd1 (nn := 7) h0L (by rw [hy1]; rfl) hn1.symm hint a1' (by decide) hw.1 w1 (fun H1 locs1 hP1 hl1 hF1 hS1 => ?_)
  have hPM1 := jw_keep (A := jw_inL s.heap.size) hPM hF1 (fun i _ (z : jw_inL _ (s.heap.size + 48 + i)) => by have := z.2; omega)
  refine (jw_stepsA C0 hS1 ho2 ?_ f [] nx1 ls [w] (m2 w)).2
  refine jw_call (ad := (s.heap.size + 48 + ·)) (N := 25) (A := jw_inM s.heap.size) (ci := 7) (q0 := 2) hq C0 hKK hK hKS (fun q z => by have := z.1; show s.heap.size ≤ q; omega) (fun i j _ _ (q : _ + i = _ + j) => by omega) (fun i hi => ⟨Nat.le_add_right _ _, by show _ + i < _; omega⟩) rfl hS1 hPM1 lM hlk2 hm2 hd2 (nn := 45) h0M (by rw [hy2]; rfl) hn2.symm hint a2' hw.2 hw.1 w2 (fun H2 locs2 hP2 hl2 hF2 hS2 => ?_)
  have hPL2 := jw_keep (A := jw_inM s.heap.size) hP1 hF2 (fun i hi (z : jw_inM _ (s.heap.size + i)) => by have := z.1; omega)
  exact kk w hL' hM' H2 locs2 t1 t2 ⟨hPL2, hP2, hl1, hl2⟩ hRn' hS2
end LOOP
