/-! the loop, closed; the law, from the two objects made and R begun -/
section LOOP2
variable {l : Launch} {dC : Nat → ClassId} {dI : Nat → Nat → Nat} {cI cB : ClassId} {KS : State → Prop} {R : Nat → jx_H → jx_H → Prop}
variable {p : Program} {e : Env} {s : State} {m : MethodId} {below : List Frame} {meth : Method} {c : Code} {b L : Nat} {xs : Nat → Int32}
theorem jw_ret (C0 : lw_At p s m meth c b L xs) {H : Heap} {locs : List Loc} (hS : va_S (s.heap.size ≤ ·) s.heap H locs) {ls : jx_L} : jw_Sem l p e s m below meth c b H locs 814 ls [.int 1] := by
  intro la hrel
  obtain ⟨g1, g2, g3, g4, g5, hts, hX, hbl, g7, -⟩ := C0
  obtain ⟨c1, -, -, -⟩ := jx_chk_spec (jw_look (pc := 814) (e := (.ireturn, 815, 1, 0, [], [])) rfl)
  exact W.widen (by decide) (by decide) (va_forget (fun q hq => hS.2.2 q hq) (lw_ret g1 g2 g3 g7 (c1 rfl).2))
theorem jw_in {n j : Nat} (hj : 4 * n + j < L) (hL : L ≤ 256) : vp_in (nI (4 * n + j)) L := nI_in hj (by omega)
theorem jw_loop (hq : ∀ k M, jx_meth k = some M → jx_chkH M = true ∧ jx_chkC M = true) (hR : jw_R R) (hL : L ≤ 256) (C0 : lw_At p s m meth c b L xs) (hKK : jw_K l KS dC dI cI cB s.heap.size) (hK : va_K (dC, dI) vwCl (jx_ty cI cB) s) (hKS : KS s) :
    ∀ (k n : Nat), n + k = 65 → ∀ {H : Heap} {locs : List Loc} (hS : va_S (s.heap.size ≤ ·) s.heap H locs) {hLw hMw : jx_H} (h2 : jw_two dC dI cI cB s.heap.size hLw hMw H) (hRn : R n hLw hMw), 4 * n ≤ L + 3 → jw_Sem l p e s m below meth c b H locs 18 [some (.ref 0), some (.ref 1), some (.ref 2), some (.int (nI (4 * n)))] [] := by
  intro k
  induction k with
  | zero => intro n hnk H locs hS hLw hMw h2 hRn hle; omega
  | succ k ih =>
    intro n hnk H locs hS hLw hMw h2 hRn hle
    refine (jw_stepsA C0 hS (o := []) trivial ?_ 5 [] _ _ _ rfl).2
    refine jw_if C0 rfl rfl (fun z => ?_) (fun z => ?_)
    · exact (jw_stepsA C0 hS (o := []) trivial (jw_ret C0 hS) 1 [] _ _ _ rfl).2
    · have hlt : 4 * n + 4 ≤ L := by
        have h1 : ¬ Int32.ofNat L - 4 < nI (4 * n) := z
        rw [Int32.lt_iff_toInt_lt, jw_sub L (by omega), nI_toInt (by omega)] at h1
        omega
      have v0 : vp_in (nI (4 * n)) L := nI_in (by omega) (by omega)
      have v1 : vp_in (nI (4 * n) + 1) L := by rw [nI_1]; exact nI_in (by omega) (by omega)
      have v2 : vp_in (nI (4 * n) + 2) L := by rw [show (2 : Int32) = nI 2 from rfl, nI_add]; exact nI_in (by omega) (by omega)
      have v3 : vp_in (nI (4 * n) + 3) L := by rw [show (3 : Int32) = nI 3 from rfl, nI_add]; exact nI_in (by omega) (by omega)
      have back : ∀ {hL' hM' : jx_H} {H1 : Heap} {locs1 : List Loc}, jw_two dC dI cI cB s.heap.size hL' hM' H1 → R (n + 1) hL' hM' → va_S (s.heap.size ≤ ·) s.heap H1 locs1 → jw_Sem l p e s m below meth c b H1 locs1 807 [some (.ref 0), some (.ref 1), some (.ref 2), some (.int (nI (4 * n)))] [] := by
        intro hL' hM' H1 locs1 h3 hR3 hS3
        have z := ih (n + 1) (by omega) hS3 h3 hR3 (by omega)
        rw [show nI (4 * (n + 1)) = nI (4 * n) + 4 from by rw [show (4 : Int32) = nI 4 from rfl, nI_add]; rfl] at z
        exact (jw_stepsA C0 hS3 (o := []) trivial z 2 [] _ _ _ rfl).2
      refine (jw_stepsA C0 hS (o := [vp_in (nI (4 * n)) L]) ⟨v0, trivial⟩ ?_ 5 [] _ _ _ rfl).2
      refine jw_switch C0 rfl ?_
      refine ⟨fun _ => ?_, fun _ => ?_⟩
      · refine jw_both (j := 0) (f := 6) (k := 1) (x := (xs (nI (4 * n) + 1).toNatClampNeg)) (y := 0) (z := 0) (o1 := [vp_in (nI (4 * n) + 1) L]) (o2 := [vp_in (nI (4 * n) + 1) L]) hq hR C0 hKK hK hKS (by omega) hS h2 hRn rfl rfl ⟨v1, trivial⟩ rfl (fun w => rfl) ⟨v1, trivial⟩ rfl rfl rfl rfl rfl rfl rfl (fun w hL' hM' H1 locs1 t1 t2 h3 hR3 hS3 => ?_)
        obtain ⟨t, rfl⟩ := t2 (by decide)
        exact jw_if C0 rfl rfl (fun _ => back h3 hR3 hS3) (fun z => absurd rfl z)
      refine ⟨fun _ => ?_, fun _ => ?_⟩
      · refine jw_both (j := 1) (f := 1) (k := 0) (x := 0) (y := 0) (z := 0) (o1 := []) (o2 := []) hq hR C0 hKK hK hKS (by omega) hS h2 hRn rfl rfl trivial rfl (fun w => rfl) trivial rfl rfl rfl rfl rfl rfl rfl (fun w hL' hM' H1 locs1 t1 t2 h3 hR3 hS3 => ?_)
        obtain ⟨t, rfl⟩ := t2 (by decide)
        exact jw_if C0 rfl rfl (fun _ => back h3 hR3 hS3) (fun z => absurd rfl z)
      refine ⟨fun _ => ?_, fun _ => ?_⟩
      · refine jw_both (j := 2) (f := 1) (k := 0) (x := 0) (y := 0) (z := 0) (o1 := []) (o2 := []) hq hR C0 hKK hK hKS (by omega) hS h2 hRn rfl rfl trivial rfl (fun w => rfl) trivial rfl rfl rfl rfl rfl rfl rfl (fun w hL' hM' H1 locs1 t1 t2 h3 hR3 hS3 => ?_)
        obtain ⟨t, rfl⟩ := t2 (by decide)
        exact jw_if C0 rfl rfl (fun _ => back h3 hR3 hS3) (fun z => absurd rfl z)
      refine ⟨fun _ => ?_, fun _ => ?_⟩
      · refine jw_both (j := 3) (f := 1) (k := 0) (x := 0) (y := 0) (z := 0) (o1 := []) (o2 := []) hq hR C0 hKK hK hKS (by omega) hS h2 hRn rfl rfl trivial rfl (fun w => rfl) trivial rfl rfl rfl rfl rfl rfl rfl (fun w hL' hM' H1 locs1 t1 t2 h3 hR3 hS3 => ?_)
        obtain ⟨t, rfl⟩ := t2 (by decide)
        exact jw_if C0 rfl rfl (fun _ => back h3 hR3 hS3) (fun z => absurd rfl z)
      refine ⟨fun _ => ?_, fun _ => ?_⟩
      · refine jw_both (j := 4) (f := 11) (k := 2) (x := (xs (nI (4 * n) + 1).toNatClampNeg)) (y := (xs (nI (4 * n) + 2).toNatClampNeg)) (z := 0) (o1 := [vp_in (nI (4 * n) + 2) L, vp_in (nI (4 * n) + 1) L]) (o2 := [vp_in (nI (4 * n) + 2) L, vp_in (nI (4 * n) + 1) L]) hq hR C0 hKK hK hKS (by omega) hS h2 hRn rfl rfl ⟨v2, v1, trivial⟩ rfl (fun w => rfl) ⟨v2, v1, trivial⟩ rfl rfl rfl rfl rfl rfl rfl (fun w hL' hM' H1 locs1 t1 t2 h3 hR3 hS3 => ?_)
        obtain ⟨t, rfl⟩ := t2 (by decide)
        exact jw_if C0 rfl rfl (fun _ => back h3 hR3 hS3) (fun z => absurd rfl z)
      refine ⟨fun _ => ?_, fun _ => ?_⟩
      · refine jw_both (j := 5) (f := 11) (k := 2) (x := (xs (nI (4 * n) + 1).toNatClampNeg)) (y := (xs (nI (4 * n) + 2).toNatClampNeg)) (z := 0) (o1 := [vp_in (nI (4 * n) + 2) L, vp_in (nI (4 * n) + 1) L]) (o2 := [vp_in (nI (4 * n) + 2) L, vp_in (nI (4 * n) + 1) L]) hq hR C0 hKK hK hKS (by omega) hS h2 hRn rfl rfl ⟨v2, v1, trivial⟩ rfl (fun w => rfl) ⟨v2, v1, trivial⟩ rfl rfl rfl rfl rfl rfl rfl (fun w hL' hM' H1 locs1 t1 t2 h3 hR3 hS3 => ?_)
        obtain ⟨t, rfl⟩ := t2 (by decide)
        exact jw_if C0 rfl rfl (fun _ => back h3 hR3 hS3) (fun z => absurd rfl z)
      refine ⟨fun _ => ?_, fun _ => ?_⟩
      · refine jw_both (j := 6) (f := 11) (k := 2) (x := (xs (nI (4 * n) + 1).toNatClampNeg)) (y := (xs (nI (4 * n) + 2).toNatClampNeg)) (z := 0) (o1 := [vp_in (nI (4 * n) + 2) L, vp_in (nI (4 * n) + 1) L]) (o2 := [vp_in (nI (4 * n) + 2) L, vp_in (nI (4 * n) + 1) L]) hq hR C0 hKK hK hKS (by omega) hS h2 hRn rfl rfl ⟨v2, v1, trivial⟩ rfl (fun w => rfl) ⟨v2, v1, trivial⟩ rfl rfl rfl rfl rfl rfl rfl (fun w hL' hM' H1 locs1 t1 t2 h3 hR3 hS3 => ?_)
        obtain ⟨t, rfl⟩ := t2 (by decide)
        exact jw_if C0 rfl rfl (fun _ => back h3 hR3 hS3) (fun z => absurd rfl z)
      refine ⟨fun _ => ?_, fun _ => ?_⟩
      · refine jw_both (j := 7) (f := 11) (k := 2) (x := (xs (nI (4 * n) + 1).toNatClampNeg)) (y := (xs (nI (4 * n) + 2).toNatClampNeg)) (z := 0) (o1 := [vp_in (nI (4 * n) + 2) L, vp_in (nI (4 * n) + 1) L]) (o2 := [vp_in (nI (4 * n) + 2) L, vp_in (nI (4 * n) + 1) L]) hq hR C0 hKK hK hKS (by omega) hS h2 hRn rfl rfl ⟨v2, v1, trivial⟩ rfl (fun w => rfl) ⟨v2, v1, trivial⟩ rfl rfl rfl rfl rfl rfl rfl (fun w hL' hM' H1 locs1 t1 t2 h3 hR3 hS3 => ?_)
        obtain ⟨t, rfl⟩ := t2 (by decide)
        exact jw_if C0 rfl rfl (fun _ => back h3 hR3 hS3) (fun z => absurd rfl z)
      refine ⟨fun _ => ?_, fun _ => ?_⟩
      · refine jw_both (j := 8) (f := 11) (k := 2) (x := (xs (nI (4 * n) + 1).toNatClampNeg)) (y := (xs (nI (4 * n) + 2).toNatClampNeg)) (z := 0) (o1 := [vp_in (nI (4 * n) + 2) L, vp_in (nI (4 * n) + 1) L]) (o2 := [vp_in (nI (4 * n) + 2) L, vp_in (nI (4 * n) + 1) L]) hq hR C0 hKK hK hKS (by omega) hS h2 hRn rfl rfl ⟨v2, v1, trivial⟩ rfl (fun w => rfl) ⟨v2, v1, trivial⟩ rfl rfl rfl rfl rfl rfl rfl (fun w hL' hM' H1 locs1 t1 t2 h3 hR3 hS3 => ?_)
        obtain ⟨t, rfl⟩ := t2 (by decide)
        exact jw_if C0 rfl rfl (fun _ => back h3 hR3 hS3) (fun z => absurd rfl z)
      refine ⟨fun _ => ?_, fun _ => ?_⟩
      · refine jw_both (j := 9) (f := 11) (k := 2) (x := (xs (nI (4 * n) + 1).toNatClampNeg)) (y := (xs (nI (4 * n) + 2).toNatClampNeg)) (z := 0) (o1 := [vp_in (nI (4 * n) + 2) L, vp_in (nI (4 * n) + 1) L]) (o2 := [vp_in (nI (4 * n) + 2) L, vp_in (nI (4 * n) + 1) L]) hq hR C0 hKK hK hKS (by omega) hS h2 hRn rfl rfl ⟨v2, v1, trivial⟩ rfl (fun w => rfl) ⟨v2, v1, trivial⟩ rfl rfl rfl rfl rfl rfl rfl (fun w hL' hM' H1 locs1 t1 t2 h3 hR3 hS3 => ?_)
        obtain ⟨t, rfl⟩ := t2 (by decide)
        exact jw_if C0 rfl rfl (fun _ => back h3 hR3 hS3) (fun z => absurd rfl z)
      refine ⟨fun _ => ?_, fun _ => ?_⟩
      · refine jw_both (j := 10) (f := 11) (k := 2) (x := (xs (nI (4 * n) + 1).toNatClampNeg)) (y := (xs (nI (4 * n) + 2).toNatClampNeg)) (z := 0) (o1 := [vp_in (nI (4 * n) + 2) L, vp_in (nI (4 * n) + 1) L]) (o2 := [vp_in (nI (4 * n) + 2) L, vp_in (nI (4 * n) + 1) L]) hq hR C0 hKK hK hKS (by omega) hS h2 hRn rfl rfl ⟨v2, v1, trivial⟩ rfl (fun w => rfl) ⟨v2, v1, trivial⟩ rfl rfl rfl rfl rfl rfl rfl (fun w hL' hM' H1 locs1 t1 t2 h3 hR3 hS3 => ?_)
        obtain ⟨t, rfl⟩ := t2 (by decide)
        exact jw_if C0 rfl rfl (fun _ => back h3 hR3 hS3) (fun z => absurd rfl z)
      refine ⟨fun _ => ?_, fun _ => ?_⟩
      · refine jw_both (j := 11) (f := 11) (k := 2) (x := (xs (nI (4 * n) + 1).toNatClampNeg)) (y := (xs (nI (4 * n) + 2).toNatClampNeg)) (z := 0) (o1 := [vp_in (nI (4 * n) + 2) L, vp_in (nI (4 * n) + 1) L]) (o2 := [vp_in (nI (4 * n) + 2) L, vp_in (nI (4 * n) + 1) L]) hq hR C0 hKK hK hKS (by omega) hS h2 hRn rfl rfl ⟨v2, v1, trivial⟩ rfl (fun w => rfl) ⟨v2, v1, trivial⟩ rfl rfl rfl rfl rfl rfl rfl (fun w hL' hM' H1 locs1 t1 t2 h3 hR3 hS3 => ?_)
        obtain ⟨t, rfl⟩ := t2 (by decide)
        exact jw_if C0 rfl rfl (fun _ => back h3 hR3 hS3) (fun z => absurd rfl z)
      refine ⟨fun _ => ?_, fun _ => ?_⟩
      · refine jw_both (j := 12) (f := 11) (k := 2) (x := (xs (nI (4 * n) + 1).toNatClampNeg)) (y := (xs (nI (4 * n) + 2).toNatClampNeg)) (z := 0) (o1 := [vp_in (nI (4 * n) + 2) L, vp_in (nI (4 * n) + 1) L]) (o2 := [vp_in (nI (4 * n) + 2) L, vp_in (nI (4 * n) + 1) L]) hq hR C0 hKK hK hKS (by omega) hS h2 hRn rfl rfl ⟨v2, v1, trivial⟩ rfl (fun w => rfl) ⟨v2, v1, trivial⟩ rfl rfl rfl rfl rfl rfl rfl (fun w hL' hM' H1 locs1 t1 t2 h3 hR3 hS3 => ?_)
        obtain ⟨t, rfl⟩ := t2 (by decide)
        exact jw_if C0 rfl rfl (fun _ => back h3 hR3 hS3) (fun z => absurd rfl z)
      refine ⟨fun _ => ?_, fun _ => ?_⟩
      · refine jw_both (j := 13) (f := 11) (k := 2) (x := (xs (nI (4 * n) + 1).toNatClampNeg)) (y := (xs (nI (4 * n) + 2).toNatClampNeg)) (z := 0) (o1 := [vp_in (nI (4 * n) + 2) L, vp_in (nI (4 * n) + 1) L]) (o2 := [vp_in (nI (4 * n) + 2) L, vp_in (nI (4 * n) + 1) L]) hq hR C0 hKK hK hKS (by omega) hS h2 hRn rfl rfl ⟨v2, v1, trivial⟩ rfl (fun w => rfl) ⟨v2, v1, trivial⟩ rfl rfl rfl rfl rfl rfl rfl (fun w hL' hM' H1 locs1 t1 t2 h3 hR3 hS3 => ?_)
        obtain ⟨t, rfl⟩ := t2 (by decide)
        exact jw_if C0 rfl rfl (fun _ => back h3 hR3 hS3) (fun z => absurd rfl z)
      refine ⟨fun _ => ?_, fun _ => ?_⟩
      · refine jw_both (j := 14) (f := 16) (k := 3) (x := (xs (nI (4 * n) + 1).toNatClampNeg)) (y := (xs (nI (4 * n) + 2).toNatClampNeg)) (z := (xs (nI (4 * n) + 3).toNatClampNeg)) (o1 := [vp_in (nI (4 * n) + 3) L, vp_in (nI (4 * n) + 2) L, vp_in (nI (4 * n) + 1) L]) (o2 := [vp_in (nI (4 * n) + 3) L, vp_in (nI (4 * n) + 2) L, vp_in (nI (4 * n) + 1) L]) hq hR C0 hKK hK hKS (by omega) hS h2 hRn rfl rfl ⟨v3, v2, v1, trivial⟩ rfl (fun w => rfl) ⟨v3, v2, v1, trivial⟩ rfl rfl rfl rfl rfl rfl rfl (fun w hL' hM' H1 locs1 t1 t2 h3 hR3 hS3 => ?_)
        obtain ⟨t, rfl⟩ := t2 (by decide)
        exact jw_if C0 rfl rfl (fun _ => back h3 hR3 hS3) (fun z => absurd rfl z)
      refine ⟨fun _ => ?_, fun _ => ?_⟩
      · refine jw_both (j := 15) (f := 11) (k := 2) (x := (xs (nI (4 * n) + 1).toNatClampNeg)) (y := (xs (nI (4 * n) + 2).toNatClampNeg)) (z := 0) (o1 := [vp_in (nI (4 * n) + 2) L, vp_in (nI (4 * n) + 1) L]) (o2 := [vp_in (nI (4 * n) + 2) L, vp_in (nI (4 * n) + 1) L]) hq hR C0 hKK hK hKS (by omega) hS h2 hRn rfl rfl ⟨v2, v1, trivial⟩ rfl (fun w => rfl) ⟨v2, v1, trivial⟩ rfl rfl rfl rfl rfl rfl rfl (fun w hL' hM' H1 locs1 t1 t2 h3 hR3 hS3 => ?_)
        obtain ⟨t, rfl⟩ := t2 (by decide)
        exact jw_if C0 rfl rfl (fun _ => back h3 hR3 hS3) (fun z => absurd rfl z)
      refine ⟨fun _ => ?_, fun _ => ?_⟩
      · refine jw_both (j := 16) (f := 11) (k := 2) (x := (xs (nI (4 * n) + 1).toNatClampNeg)) (y := (xs (nI (4 * n) + 2).toNatClampNeg)) (z := 0) (o1 := [vp_in (nI (4 * n) + 2) L, vp_in (nI (4 * n) + 1) L]) (o2 := [vp_in (nI (4 * n) + 2) L, vp_in (nI (4 * n) + 1) L]) hq hR C0 hKK hK hKS (by omega) hS h2 hRn rfl rfl ⟨v2, v1, trivial⟩ rfl (fun w => rfl) ⟨v2, v1, trivial⟩ rfl rfl rfl rfl rfl rfl rfl (fun w hL' hM' H1 locs1 t1 t2 h3 hR3 hS3 => ?_)
        obtain ⟨t, rfl⟩ := t2 (by decide)
        exact jw_if C0 rfl rfl (fun _ => back h3 hR3 hS3) (fun z => absurd rfl z)
      refine ⟨fun _ => ?_, fun _ => ?_⟩
      · refine jw_both (j := 17) (f := 16) (k := 3) (x := (xs (nI (4 * n) + 1).toNatClampNeg)) (y := (xs (nI (4 * n) + 2).toNatClampNeg)) (z := (xs (nI (4 * n) + 3).toNatClampNeg)) (o1 := [vp_in (nI (4 * n) + 3) L, vp_in (nI (4 * n) + 2) L, vp_in (nI (4 * n) + 1) L]) (o2 := [vp_in (nI (4 * n) + 3) L, vp_in (nI (4 * n) + 2) L, vp_in (nI (4 * n) + 1) L]) hq hR C0 hKK hK hKS (by omega) hS h2 hRn rfl rfl ⟨v3, v2, v1, trivial⟩ rfl (fun w => rfl) ⟨v3, v2, v1, trivial⟩ rfl rfl rfl rfl rfl rfl rfl (fun w hL' hM' H1 locs1 t1 t2 h3 hR3 hS3 => ?_)
        obtain ⟨t, rfl⟩ := t2 (by decide)
        exact jw_if C0 rfl rfl (fun _ => back h3 hR3 hS3) (fun z => absurd rfl z)
      refine ⟨fun _ => ?_, fun _ => ?_⟩
      · refine jw_both (j := 18) (f := 1) (k := 0) (x := 0) (y := 0) (z := 0) (o1 := []) (o2 := []) hq hR C0 hKK hK hKS (by omega) hS h2 hRn rfl rfl trivial rfl (fun w => rfl) trivial rfl rfl rfl rfl rfl rfl rfl (fun w hL' hM' H1 locs1 t1 t2 h3 hR3 hS3 => ?_)
        obtain ⟨t, rfl⟩ := t2 (by decide)
        exact jw_if C0 rfl rfl (fun _ => back h3 hR3 hS3) (fun z => absurd rfl z)
      refine ⟨fun _ => ?_, fun _ => ?_⟩
      · refine jw_both (j := 19) (f := 16) (k := 3) (x := (xs (nI (4 * n) + 1).toNatClampNeg)) (y := (xs (nI (4 * n) + 2).toNatClampNeg)) (z := (xs (nI (4 * n) + 3).toNatClampNeg)) (o1 := [vp_in (nI (4 * n) + 3) L, vp_in (nI (4 * n) + 2) L, vp_in (nI (4 * n) + 1) L]) (o2 := [vp_in (nI (4 * n) + 3) L, vp_in (nI (4 * n) + 2) L, vp_in (nI (4 * n) + 1) L]) hq hR C0 hKK hK hKS (by omega) hS h2 hRn rfl rfl ⟨v3, v2, v1, trivial⟩ rfl (fun w => rfl) ⟨v3, v2, v1, trivial⟩ rfl rfl rfl rfl rfl rfl rfl (fun w hL' hM' H1 locs1 t1 t2 h3 hR3 hS3 => ?_)
        obtain ⟨t, rfl⟩ := t2 (by decide)
        exact jw_if C0 rfl rfl (fun _ => back h3 hR3 hS3) (fun z => absurd rfl z)
      refine ⟨fun _ => ?_, fun _ => ?_⟩
      · refine jw_both (j := 20) (f := 1) (k := 0) (x := 0) (y := 0) (z := 0) (o1 := []) (o2 := []) hq hR C0 hKK hK hKS (by omega) hS h2 hRn rfl rfl trivial rfl (fun w => rfl) trivial rfl rfl rfl rfl rfl rfl rfl (fun w hL' hM' H1 locs1 t1 t2 h3 hR3 hS3 => ?_)
        obtain ⟨t, rfl⟩ := t2 (by decide)
        exact jw_if C0 rfl rfl (fun _ => back h3 hR3 hS3) (fun z => absurd rfl z)
      refine ⟨fun _ => ?_, fun _ => ?_⟩
      · refine jw_both (j := 21) (f := 1) (k := 0) (x := 0) (y := 0) (z := 0) (o1 := []) (o2 := []) hq hR C0 hKK hK hKS (by omega) hS h2 hRn rfl rfl trivial rfl (fun w => rfl) trivial rfl rfl rfl rfl rfl rfl rfl (fun w hL' hM' H1 locs1 t1 t2 h3 hR3 hS3 => ?_)
        obtain ⟨t, rfl⟩ := t2 (by decide)
        exact jw_if C0 rfl rfl (fun _ => back h3 hR3 hS3) (fun z => absurd rfl z)
      refine ⟨fun _ => ?_, fun _ => ?_⟩
      · refine jw_both (j := 22) (f := 6) (k := 1) (x := (xs (nI (4 * n) + 1).toNatClampNeg)) (y := 0) (z := 0) (o1 := [vp_in (nI (4 * n) + 1) L]) (o2 := [vp_in (nI (4 * n) + 1) L]) hq hR C0 hKK hK hKS (by omega) hS h2 hRn rfl rfl ⟨v1, trivial⟩ rfl (fun w => rfl) ⟨v1, trivial⟩ rfl rfl rfl rfl rfl rfl rfl (fun w hL' hM' H1 locs1 t1 t2 h3 hR3 hS3 => ?_)
        obtain ⟨t, rfl⟩ := t2 (by decide)
        exact jw_if C0 rfl rfl (fun _ => back h3 hR3 hS3) (fun z => absurd rfl z)
      refine ⟨fun _ => ?_, fun _ => ?_⟩
      · refine jw_both (j := 23) (f := 1) (k := 0) (x := 0) (y := 0) (z := 0) (o1 := []) (o2 := []) hq hR C0 hKK hK hKS (by omega) hS h2 hRn rfl rfl trivial rfl (fun w => rfl) trivial rfl rfl rfl rfl rfl rfl rfl (fun w hL' hM' H1 locs1 t1 t2 h3 hR3 hS3 => ?_)
        obtain ⟨t, rfl⟩ := t1 rfl
        intro la hrel
        have g := C0
        obtain ⟨g1, g2, -⟩ := g
        obtain ⟨c1, -, -, -⟩ := jx_chk_spec (jw_look (pc := 801) (e := (.lcmp, 802, 0, 0, [], [])) rfl)
        refine W.lcmp g1 g2 (c1 rfl).2 ?_
        refine jw_if (st := [.int (lg_cmp t t)]) C0 rfl rfl (fun _ => back h3 hR3 hS3) (fun z => absurd ?_ z) la hrel
        simp [lg_cmp]
      exact back h2 (hR.2.1 n hLw hMw hRn) hS
end LOOP2
