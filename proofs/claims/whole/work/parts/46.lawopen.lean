/-! the law, whole, from what the two answer -/
theorem jd_law_0 : decode code 0 = .ok (.new 7, 3) := by decide +kernel
theorem jd_law_3 : decode code 3 = .ok (.dup, 1) := by decide +kernel
theorem jd_law_4 : decode code 4 = .ok (.invokespecial 9, 3) := by decide +kernel
theorem jd_law_7 : decode code 7 = .ok (.astore_n 1, 1) := by decide +kernel
theorem jd_law_8 : decode code 8 = .ok (.new 10, 3) := by decide +kernel
theorem jd_law_11 : decode code 11 = .ok (.dup, 1) := by decide +kernel
theorem jd_law_12 : decode code 12 = .ok (.invokespecial 12, 3) := by decide +kernel
theorem jd_law_15 : decode code 15 = .ok (.astore_n 2, 1) := by decide +kernel
theorem jw_lawinit : jx_words [Cond.classLink R_law 7 RX6, Cond.instantiable RX6 7, Cond.initialized RX6, Cond.methodLink R_law 9 yX6_init, Cond.classLink R_law 10 RX7, Cond.instantiable RX7 45, Cond.initialized RX7, Cond.methodLink R_law 12 yX7_init] [70, 71, 55, 72, 780, 781, 62, 782] = true := by decide +kernel
set_option maxHeartbeats 4000000 in
theorem whole_open (hq : ∀ k M, jx_meth k = some M → jx_chkH M = true ∧ jx_chkC M = true) {R : Nat → jx_H → jx_H → Prop} (hR : jw_R R) (hR0 : R 0 (jL (fun _ => 0) jz_aL 0) (jM (fun _ => 0) jz_aM 0 0))
    {p : Program} {e : Env} {s : State} {m : MethodId} {below : List Frame} {meth : Method} {c : Code} (l : Launch) {b L : Nat} {xs : Nat → Int32} (hL : L ≤ 256) (C0 : lw_At p s m meth c b L xs)
    {KS : State → Prop} (hKS : KS s) (hKK : ∀ dC dI cI cB, jw_K l KS dC dI cI cB s.heap.size) : W p l e room_1 s m #[Value.ref b] below meth c s.heap [] 0 0 (lw_Z below #[Value.ref b] s) (entryFrame m ([Value.ref b] : List Value).toArray 4) := by
  have C0' := C0
  obtain ⟨g1, g2, g3, g4, g5, hts, hX, hbl, g7, -⟩ := C0'
  obtain ⟨dC, dI, cI, cB, hK⟩ := jw_know hts
  have hw := jx_words_in jw_lawinit
  have hl := lv_entry [Value.ref b] (n := 4) (Nat.le_of_ble_eq_true rfl)
  rw [lg_entry_eq]
  have hrel : jx_rel (jw_ad b s.heap.size) 4 [some (.ref 0), none, none, none] ((lg_sl [Value.ref b] ++ List.replicate (4 - (lg_sl [Value.ref b]).length) Slot.unset).toArray) := ⟨rfl, _, hl, fun i w hg => by
    match i, hg with
    | 0, hg => cases hg; exact List.mem_cons_self
    | 1, hg => cases hg
    | 2, hg => cases hg
    | 3, hg => cases hg
    | n + 4, hg => cases hg⟩
  refine jw_born (ci := 6) (k := jk_X6_init) C0 (hKK dC dI cI cB) hK hKS va_S.rf rfl hl.1.symm jd_law_0 jd_law_3 jd_law_4 rfl (hw _ (by simp)) (hw _ (by simp)) (hw _ (by simp)) rfl rfl (hw _ (by simp)) jz_L (by decide) (by decide) (fun H1 locs1 hP1 hz1 ho1 hS1 => ?_)
  have hsta := jx_s_store (ret := ret) (a := 0) (b := 0) (nx := 8) (sw := []) (ad := jw_ad b s.heap.size) (st := [.ref 1]) (h := []) (Q := lw_Z below #[Value.ref b] s) (cells := 0 + 1 + 47) (slots := 0 + 7 + 333) (p := p) (l := l) (e := e) (R := room_1) (s := s) (m := m) (args := #[Value.ref b]) (below := below) (meth := meth) (H := H1) (locs := locs1) g1 g2 (i := .astore_n 1) jd_law_7 rfl hrel rfl
  refine hsta.2.2 (fun la1 hrel1 => ?_)
  refine jw_born (ci := 7) (k := jk_X7_init) C0 (hKK dC dI cI cB) hK hKS hS1 hz1 hrel1.2.choose_spec.1.1 jd_law_8 jd_law_11 jd_law_12 rfl (hw _ (by simp)) (hw _ (by simp)) (hw _ (by simp)) rfl rfl (hw _ (by simp)) jz_M (by decide) (by decide) (fun H2 locs2 hP2 hz2 ho2 hS2 => ?_)
  have hstb := jx_s_store (ret := ret) (a := 0) (b := 0) (nx := 16) (sw := []) (ad := jw_ad b s.heap.size) (st := [.ref 2]) (h := []) (Q := lw_Z below #[Value.ref b] s) (cells := 0 + 1 + 47 + 1 + 24) (slots := 0 + 7 + 333 + 45 + 509) (p := p) (l := l) (e := e) (R := room_1) (s := s) (m := m) (args := #[Value.ref b]) (below := below) (meth := meth) (H := H2) (locs := locs2) g1 g2 (i := .astore_n 2) jd_law_15 rfl hrel1 rfl
  refine hstb.2.2 (fun la2 hrel2 => ?_)
  have hPL2 : va_P (dC, dI) vwCl (jx_xw cI cB (s.heap.size + ·) (jL (fun _ => 0) jz_aL 0)) H2 := jw_keep (A := fun _ => False) hP1 (fun q hq _ => ho2 q hq) (fun i _ z => z)
  refine W.widen (k := 73) (n := 1000) (by decide) (by decide) ?_
  refine (jw_stepsA (o := []) C0 hS2 trivial (jw_loop hq hR hL C0 (hKK dC dI cI cB) hK hKS 65 0 rfl hS2 ⟨hPL2, hP2, rfl, rfl⟩ hR0 (by omega)) 2 [] 16 _ [] rfl).2 la2 hrel2
