/-! the law's calls -/
def jw_inL (B q : Nat) : Prop := B ≤ q ∧ q < B + 48
def jw_inM (B q : Nat) : Prop := B + 48 ≤ q ∧ q < B + 73
section LAW3
variable (dC : Nat → ClassId) (dI : Nat → Nat → Nat) (cI cB : ClassId)
/-- the two worlds stand -/
def jw_two (B : Nat) (hL hM : jx_H) (H : Heap) : Prop := va_P (dC, dI) vwCl (jx_xw cI cB (B + ·) hL) H ∧ va_P (dC, dI) vwCl (jx_xw cI cB (B + 48 + ·) hM) H ∧ hL.length = 48 ∧ hM.length = 25
end LAW3
section LAW4
variable {l : Launch} {dC : Nat → ClassId} {dI : Nat → Nat → Nat} {cI cB : ClassId} {KS : State → Prop}
variable {p : Program} {e : Env} {s : State} {m : MethodId} {below : List Frame} {meth : Method} {c : Code} {b L : Nat} {xs : Nat → Int32}
theorem jw_goodIn {y2 : MethodName} {b2 : ByteArray} {ml2 : Nat} {ret2 : Option FieldType} (h : Cond.code y2 b2 ml2 ret2 ∈ lw_tbl) : GoodIn lw_tbl (jx_T y2 b2 ml2 ret2) := by
  intro w hw
  rcases List.mem_cons.mp hw with rfl | hw
  · exact ⟨h, Or.inl rfl⟩
  · exact ⟨(List.mem_filter.mp hw).1, good_of_word (List.mem_filter.mp hw).2⟩
variable (l KS) in
/-- what a method's runs rest on, beside the worlds -/
def jw_K (dC : Nat → ClassId) (dI : Nat → Nat → Nat) (cI cB : ClassId) (B : Nat) : Prop := (∀ s U : State, KS s → s.WarmedH U.vm → va_F (B ≤ ·) s U → KS U) ∧ (∀ (U : State) (g : JFrame) (mk : MethodId) (a : Array Value), KS U → KS (U.calling g mk a)) ∧ (∀ s : State, KS s → ∀ (own : String) (ix : Nat) (y : MethodName), Cond.methodLinkNest own ix y RX6 ∈ lw_tbl → va_Nw (.methodLinkNest own ix y RX6) s) ∧
  ∀ (ad : Nat → Nat) (N : Nat) (A : Nat → Prop), (∀ q, A q → B ≤ q) → ∀ d x h Q, 8 ≤ d → Q (some (.int (jx_kindOf x))) h → jx_Sem l dC dI cI cB KS ad N A d jk_X6_kindOf 0 [some (.int x)] [] h Q
theorem jw_Fle {A A' : Nat → Prop} (h : ∀ q, A q → A' q) {s t : State} (hF : va_F A s t) : va_F A' s t := ⟨hF.1, fun q h1 h2 => hF.2 q h1 (fun z => h2 (h q z))⟩
theorem jw_keep {A : Nat → Prop} {ad : Nat → Nat} {h : jx_H} {H H1 : Heap} (hP : va_P (dC, dI) vwCl (jx_xw cI cB ad h) H) (hk : ∀ q : Nat, q < H.size → ¬ A q → H1[q]? = H[q]?) (hn : ∀ i, i < h.length → ¬ A (ad i)) : va_P (dC, dI) vwCl (jx_xw cI cB ad h) H1 := by
  refine hP.kept (fun k q hq => ?_)
  have hl := (hP k q hq).lt
  refine hk q.1 hl ?_
  rw [jx_xw, List.getElem?_mapIdx] at hq
  cases hc : h[k]? with
  | none => rw [hc] at hq; cases hq
  | some e0 =>
    rw [hc] at hq
    cases hq
    exact hn k (List.getElem?_eq_some_iff.mp hc).1
/-- a call on one of the two: q0 its place among the law's references, ad its cells' addresses, A their range -/
theorem jw_call (hq : ∀ k M, jx_meth k = some M → jx_chkH M = true ∧ jx_chkC M = true) (C0 : lw_At p s m meth c b L xs) (hKK : jw_K l KS dC dI cI cB s.heap.size) (hK : va_K (dC, dI) vwCl (jx_ty cI cB) s) (hKS : KS s) {ad : Nat → Nat} {N q0 : Nat} {A : Nat → Prop} (hA : ∀ q, A q → s.heap.size ≤ q) (hinj : ∀ i j, i < N → j < N → ad i = ad j → i = j) (hAd : ∀ i, i < N → A (ad i)) (hq0 : jw_ad b s.heap.size q0 = ad 0)
    {H : Heap} {locs : List Loc} (hS : va_S (s.heap.size ≤ ·) s.heap H locs) {h h' : jx_H} (hP : va_P (dC, dI) vwCl (jx_xw cI cB ad h) H) (hN : h.length = N)
    {pc ix nx k bb d ci : Nat} {sw : List (Int32 × Nat)} {ws : List Nat} {fs : List Value} (hlk : jx_look jc_law pc = some (.invokevirtual ix, nx, k, bb, sw, ws)) {own2 : String} {y2 : MethodName} {b2 : ByteArray} {ml2 : Nat} {ret2 : Option FieldType} {n2 : Nat} {cd2 : jx_C} {mw2 : List Nat} (hm : jx_meth k = some (own2, y2, b2, ml2, ret2, n2, false, cd2, mw2)) (hd : d ≤ 2000)
    {T : u_T} {nn : Nat} (h0 : jx_get h 0 = some (.inr (ci, fs))) (hC : jx_get vwCl ci = some (y2.cls, T, nn)) {as rest : List Value} (has : as.length = n2) (hint : ∀ f : Nat → Nat, as.map (jx_xv f) = as) {ls ls2 : jx_L} (hargs : jx_args ml2 (.ref 0 :: as) some = some ls2) (hcat : jx_cats rest ≤ 8) {w : Value} (hw : ∀ f : Nat → Nat, jx_xv f w = w)
    (hrun : jx_W d k 0 ls2 [] h (fun v h1 => v = some w ∧ h1 = h'))
    (kk : ∀ (H1 : Heap) (locs1 : List Loc), va_P (dC, dI) vwCl (jx_xw cI cB ad h') H1 → h'.length = N → (∀ q : Nat, q < H.size → ¬ A q → H1[q]? = H[q]?) → va_S (s.heap.size ≤ ·) s.heap H1 locs1 → jw_Sem l p e s m below meth c b H1 locs1 nx ls (w :: rest)) : jw_Sem l p e s m below meth c b H locs pc ls (as.reverse ++ .ref q0 :: rest) := by
  intro la hrel
  obtain ⟨g1, g2, g3, g4, g5, hts, hX, hbl, g7, -⟩ := C0
  obtain ⟨hKm, hKb, hKn, hkd⟩ := hKK
  obtain ⟨c1, ⟨len, c2⟩, c3, c4⟩ := jx_chk_spec (jw_look hlk)
  obtain ⟨hnx, hdec⟩ := c1 rfl
  obtain ⟨q1, q2, q3, q4, q5⟩ := jx_chkH_spec (hq k _ hm).1
  obtain ⟨l3, e1, e2, e3, e4⟩ := jx_args_spec hargs
  cases e1
  have hsem : jx_Sem l dC dI cI cB KS ad N A d k 0 ls2 [] h (fun v h1 => v = some w ∧ h1 = h') := hrun _ (jx_sound hq hinj hAd (fun s U z1 z2 z3 => hKm s U z1 z2 (jw_Fle hA z3)) hKb hKn (hkd ad N A hA))
  have hM := jx_contract (KS := KS) hq hm e2 e3 (fun i w hg => by have := e4 0 i w hg; rwa [Nat.zero_add] at this) hN hsem
  simp only [jx_need, hm] at c4
  have hcode2 : Cond.code y2 b2 ml2 ret2 ∈ lw_tbl := q5 _ (by simp [jx_mwords])
  have hini : Cond.initialized y2.cls ∈ lw_tbl := q5 _ (by simp [jx_mwords])
  have hins : Cond.instanceMethod y2 ∈ lw_tbl := q5 _ (by simp [jx_mwords])
  have hsel : Cond.selects y2.cls y2 y2 ∈ lw_tbl := q5 _ (by simp [jx_mwords])
  have hR : (jx_rm d).frames + 1 ≤ room_1.frames ∧ 8 + (ml2 + 11) + (jx_rm d).locals ≤ room_1.locals := ⟨by show d + 1 ≤ 2048; omega, by show 8 + (ml2 + 11) + 40 * d ≤ 84000; omega⟩
  have hpre : ∀ av : List Value, PreS s H (jx_Pc dC dI cI cB KS ad av h) (av.map (jx_xv ad)) := fun av => ⟨fun a U g mk z => ⟨z.1, z.2.1, va_K.moved (u := U) (U := U.calling g mk a) (Vm.Alike.refl U.vm) z.2.2.1, hKb U g mk a z.2.2.2⟩, fun U hU hW => ⟨rfl, by rw [hU]; exact hP, va_K.moved hW.alike hK, hKm s U hKS hW (hS.F hU)⟩⟩
  have hrecv := va_recv hK hP (jx_vw hC) (jx_xw_get (cI := cI) (cB := cB) (ad := ad) h0)
  have hst : (as.reverse ++ .ref q0 :: rest).map (jx_xv (jw_ad b s.heap.size)) = (as.map (jx_xv ad)).reverse ++ .ref (ad 0) :: rest.map (jx_xv (jw_ad b s.heap.size)) := by
    rw [List.map_append, List.map_reverse, hint, hint]
    show _ ++ Value.ref (jw_ad b s.heap.size q0) :: _ = _
    rw [hq0]
  have hsz : la.size = 4 := hrel.2.choose_spec.1.1
  have hrun2 : va_Run p l e room_1 s m #[Value.ref b] below meth c H locs 73 1000 0 0 (F0 m pc la ((as.reverse ++ .ref q0 :: rest).map (jx_xv (jw_ad b s.heap.size)))) (rest.map (jx_xv (jw_ad b s.heap.size))) (jx_Qc dC dI cI cB ad N A (fun v h1 => v = some w ∧ h1 = h') (Value.ref (ad 0) :: as.map (jx_xv ad)).toArray) A := by
    refine va_runV (C := y2.cls) (Ts := lw_tbl) (nL := 4) ⟨g1, g2, g4, g5, hts⟩ hM ⟨callB_of n2 hts (jw_goodIn hcode2) rfl rfl rfl (hts _ hini) (hts _ (c4 _ List.mem_cons_self)) q3 hR, hts _ hins, hts _ hsel⟩ ⟨(hpre (.ref 0 :: as)).1, hrecv, (hpre (.ref 0 :: as)).2⟩ rfl (by rw [List.length_map]; exact has) hsz hst (lv_room (by rw [jx_cats_x]; exact hcat)) hdec ⟨by decide, by decide⟩
  refine ja_callX hrun2 hS hA (fun st₀ v t _ z => jw_Fle hA z.2) (fun v st₀ t H1 locs1 w0 w1 w2 w3 w4 => ?_)
  obtain ⟨⟨v', h'', z1, ⟨z2, z3⟩, z4, z5, z6⟩, zF⟩ := w3
  cases z1
  subst z3
  rw [z2]
  have hF2 : ∀ q : Nat, q < H.size → ¬ A q → H1[q]? = H[q]? := fun q y1 y2 => by
    have := zF.2 q (by rw [w0]; exact y1) y2
    rw [w0, w1] at this; exact this
  have z := kk H1 locs1 (by rw [← w1]; exact z5) z4 hF2 w4 la hrel
  rw [hnx] at z
  rw [List.map_cons, hw] at z
  show W p l e room_1 s m _ below meth c H1 locs1 73 1000 _ (F0 m (pc + 3) la (((some w).map (jx_xv ad)).toList ++ _))
  rw [Option.map_some, hw]
  exact z
end LAW4
