/-! the law from its entry: the two objects made, the loop begun -/
section BORN
variable {l : Launch} {dC : Nat → ClassId} {dI : Nat → Nat → Nat} {cI cB : ClassId} {KS : State → Prop}
theorem ja_contract {B : Nat} (hKm : ∀ s U : State, KS s → s.WarmedH U.vm → va_F (B ≤ ·) s U → KS U) (hKb : ∀ (U : State) (g : JFrame) (mk : MethodId) (a : Array Value), KS U → KS (U.calling g mk a)) (hKn : ∀ s : State, KS s → ∀ (own : String) (ix : Nat) (y : MethodName), Cond.methodLinkNest own ix y RX6 ∈ lw_tbl → va_Nw (.methodLinkNest own ix y RX6) s)
    {k : Nat} {own : String} {y : MethodName} {b : ByteArray} {ml : Nat} {ret : Option FieldType} {n : Nat} {stt : Bool} {cd : jx_C} {mw : List Nat} (hm : ja_meth k = some (own, y, b, ml, ret, n, stt, cd, mw)) {f d : Nat} {av : List Value} {h h' : jx_H} {c1 s1 : Nat} {ls : jx_L} (hl1 : ls.length = ml) (hl2 : (lg_sl av).length ≤ ml) (hl3 : ∀ (i : Nat) (w : Value), jx_get ls i = some (some w) → (i, w) ∈ lv_args 0 av) (hrun : ja_run f d k 0 ls [] h 0 0 = some (h', c1, s1)) :
    Met l y (jx_T y b ml none) (ja_rm d c1 s1) (ja_Pc dC dI cI cB KS B av h) (ja_Qc dC dI cI cB B h') c1 s1 (B ≤ ·) := by
  obtain ⟨hp, hown, hyn, hy, hml, hw⟩ := ja_chkH_spec (jqa_of hm).1
  refine Met.ofW (cc := b) (maxL := ml) (ret := none) hp rfl ?_
  intro p e s m args below meth c s₁ Bd hmlc hv
  obtain ⟨rfl, hP2, hK2, hKS2, hsz2⟩ := hv
  have hts2 := atoms_spec (ws := jx_T y b ml none) Bd.pre
  have hown2 : s.vm.findClass own = some m.cls := by rw [hown]; exact findClass_of_methodNamed Bd.named
  have hl := lv_entry (av.map (jx_xv (B + ·))) (n := ml) (by rw [lg_sl_map]; exact hl2)
  rw [lg_entry_eq]
  exact ja_sound hKm hKb hKn f d k 0 ls [] h 0 0 h' c1 s1 hrun own y b ml ret n stt cd mw hm Bd.exec Bd.bytes Bd.returns ((name_of_methodNamed Bd.named Bd.method).1.trans hyn) hmlc hown2 hts2 Bd.notSynchronized hK2 hKS2 (by omega) (Nat.le_refl _) (Nat.le_refl _) (Nat.le_refl _) (Nat.le_refl _) s.heap [] _ hsz2 hP2 va_S.rf ⟨hl1, _, hl, fun i w hg => lv_args_map _ av 0 i w (hl3 i w hg)⟩
/-- what the tables say of the classes -/
theorem jw_insts : jx_words [Cond.instantiable RX0 12, Cond.instantiable RX1 3, Cond.instantiable RX2 10, Cond.instantiable RX3 4, Cond.instantiable RX4 1, Cond.instantiable RX5 4, Cond.instantiable RX6 7, Cond.instantiable RX7 45, Cond.arrayClass .int, Cond.arrayClass .byte] [136, 79, 130, 96, 85, 144, 71, 781, 94, 447] = true := by decide +kernel
theorem jw_arr {s : State} {args : Array Value} {ty : FieldType} (h : (Cond.arrayClass ty).before args s = true) (hty : ∀ C, ty ≠ .object C) : ∃ cA : ClassId, ArrOfT s cA ty ∧ va_RA s cA ty := by
  obtain ⟨cA, kA, comp, h1, h2, h3⟩ := Cond.arrayClass_spec h
  refine ⟨cA, fun n z => ⟨fun k h => (by cases h), kA, h2, comp, h3⟩, ?_⟩
  cases ty with
  | object C => exact absurd rfl (hty C)
  | _ => exact h1
theorem jw_know {s : State} {args : Array Value} (hts : ∀ w ∈ lw_tbl, w.before args s = true) : ∃ (dC : Nat → ClassId) (dI : Nat → Nat → Nat) (cI cB : ClassId), va_K (dC, dI) vwCl (jx_ty cI cB) s := by
  have hw := jx_words_in jw_insts
  have kn : ∀ {ci : Nat} {C : String} {T : u_T} {N n : Nat}, jx_get vwCl ci = some (C, T, N) → Cond.instantiable C n ∈ lw_tbl → ∃ (cC : ClassId) (iS : Nat → Nat), u_Kn s C T N cC iS := fun h hi => u_known hts (ji_all h).1 (hts _ hi)
  obtain ⟨c0, i0, k0⟩ := kn (ci := 0) rfl (hw (Cond.instantiable RX0 12) (by simp))
  obtain ⟨c1, i1, k1⟩ := kn (ci := 1) rfl (hw (Cond.instantiable RX1 3) (by simp))
  obtain ⟨c2, i2, k2⟩ := kn (ci := 2) rfl (hw (Cond.instantiable RX2 10) (by simp))
  obtain ⟨c3, i3, k3⟩ := kn (ci := 3) rfl (hw (Cond.instantiable RX3 4) (by simp))
  obtain ⟨c4, i4, k4⟩ := kn (ci := 4) rfl (hw (Cond.instantiable RX4 1) (by simp))
  obtain ⟨c5, i5, k5⟩ := kn (ci := 5) rfl (hw (Cond.instantiable RX5 4) (by simp))
  obtain ⟨c6, i6, k6⟩ := kn (ci := 6) rfl (hw (Cond.instantiable RX6 7) (by simp))
  obtain ⟨c7, i7, k7⟩ := kn (ci := 7) rfl (hw (Cond.instantiable RX7 45) (by simp))
  obtain ⟨cI, a1, a2⟩ := jw_arr (hts _ (hw (Cond.arrayClass .int) (by simp))) (fun C h => by cases h)
  obtain ⟨cB, b1, b2⟩ := jw_arr (hts _ (hw (Cond.arrayClass .byte) (by simp))) (fun C h => by cases h)
  refine ⟨fun c => match c with | 0 => c0 | 1 => c1 | 2 => c2 | 3 => c3 | 4 => c4 | 5 => c5 | 6 => c6 | _ => c7, fun c => match c with | 0 => i0 | 1 => i1 | 2 => i2 | 3 => i3 | 4 => i4 | 5 => i5 | 6 => i6 | _ => i7, cI, cB, fun ci q hq => ?_, fun k q hq => ?_⟩
  · match ci, hq with
    | 0, hq => cases hq; exact k0
    | 1, hq => cases hq; exact k1
    | 2, hq => cases hq; exact k2
    | 3, hq => cases hq; exact k3
    | 4, hq => cases hq; exact k4
    | 5, hq => cases hq; exact k5
    | 6, hq => cases hq; exact k6
    | 7, hq => cases hq; exact k7
    | n + 8, hq => cases hq
  · match k, hq with
    | 0, hq => cases hq; exact ⟨a1, a2⟩
    | 1, hq => cases hq; exact ⟨b1, b2⟩
    | n + 2, hq => cases hq
variable {p : Program} {e : Env} {s : State} {m : MethodId} {below : List Frame} {meth : Method} {c : Code} {b L : Nat} {xs : Nat → Int32} {Q : State → Prop}
theorem jw_born (C0 : lw_At p s m meth c b L xs) (hKK : jw_K l KS dC dI cI cB s.heap.size) (hK : va_K (dC, dI) vwCl (jx_ty cI cB) s) (hKS : KS s) {H : Heap} {locs : List Loc} (hS : va_S (s.heap.size ≤ ·) s.heap H locs) {Bx : Nat} (hsz : H.size = Bx) {ci k pc ixN ixC cells slots c1 s1 N : Nat} {C : String} {T : u_T} {y : MethodName} {b2 : ByteArray} {ret : Option FieldType} {stt : Bool} {cd : jx_C} {mw : List Nat} {h' : jx_H} {la : Array Slot} (hla : la.size = 4)
    (d0 : decode code pc = .ok (.new ixN, 3)) (d3 : decode code (pc + 3) = .ok (.dup, 1)) (d4 : decode code (pc + 3 + 1) = .ok (.invokespecial ixC, 3)) (hC : jx_get vwCl ci = some (C, T, N)) (hcl : Cond.classLink R_law ixN C ∈ lw_tbl) (hin : Cond.instantiable C N ∈ lw_tbl) (hini : Cond.initialized C ∈ lw_tbl) (hNs : N = ja_size ci)
    (hm : ja_meth k = some (C, y, b2, 1, ret, 0, stt, cd, mw)) (hml : Cond.methodLink R_law ixC y ∈ lw_tbl) (hrun : ja_run 200 8 k 0 [some (.ref 0)] [] [.inr (ci, ja_def ci)] 0 0 = some (h', c1, s1)) (hr1 : cells + 1 + c1 ≤ 73) (hr2 : slots + N + s1 ≤ 1000)
    (kk : ∀ (H1 : Heap) (locs1 : List Loc), va_P (dC, dI) vwCl (jx_xw cI cB (Bx + ·) h') H1 → H1.size = Bx + h'.length → (∀ q : Nat, q < H.size → H1[q]? = H[q]?) → va_S (s.heap.size ≤ ·) s.heap H1 locs1 → W p l e room_1 s m #[Value.ref b] below meth c H1 locs1 (cells + 1 + c1) (slots + N + s1) Q (F0 m (pc + 3 + 1 + 3) la [.ref Bx])) : W p l e room_1 s m #[Value.ref b] below meth c H locs cells slots Q (F0 m pc la []) := by
  obtain ⟨g1, g2, g3, g4, g5, hts, hX, hbl, g7, -⟩ := C0
  obtain ⟨hKm, hKb, hKn, -⟩ := hKK
  have hBx : s.heap.size ≤ Bx := by rw [← hsz]; exact hS.1
  have hKn2 := hK.1 ci _ (jx_vw hC)
  obtain ⟨hlay, -, hnm, hcls⟩ := ji_all hC
  obtain ⟨ty, hty, hdef⟩ := ja_defs hC
  have hroomC : (73 : Nat) ≤ room_1.cells := by decide
  have hroomS : (1000 : Nat) ≤ room_1.slots := by decide
  refine W.newcK (n := N) g1 g2 g5 (hts _ hcl) (hts _ hin) (hts _ hini) rfl d0 (by omega) (by omega) hKn2.2.1 hsz fun H1 kC hkC e1 z1 o1 => ?_
  have hP1 : va_P (dC, dI) vwCl (jx_xw cI cB (Bx + ·) [.inr (ci, ja_def ci)]) H1 := by
    intro k2 q hk2
    have hz : k2 < 1 := (List.getElem?_eq_some_iff.mp hk2).1
    rw [show k2 = 0 by omega] at hk2
    cases hk2
    refine ⟨_, jx_vw hC, ?_⟩
    show t_OB (Bx + 0) (dC ci) N (dI ci) H1 (vp_V ((ja_def ci).map (jx_xv (Bx + ·))))
    rw [ja_def_ref]
    exact (u_born ty hts (fun w hw => hlay w hw) hKn2 hkC e1 hty).to hdef
  have hS1 : va_S (s.heap.size ≤ ·) s.heap H1 locs := ⟨Nat.le_trans hS.1 (by omega), fun x h1 h2 => (o1 x (by have := hS.1; omega)).trans (hS.2.1 x h1 h2), hS.2.2⟩
  refine lv_dup (va := .ref Bx) (rest := []) g1 g2 d3 rfl ?_
  obtain ⟨q1, q2, qn, q3, q4, q5⟩ := ja_chkH_spec (jqa_of hm).1
  have hM := ja_contract (l := l) (dC := dC) (dI := dI) (cI := cI) (cB := cB) (KS := KS) (B := Bx) (av := [.ref 0]) (fun s U z1 z2 z3 => hKm s U z1 z2 (jw_Fle (fun q (z : Bx ≤ q) => Nat.le_trans hBx z) z3)) hKb hKn hm rfl (by decide) (fun i w hg => by
    match i, hg with
    | 0, hg => cases hg; exact List.mem_cons_self
    | n + 1, hg => cases hg) hrun
  have hcode2 : Cond.code y b2 1 none ∈ lw_tbl := q5 _ (by simp)
  have hini2 : Cond.initialized y.cls ∈ lw_tbl := q5 _ (by simp)
  have hins : Cond.instanceMethod y ∈ lw_tbl := q5 _ (by simp)
  have hR : (ja_rm 8 c1 s1).frames + 1 ≤ room_1.frames ∧ 8 + (1 + 11) + (ja_rm 8 c1 s1).locals ≤ room_1.locals := ⟨by show 8 + 1 ≤ 2048; omega, by show 8 + (1 + 11) + 40 * 8 ≤ 84000; omega⟩
  have hpre : PreS s H1 (ja_Pc dC dI cI cB KS Bx [.ref 0] [.inr (ci, ja_def ci)]) ([Value.ref 0].map (jx_xv (Bx + ·))) := ⟨fun a U g mk z => ⟨z.1, z.2.1, va_K.moved (u := U) (U := U.calling g mk a) (Vm.Alike.refl U.vm) z.2.2.1, hKb U g mk a z.2.2.2.1, z.2.2.2.2⟩, fun U hU hW => ⟨rfl, by rw [hU]; exact hP1, va_K.moved hW.alike hK, hKm s U hKS hW (hS1.F hU), by rw [hU]; exact z1⟩⟩
  have hrun2 : va_Run p l e room_1 s m #[Value.ref b] below meth c H1 locs (cells + 1) (slots + N) c1 s1 (F0 m (pc + 3 + 1) la [.ref Bx, .ref Bx]) [.ref Bx] (ja_Qc dC dI cI cB Bx h' [Value.ref Bx].toArray) (Bx ≤ ·) :=
    va_runI (Ts := lw_tbl) (nL := 4) (b := Bx) (As := []) ⟨g1, g2, g4, g5, hts⟩ hM ⟨callB_of 0 hts (jw_goodIn hcode2) rfl rfl rfl (hts _ hini2) (hts _ hml) q3 hR, qn, hts _ hins⟩ hpre rfl rfl hla rfl (lv_room (Nat.le_of_ble_eq_true rfl)) d4 ⟨by omega, by omega⟩
  refine ja_callX hrun2 hS1 (fun q (z : Bx ≤ q) => Nat.le_trans hBx z) (fun st₀ v t _ z => jw_Fle (fun q (z : Bx ≤ q) => Nat.le_trans hBx z) z.2) (fun v st₀ t H2 locs1 w0 w1 w2 w3 w4 => ?_)
  obtain ⟨⟨z1', z2, z3, z4⟩, zF⟩ := w3
  cases z1'
  refine kk H2 locs1 (by rw [← w1]; exact z2) (by rw [← w1]; exact z4) (fun q hq => ?_) w4
  have := zF.2 q (by rw [w0]; omega) (by show ¬ Bx ≤ q; omega)
  rw [w0, w1] at this
  exact this.trans (o1 q (by omega))
end BORN
