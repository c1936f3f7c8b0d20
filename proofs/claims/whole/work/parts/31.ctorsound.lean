/-! A CONSTRUCTOR'S RUN, as a function over lists (new cells at the end of the world), and that the machine does it -/
def ja_code (k : Nat) : jx_C := match ja_meth k with
  | some (_, _, _, _, _, _, _, c, _) => c
  | none => []
def ja_kind (i : Instr) : Nat := match i with
  | .return_ => 1
  | .ifCond .le _ => 2
  | .new _ => 3
  | .newarray _ => 4
  | .putfield _ => 5
  | .invokespecial _ => 6
  | i => bif Nat.ble (jx_kind i) 3 || Nat.beq (jx_kind i) 5 then 0 else 7
def ja_run : Nat → Nat → Nat → Nat → jx_L → List Value → jx_H → Nat → Nat → Option (jx_H × Nat × Nat)
  | 0, _, _, _, _, _, _, _, _ => none
  | f + 1, d, k, pc, ls, st, h, c0, s0 => match jx_look (ja_code k) pc with
    | none => none
    | some (i, nx, a, b, sw, _) => match ja_kind i with
      | 0 => (match jx_next i nx a b sw ls st h with
        | some ([], nx', ls', st', h') => ja_run f d k nx' ls' st' h' c0 s0
        | _ => none)
      | 1 => (match st with | [] => some (h, c0, s0) | _ => none)
      | 2 => (match st with | .int x :: r => if x ≤ 0 then ja_run f d k a ls r h c0 s0 else ja_run f d k nx ls r h c0 s0 | _ => none)
      | 3 => ja_run f d k nx ls (.ref h.length :: st) (h ++ [.inr (a, ja_def a)]) (c0 + 1) (s0 + ja_size a)
      | 4 => (match st with
        | .int x :: r => bif decide (¬ x < 0) && Nat.ble x.toNatClampNeg 1000 then ja_run f d k nx ls (.ref h.length :: r) (h ++ [.inl (a, List.replicate x.toNatClampNeg 0)]) (c0 + 1) (s0 + x.toNatClampNeg) else none
        | _ => none)
      | 5 => (match st with
        | .ref v :: .ref q :: r => (match jx_get h q with
          | some (.inr (ci, fs)) => bif Nat.beq ci a && Nat.blt b fs.length then ja_run f d k nx ls r (h.set q (.inr (ci, fs.set b (.ref v)))) c0 s0 else none
          | _ => none)
        | _ => none)
      | 6 => bif Nat.beq a 9999 then (match d, st with
          | _ + 1, .ref _ :: r => bif Nat.ble (jx_cats r) 8 then ja_run f d k nx ls r h c0 s0 else none
          | _, _ => none)
        else (match ja_meth a with
          | some (_, _, _, ml, _, n, _, _, _) => (match jx_pop n [] st with
            | some (as, .ref q :: r) => bif Nat.ble (jx_cats r) 8 then (match d with
              | d1 + 1 => (match jx_args ml (.ref q :: as) some with
                | some l => (match ja_run f d1 a 0 l [] h 0 0 with
                  | some (h1, c1, s1) => ja_run f d k nx ls r h1 (c0 + c1) (s0 + s1)
                  | none => none)
                | none => none)
              | 0 => none) else none
            | _ => none)
          | none => none)
      | _ => none
theorem ja_mono : ∀ {f d k pc : Nat} {ls : jx_L} {st : List Value} {h : jx_H} {c0 s0 : Nat} {h' : jx_H} {c1 s1 : Nat}, ja_run f d k pc ls st h c0 s0 = some (h', c1, s1) → c0 ≤ c1 ∧ s0 ≤ s1 := by
  intro f
  induction f with
  | zero => intro d k pc ls st h c0 s0 h' c1 s1 hx; simp [ja_run] at hx
  | succ f ih =>
    intro d k pc ls st h c0 s0 h' c1 s1 hx
    unfold ja_run at hx
    cases hlk : jx_look (ja_code k) pc with
    | none => rw [hlk] at hx; cases hx
    | some en =>
      obtain ⟨i, nx, a, b, sw, ws⟩ := en
      rw [hlk] at hx
      dsimp only at hx
      split at hx
      · split at hx
        · exact ih hx
        · cases hx
      · split at hx
        · cases hx; exact ⟨Nat.le_refl _, Nat.le_refl _⟩
        · cases hx
      · split at hx
        · split at hx <;> exact ih hx
        · cases hx
      · have := ih hx; omega
      · split at hx
        · rename_i x r
          cases hz : decide (¬ x < 0) && Nat.ble x.toNatClampNeg 1000 with
          | false => rw [hz] at hx; cases hx
          | true => rw [hz] at hx; have := ih hx; omega
        · cases hx
      · split at hx
        · split at hx
          · rename_i ci fs _
            cases hz : Nat.beq ci a && Nat.blt b fs.length with
            | false => rw [hz] at hx; cases hx
            | true => rw [hz] at hx; exact ih hx
          · cases hx
        · cases hx
      · cases ha : Nat.beq a 9999 with
        | true =>
          rw [ha] at hx
          dsimp only [cond_true] at hx
          split at hx
          · rename_i r
            cases hz : Nat.ble (jx_cats r) 8 with
            | false => rw [hz] at hx; cases hx
            | true => rw [hz] at hx; exact ih hx
          · cases hx
        | false =>
          rw [ha] at hx
          dsimp only [cond_false] at hx
          split at hx
          · split at hx
            · rename_i r _
              cases hz : Nat.ble (jx_cats r) 8 with
              | false => rw [hz] at hx; cases hx
              | true =>
                rw [hz] at hx
                dsimp only [cond_true] at hx
                split at hx
                · split at hx
                  · split at hx
                    · have := ih hx; omega
                    · cases hx
                  · cases hx
                · cases hx
            · cases hx
          · cases hx
      · cases hx
theorem ja_look_chk {own : String} {y : MethodName} {b : ByteArray} {ml : Nat} {ret : Option FieldType} {n : Nat} {stt : Bool} {cd : jx_C} {mw : List Nat} (hc : ja_chkC (own, y, b, ml, ret, n, stt, cd, mw) = true) {pc : Nat} {e : jx_I} (h : jx_look cd pc = some e) : ja_chk own b pc e = true := by
  unfold jx_look at h
  cases hg : jx_get cd (pc / 16) with
  | none => rw [hg] at h; cases h
  | some r =>
    rw [hg] at h
    have h1 : r ∈ cd := by rw [jx_get_eq] at hg; exact List.mem_of_getElem? hg
    have h2 := List.all_eq_true.mp hc r h1
    exact List.all_eq_true.mp h2 (pc, e) (jx_assoc_in h)
theorem ja_chk_spec {own : String} {b : ByteArray} {pc : Nat} {i : Instr} {nx a bb : Nat} {sw : List (Int32 × Nat)} {ws : List Nat} (h : ja_chk own b pc (i, nx, a, bb, sw, ws) = true) : nx = pc + ja_len i ∧ decode b pc = .ok (i, ja_len i) ∧ ja_chkO i pc a bb sw = true ∧ ∀ w ∈ ja_need own i a bb sw, w ∈ lw_tbl := by
  simp only [ja_chk, Bool.and_eq_true, decide_eq_true_eq] at h
  obtain ⟨⟨⟨h1, h2⟩, h3⟩, h4⟩ := h
  exact ⟨h2, h1, h3, jx_words_in h4⟩
theorem ja_chkH_spec {own : String} {y : MethodName} {b : ByteArray} {ml : Nat} {ret : Option FieldType} {n : Nat} {stt : Bool} {cd : jx_C} {mw : List Nat} (h : ja_chkH (own, y, b, ml, ret, n, stt, cd, mw) = true) : plainName y.cls = true ∧ own = y.cls ∧ y.name = "<init>" ∧ (y.cls ≠ "java/lang/invoke/MethodHandle" ∧ y.cls ≠ "java/lang/invoke/VarHandle" ∧ (parseMethodDescriptor y.desc).map (fun d => d.parameters.length) = some n) ∧ ml ≤ 20 ∧ ∀ w ∈ [Jvm.Cond.initialized y.cls, Jvm.Cond.code y b ml none, Jvm.Cond.instanceMethod y], w ∈ lw_tbl := by
  simp only [ja_chkH, Bool.and_eq_true, decide_eq_true_eq] at h
  obtain ⟨⟨⟨⟨⟨⟨⟨h1, h2⟩, h3⟩, h4⟩, h5⟩, h6⟩, h7⟩, h8⟩ := h
  exact ⟨h1, h2, h3, ⟨h4, h5, h6⟩, h7, jx_words_in h8⟩
theorem ja_len_eq {i : Instr} (h : ja_kind i = 0) : ja_len i = jx_len i := by
  cases i <;> first | rfl | cases h
theorem ja_kind0 {i : Instr} (h : ja_kind i = 0) : jx_kind i ≤ 3 ∨ jx_kind i = 5 := by
  cases i with
  | ifCond c o => cases c <;> cases h
  | _ => first | exact Or.inl (Nat.le_of_ble_eq_true rfl) | exact Or.inr rfl | cases h
/-- a constructor writes its own class's fields alone -/
def ja_ownE (own : String) (e : jx_I) : Bool := match e with
  | (.putfield _, _, a, _, _, _) => (match jx_get vwCl a with | some (C, _, _) => decide (C = own) | none => false)
  | _ => true
def ja_ownM (M : jx_M) : Bool := match M with
  | (own, _, _, _, _, _, _, c, _) => c.all (fun r => r.all (fun q => ja_ownE own q.2))
theorem ja_ownA : ja_ms.all ja_ownM = true := by decide +kernel
theorem ja_owns {k pc : Nat} {own : String} {y : MethodName} {b : ByteArray} {ml : Nat} {ret : Option FieldType} {n : Nat} {stt : Bool} {cd : jx_C} {mw : List Nat} (hm : ja_meth k = some (own, y, b, ml, ret, n, stt, cd, mw)) {e : jx_I} (h : jx_look cd pc = some e) : ja_ownE own e = true := by
  unfold jx_look at h
  cases hg : jx_get cd (pc / 16) with
  | none => rw [hg] at h; cases h
  | some r =>
    rw [hg] at h
    have h1 : r ∈ cd := by rw [jx_get_eq] at hg; exact List.mem_of_getElem? hg
    have h0 : (own, y, b, ml, ret, n, stt, cd, mw) ∈ ja_ms := by unfold ja_meth at hm; rw [jx_get_eq] at hm; exact List.mem_of_getElem? hm
    have h2 := List.all_eq_true.mp (List.all_eq_true.mp ja_ownA _ h0) r h1
    exact List.all_eq_true.mp h2 (pc, e) (jx_assoc_in h)
theorem ja_xw_app {cI cB : ClassId} {ad : Nat → Nat} {h : jx_H} {c : jx_E} : jx_xw cI cB ad (h ++ [c]) = jx_xw cI cB ad h ++ [(ad h.length, jx_xe cI cB ad c)] := by
  rw [jx_xw, jx_xw, List.mapIdx_append, List.mapIdx_cons, List.mapIdx_nil, Nat.zero_add]
theorem ja_rep (n : Nat) : (fun j => (List.replicate n (0 : Int32)).getD j 0) = fun _ => 0 := by
  funext j
  rw [List.getD_eq_getElem?_getD, List.getElem?_replicate]
  split <;> rfl
section ASND
variable {l : Launch} {dC : Nat → ClassId} {dI : Nat → Nat → Nat} {cI cB : ClassId} {KS : State → Prop} {B : Nat}
variable (l dC dI cI cB KS B) in
/-- the end of a constructor -/
def ja_Qc (h' : jx_H) : Array Value → State → Outcome → State → Prop := fun _ st oc t => (oc = .returned none ∧ va_P (dC, dI) vwCl (jx_xw cI cB (B + ·) h') t.heap ∧ va_K (dC, dI) vwCl (jx_ty cI cB) t ∧ t.heap.size = B + h'.length) ∧ va_F (B ≤ ·) st t
variable (l dC dI cI cB KS B) in
def ja_Pc (av : List Value) (h : jx_H) : Array Value → State → Prop := va_Pc (av.map (jx_xv (B + ·))) (fun U => va_P (dC, dI) vwCl (jx_xw cI cB (B + ·) h) U.heap ∧ va_K (dC, dI) vwCl (jx_ty cI cB) U ∧ KS U ∧ U.heap.size = B + h.length)
def ja_rm (d c n : Nat) : Room := { frames := d, cells := c, slots := n, locals := 40 * d }
section PUT
variable {p : Program} {e : Env} {R : Room} {s : State} {m : MethodId} {args : Array Value} {below : List Frame} {meth : Method} {c : Code} {H : Heap} {locs : List Loc} {cells slots : Nat} {Q : State → Prop}
variable {cc : ByteArray} {pc : Nat} {ls : Array Slot} {rest st0 : List Value} {D : va_G} {cl : List vw_C} {A : Nat → Prop} {a : Nat} {tys : List (ClassId × FieldType)} {ws : va_W} {H0 : Heap}
/-- a final field written, and the heap's size -/
theorem ja_putF (hexec : p.tables.exec = Jvm.exec) (hb : c.code = cc) {own ref C : String} {T : u_T} {N ci index : Nat} {Ts : List Cond} (hts : ∀ w ∈ Ts, w.before args s = true) (hin : ∀ w ∈ u_ws C T N, w ∈ Ts) (ty0 : Nat → FieldType) (hty : ∀ k, k < N → parseFieldDescriptor (T k).2.2.1 = some (ty0 k)) (hnm : ∀ a, a < N → ∀ b, b < N → a ≠ b → (T a).2.1 ≠ (T b).2.1) (hown : s.vm.findClass own = some m.cls) (hK : va_K D cl tys s) (hP : va_P D cl ws H) (hD : va_D A ws) (hS0 : va_S A H0 H locs) (q0 : Nat) {fs : List Value} (he : ws[q0]? = some (a, .inr (ci, fs))) (hc : cl[ci]? = some (C, T, N)) (k : Nat) (hk : k < N) (hlink : (Cond.fieldLink own index ref (T k).2.1 (T k).2.2.1).before args s = true) (hsame : ∀ x, s.fieldFound? (T k).1 (T k).2.1 (T k).2.2.1 = some x → s.fieldFound? ref (T k).2.1 (T k).2.2.1 = some x) (hfin : (T k).2.2.2 = true) (hin2 : meth.name = "<init>") (hdecl : (T k).1 = own) {ty : FieldType} {v : Value} (hd : parseFieldDescriptor (T k).2.2.1 = some ty) (hn : narrow ty v = v) (hfit : fits ty v = true) (hl : k < fs.length)
    (hdg : decode cc pc = .ok (.putfield index, 3)) (kk : ∀ (H1 : Heap) (locs1 : List Loc), va_P D cl (ws.set q0 (a, .inr (ci, fs.set k v))) H1 → va_S A H0 H1 locs1 → H1.size = H.size → W p l e R s m args below meth c H1 locs1 cells slots Q (F0 m (pc + 3) ls rest)) : W p l e R s m args below meth c H locs cells slots Q (F0 m pc ls (v :: .ref a :: rest)) := by
  have hap := va_apart (own := own) hts hin ty0 hty hnm hK hc
  obtain ⟨r, h1, cell, q1, q2, q3, q4⟩ := hP q0 _ he
  have hr : r = (C, T, N) := Option.some.inj (h1.symm.trans hc)
  subst hr
  obtain ⟨hS, hfc, kC, hkC, hkind⟩ := hK.1 ci _ hc
  obtain ⟨cf, kf, fi, f, hi, hsl⟩ := hS k hk
  have hlay := hts _ (hin _ (u_in_lay hk))
  unfold u_lay at hlay
  rw [if_pos hfin] at hlay
  have hst := (u_facts hfc hkC (u_lays hts hin hk) hi).1
  have hcf : m.cls = cf := by
    obtain ⟨_, _, c', _, _, _, -, -, hf', -, -, -, hown2, -⟩ := Cond.laysFinal_spec hlay
    have e1 : c' = cf := by have := hi.symm.trans hf'; simp at this; exact this.1.symm
    rw [hdecl] at hown2
    rw [← e1]; exact Option.some.inj (hown.symm.trans hown2)
  have h6 := u_fits hfc hkC hkind (Or.inr hlay) hi hd hn hfit
  refine W.putFinK hexec hb hown hlink (hsame _ hi) hst hcf hin2 (by rw [q2]; exact h6) q1 q3 (by rw [hsl]; exact k2_hasslot (q4 k hk)) rfl rfl hdg fun H' e1 e2 e3 => ?_
  rw [hsl] at e1 ⊢
  exact kk H' _ (hP.set hD he ⟨_, hc, t_OB.to (V := updV (vp_V fs) k v) ⟨_, e1, q2, q3, t_set q4 hap hk v⟩ (fun j _ => vp_updV_set hl v j)⟩ e3) (hS0.put e2 e3 (hD.2 q0 _ he)) e2
/-- behind a call that makes cells -/
theorem ja_callX {mc ms : Nat} {free : Addr → Prop} {Qa : State → Outcome → State → Prop} (hr : va_Run p l e R s m args below meth c H locs cells slots mc ms (F0 m pc ls st0) rest Qa free) (hS : va_S A H0 H locs) (hf : ∀ q, free q → A q)
    (hQ : ∀ st₀ v t, st₀.heap = H → Qa st₀ (.returned v) t → va_F A st₀ t)
    (kk : ∀ (v : Option Value) (st₀ t : State) (H1 : Heap) (locs1 : List Loc), st₀.heap = H → t.heap = H1 → s.vm.Alike t.vm → Qa st₀ (.returned v) t → va_S A H0 H1 locs1 → W p l e R s m args below meth c H1 locs1 (cells + mc) (slots + ms) Q (F0 m (pc + 3) ls (v.toList ++ rest))) : W p l e R s m args below meth c H locs cells slots Q (F0 m pc ls st0) := by
  intro T hT X
  obtain ⟨v, st₀, t, T', L, h0, X', hL, e1, e2, hq, st⟩ := hr T hT X
  have hF := hQ st₀ v t h0 hq
  obtain ⟨hz, hk⟩ := hF
  rw [h0] at hz hk
  obtain ⟨t2, a1, b1⟩ := kk v st₀ t T'.heap (locs ++ L) h0 e1.symm (by rw [← e2]; exact X'.warmed.alike) hq
    ⟨Nat.le_trans hS.1 (by rw [e1]; exact hz), fun q h1 h2 => by rw [e1, hk q (Nat.lt_of_lt_of_le h1 hS.1) h2]; exact hS.2.1 q h1 h2, fun q hq => by
      rcases List.mem_append.mp hq with h | h
      · exact hS.2.2 q h
      · exact hf _ (hL q h)⟩ T' rfl X'
  exact ⟨t2, st t2 a1, b1⟩
end PUT
theorem ja_D {N : Nat} {h : jx_H} (hN : h.length = N) : va_D (B ≤ ·) (jx_xw cI cB (B + ·) h) := jx_xw_D hN (fun i j _ _ (q : B + i = B + j) => by omega) (fun i _ => Nat.le_add_right B i)
theorem ja_sound (hKm : ∀ s U : State, KS s → s.WarmedH U.vm → va_F (B ≤ ·) s U → KS U) (hKb : ∀ (U : State) (g : JFrame) (mk : MethodId) (a : Array Value), KS U → KS (U.calling g mk a)) (hKn : ∀ s : State, KS s → ∀ (own : String) (ix : Nat) (y : MethodName), Cond.methodLinkNest own ix y RX6 ∈ lw_tbl → va_Nw (.methodLinkNest own ix y RX6) s) :
    ∀ (f d k pc : Nat) (ls : jx_L) (st : List Value) (h : jx_H) (c0 s0 : Nat) (h' : jx_H) (c1 s1 : Nat), ja_run f d k pc ls st h c0 s0 = some (h', c1, s1) → ∀ (own : String) (y : MethodName) (b : ByteArray) (ml : Nat) (ret : Option FieldType) (n : Nat) (stt : Bool) (cd : jx_C) (mw : List Nat), ja_meth k = some (own, y, b, ml, ret, n, stt, cd, mw) →
    ∀ {p : Program} {e : Env} {R : Room} {s : State} {m : MethodId} {args : Array Value} {below : List Frame} {meth : Method} {c : Code}, p.tables.exec = Jvm.exec → c.code = b → meth.sig.returnType = none → meth.name = "<init>" → c.maxLocals = ml → s.vm.findClass own = some m.cls → (∀ w ∈ jx_T y b ml none, w.before args s = true) → meth.locks = false → va_K (dC, dI) vwCl (jx_ty cI cB) s → KS s → B ≤ s.heap.size → d ≤ R.frames → 40 * d ≤ R.locals → c1 ≤ R.cells → s1 ≤ R.slots →
    ∀ (H : Heap) (locs : List Loc) (la : Array Slot), H.size = B + h.length → va_P (dC, dI) vwCl (jx_xw cI cB (B + ·) h) H → va_S (B ≤ ·) s.heap H locs → jx_rel (B + ·) ml ls la → W p l e R s m args below meth c H locs c0 s0 (MQ below (ja_Qc dC dI cI cB B h') args s c1 s1 (B ≤ ·)) (F0 m pc la (st.map (jx_xv (B + ·)))) := by
  intro f
  induction f with
  | zero => intro d k pc ls st h c0 s0 h' c1 s1 hx; simp [ja_run] at hx
  | succ f ih =>
    intro d k pc ls st h c0 s0 h' c1 s1 hx own y b ml ret n stt cd mw hm p e R s m args below meth c g1 g2 g3 gn g4 g5 hts g7 hK hKS hB hd1 hd2 hc1 hs1 H locs la hsz hP hS hrel
    unfold ja_run at hx
    have hcd : ja_code k = cd := by unfold ja_code; rw [hm]
    rw [hcd] at hx
    cases hlk : jx_look cd pc with
    | none => rw [hlk] at hx; cases hx
    | some en =>
      obtain ⟨i, nx, a, bb, sw, ws⟩ := en
      rw [hlk] at hx
      dsimp only at hx
      obtain ⟨c1', c2, c3, c4⟩ := ja_chk_spec (ja_look_chk (jqa_of hm).2 hlk)
      have hgood : ∀ w ∈ lw_tbl, goodWord w = true → w ∈ jx_T y b ml none := fun w hw hg => jx_in hw hg
      have cw : ∀ w, w ∈ lw_tbl → goodWord w = true → w.before args s = true := fun w hw hg => hts w (hgood w hw hg)
      have go : ∀ {d : Nat} (h2 : jx_H) (H1 : Heap) (locs1 : List Loc) (la1 : Array Slot) (pc2 : Nat) (ls2 : jx_L) (st2 : List Value) (c2 s2 : Nat), ja_run f d k pc2 ls2 st2 h2 c2 s2 = some (h', c1, s1) → d ≤ R.frames → 40 * d ≤ R.locals → H1.size = B + h2.length → va_P (dC, dI) vwCl (jx_xw cI cB (B + ·) h2) H1 → va_S (B ≤ ·) s.heap H1 locs1 → jx_rel (B + ·) ml ls2 la1 → W p l e R s m args below meth c H1 locs1 c2 s2 (MQ below (ja_Qc dC dI cI cB B h') args s c1 s1 (B ≤ ·)) (F0 m pc2 la1 (st2.map (jx_xv (B + ·)))) := fun {d} h2 H1 locs1 la1 pc2 ls2 st2 c2 s2 z z1 z2 w0 w1 w2 w3 => ih d k pc2 ls2 st2 h2 c2 s2 h' c1 s1 z own y b ml ret n stt cd mw hm g1 g2 g3 gn g4 g5 hts g7 hK hKS hB z1 z2 hc1 hs1 H1 locs1 la1 w0 w1 w2 w3
      split at hx
      · rename_i hkd
        split at hx
        · rename_i nx' ls' st' h2 hn
          rw [ja_len_eq hkd] at c1' c2
          have c3' : jx_chkO i none pc a bb sw = true := by cases i <;> first | exact c3 | cases hkd
          have c4' : ∀ w ∈ jx_need own i a bb sw, w ∈ lw_tbl := by cases i <;> first | exact c4 | cases hkd
          unfold jx_next at hn
          split at hn
          · split at hn
            · rename_i hp
              cases hn
              subst c1'
              exact jx_s_pure g1 g2 g5 cw c2 c3' c4' hp trivial (go _ _ _ _ _ _ _ _ _ hx hd1 hd2 hsz hP hS hrel)
            · cases hn
          · split at hn
            · rename_i hp
              cases hn
              subst c1'
              exact jx_s_load g1 g2 c2 hrel hp (go _ _ _ _ _ _ _ _ _ hx hd1 hd2 hsz hP hS hrel)
            · cases hn
          · obtain ⟨rfl, rfl, hst⟩ := jx_s_store (Q := MQ below (ja_Qc dC dI cI cB B h') args s c1 s1 (B ≤ ·)) (cells := c0) (slots := s0) (p := p) (l := l) (e := e) (R := R) (s := s) (m := m) (args := args) (below := below) (meth := meth) (H := H) (locs := locs) g1 g2 c2 c3' hrel hn
            refine hst (fun la' hrel' => ?_)
            rw [← c1']
            exact go _ _ _ _ _ _ _ _ _ hx hd1 hd2 hsz hP hS hrel'
          · split at hn
            · rename_i hp
              cases hn
              subst c1'
              exact jx_s_read g1 g2 g5 hts hgood hK hP c2 c3' c4' hp trivial (go _ _ _ _ _ _ _ _ _ hx hd1 hd2 hsz hP hS hrel)
            · cases hn
          · rename_i h4
            rcases ja_kind0 hkd with z | z <;> omega
          · rename_i h5
            cases hn
            cases i with
            | goto off => exact lv_goto g1 g2 c2 (by simpa [jx_chkO] using c3') (go _ _ _ _ _ _ _ _ _ hx hd1 hd2 hsz hP hS hrel)
            | _ => simp [jx_kind] at h5
          · rename_i h4
            rcases ja_kind0 hkd with z | z <;> omega
          · rename_i h4
            rcases ja_kind0 hkd with z | z <;> omega
          · cases hn
        · cases hx
      · rename_i hkd
        split at hx
        · cases hx
          cases i with
          | return_ => exact W.vret g1 g2 g3 (fun t ht hW => ⟨⟨rfl, by rw [ht]; exact hP, va_K.moved hW.alike hK, by rw [ht]; exact hsz⟩, hS.F ht⟩) hS.2.2 c2 g7
          | ifCond cd2 off => cases cd2 <;> cases hkd
          | _ => cases hkd
        · cases hx
      · rename_i hkd
        have hi : ∃ off, i = .ifCond .le off := by
          cases i with
          | ifCond cd2 off => cases cd2 <;> first | exact ⟨_, rfl⟩ | cases hkd
          | _ => cases hkd
        obtain ⟨off, rfl⟩ := hi
        split at hx
        · rename_i x r
          have ht : (pc : Int) + off = (a : Int) := by simpa [ja_chkO, jx_chkO] using c3
          have hnx : nx = pc + 3 := c1'
          subst hnx
          refine lv_if_le g1 g2 c2 ht (fun z => ?_) (fun z => ?_)
          · rw [if_pos z] at hx
            exact go _ _ _ _ _ _ _ _ _ hx hd1 hd2 hsz hP hS hrel
          · rw [if_neg z] at hx
            exact go _ _ _ _ _ _ _ _ _ hx hd1 hd2 hsz hP hS hrel
        · cases hx
      · rename_i hkd
        cases i with
        | new ix =>
          simp only [ja_chkO] at c3
          simp only [ja_need] at c4
          cases hC : jx_get vwCl a with
          | none => rw [hC] at c3; cases c3
          | some C0 =>
            obtain ⟨C, T, N⟩ := C0
            rw [hC] at c3 c4
            have hN : N = ja_size a := by simpa using c3
            obtain ⟨hlay, -, hnm, hcls⟩ := ji_all hC
            obtain ⟨ty, hty, hdef⟩ := ja_defs hC
            have hKn := hK.1 a _ (jx_vw hC)
            have hmn := ja_mono hx
            have hnx : nx = pc + 3 := c1'
            subst hnx
            refine W.newcK (n := N) g1 g2 g5 (cw _ (c4 _ List.mem_cons_self) rfl) (cw _ (c4 _ (List.mem_cons_of_mem _ List.mem_cons_self)) rfl) (cw _ (c4 _ (List.mem_cons_of_mem _ (List.mem_cons_of_mem _ List.mem_cons_self))) rfl) rfl c2 (by omega) (by rw [hN]; omega) hKn.2.1 hsz fun H1 kC hkC e1 z1 o1 => ?_
            have hk : ∀ (k : Nat) (x : Nat × va_E), (jx_xw cI cB (B + ·) h)[k]? = some x → H1[x.1]? = H[x.1]? := fun k x hx2 => o1 x.1 (by have := (hP k x hx2).lt; omega)
            rw [hN]
            refine go (st2 := .ref h.length :: st) _ _ _ _ _ _ _ _ hx hd1 hd2 (by rw [List.length_append]; exact z1) ?_ ⟨Nat.le_trans hS.1 (by omega), fun x h1 h2 => (o1 x (by have := hS.1; omega)).trans (hS.2.1 x h1 h2), hS.2.2⟩ hrel
            rw [ja_xw_app]
            refine (hP.kept hk).app (fun k x hx2 => ?_)
            have hz : k < 1 := (List.getElem?_eq_some_iff.mp hx2).1
            rw [show k = 0 by omega] at hx2
            cases hx2
            refine ⟨_, jx_vw hC, ?_⟩
            show t_OB (B + h.length) (dC a) N (dI a) H1 (vp_V ((ja_def a).map (jx_xv (B + ·))))
            rw [ja_def_ref]
            exact (u_born ty hts (fun w hw => hgood w (hlay w hw) (jx_lay_good w hw)) hKn hkC e1 hty).to hdef
        | ifCond cd2 off => cases cd2 <;> cases hkd
        | _ => cases hkd
      · rename_i hkd
        cases i with
        | newarray t =>
          split at hx
          · rename_i x r
            cases hz : decide (¬ x < 0) && Nat.ble x.toNatClampNeg 1000 with
            | false => rw [hz] at hx; cases hx
            | true =>
              rw [hz] at hx
              dsimp only [cond_true] at hx
              simp only [Bool.and_eq_true, decide_eq_true_eq] at hz
              have hle : x.toNatClampNeg ≤ 1000 := Nat.le_of_ble_eq_true hz.2
              have hmn := ja_mono hx
              have hnx : nx = pc + 2 := c1'
              subst hnx
              simp only [ja_chkO, Bool.or_eq_true, Bool.and_eq_true, decide_eq_true_eq] at c3
              have ht : (a = 0 ∧ t = .int) ∨ (a = 1 ∧ t = .byte) := c3
              have hcb : x.toNatClampNeg * componentBytes (newarray.typeOf t) ≤ 536870912 := by
                rcases ht with ⟨-, rfl⟩ | ⟨-, rfl⟩
                · show x.toNatClampNeg * 4 ≤ _; omega
                · show x.toNatClampNeg * 1 ≤ _; omega
              refine va_newaK g1 g2 (cw _ (c4 _ List.mem_cons_self) rfl) rfl c2 rfl hz.1 rfl hcb (by omega) (by omega) hsz fun H1 cA e1 z1 o1 hAr hNm => ?_
              have hk : ∀ (k : Nat) (x : Nat × va_E), (jx_xw cI cB (B + ·) h)[k]? = some x → H1[x.1]? = H[x.1]? := fun k x hx2 => o1 x.1 (by have := (hP k x hx2).lt; omega)
              refine go (st2 := .ref h.length :: r) _ _ _ _ _ _ _ _ hx hd1 hd2 (by rw [List.length_append]; exact z1) ?_ ⟨Nat.le_trans hS.1 (by omega), fun x h1 h2 => (o1 x (by have := hS.1; omega)).trans (hS.2.1 x h1 h2), hS.2.2⟩ hrel
              rw [ja_xw_app]
              refine (hP.kept hk).app (fun k q hx2 => ?_)
              have hz2 : k < 1 := (List.getElem?_eq_some_iff.mp hx2).1
              rw [show k = 0 by omega] at hx2
              cases hx2
              show H1[B + h.length]? = some (vp_cell _ _)
              rw [e1]
              dsimp only [jx_xe]
              rw [ja_rep, List.length_replicate, vp_cell_i]
              rcases ht with ⟨rfl, rfl⟩ | ⟨rfl, rfl⟩
              · have h2 := (hK.2 0 _ rfl).2
                have h3 : s.vm.findClass ("[" ++ FieldType.int.toString) = some cI := h2
                have h4 : cA = cI := Option.some.inj (hNm.symm.trans h3)
                rw [h4]; rfl
              · have h2 := (hK.2 1 _ rfl).2
                have h3 : s.vm.findClass ("[" ++ FieldType.byte.toString) = some cB := h2
                have h4 : cA = cB := Option.some.inj (hNm.symm.trans h3)
                rw [h4]; rfl
          · cases hx
        | ifCond cd2 off => cases cd2 <;> cases hkd
        | _ => cases hkd
      · rename_i hkd
        cases i with
        | putfield ix =>
          split at hx
          · rename_i v q r
            split at hx
            · rename_i ci fs hg
              cases hc : Nat.beq ci a && Nat.blt bb fs.length with
              | false => rw [hc] at hx; cases hx
              | true =>
                rw [hc] at hx
                dsimp only [cond_true] at hx
                rw [Bool.and_eq_true] at hc
                have hca := jx_beq hc.1
                have hbl : bb < fs.length := Nat.le_of_ble_eq_true hc.2
                subst hca
                simp only [ja_chkO] at c3
                have c4' : ∀ w ∈ jx_need own (.putfield ix) ci bb sw, w ∈ lw_tbl := c4
                simp only [jx_need] at c4'
                cases hC : jx_get vwCl ci with
                | none => rw [hC] at c3; cases c3
                | some C0 =>
                  obtain ⟨C, T, nn⟩ := C0
                  rw [hC] at c3 c4'
                  obtain ⟨hlay, ⟨ty, hty⟩, hnm, hcls⟩ := ji_all hC
                  simp only [Bool.and_eq_true, decide_eq_true_eq] at c3
                  obtain ⟨⟨hbn, hfin⟩, hpar⟩ := c3
                  have hpar' : ∃ fty, parseFieldDescriptor (T bb).2.2.1 = some fty ∧ narrow fty (.ref (B + v)) = .ref (B + v) ∧ fits fty (.ref (B + v)) = true := by
                    revert hpar
                    cases parseFieldDescriptor (T bb).2.2.1 with
                    | none => intro hpar; cases hpar
                    | some fty =>
                      intro hpar
                      cases fty <;> first | exact ⟨_, rfl, rfl, rfl⟩ | cases hpar
                  obtain ⟨fty, hp1, hp2, hp3⟩ := hpar'
                  have hnx : nx = pc + 3 := c1'
                  subst hnx
                  refine ja_putF (A := (B ≤ ·)) g1 g2 hts (fun w hw => hgood w (hlay w hw) (jx_lay_good w hw)) ty hty hnm g5 hK hP (ja_D rfl) hS q (jx_xw_get hg) (jx_vw hC) bb hbn (cw _ (c4' _ List.mem_cons_self) rfl) (fun _ z => z) hfin gn ?_ hp1 hp2 hp3 (by rw [List.length_map]; exact hbl) c2 (fun H1 locs1 hP1 hS1 hz1 => go _ _ _ _ _ _ _ _ _ hx hd1 hd2 (by rw [hz1, hsz, List.length_set]) ?_ hS1 hrel)
                  · rw [hcls]; have h0 := ja_owns hm hlk; simp only [ja_ownE, hC, decide_eq_true_eq] at h0; exact h0
                  · have e : (jx_xw cI cB (B + ·) h).set q (B + q, .inr (ci, (fs.map (jx_xv (B + ·))).set bb (.ref (B + v)))) = jx_xw cI cB (B + ·) (h.set q (.inr (ci, fs.set bb (.ref v)))) := by
                      rw [← jx_xw_set, jx_xe, List.map_set]; rfl
                    rw [← e]; exact hP1
            · cases hx
          · cases hx
        | ifCond cd2 off => cases cd2 <;> cases hkd
        | _ => cases hkd
      · rename_i hkd
        cases i with
        | invokespecial ix =>
          have hnx : nx = pc + 3 := c1'
          subst hnx
          cases ha : Nat.beq a 9999 with
          | true =>
            rw [ha] at hx
            dsimp only [cond_true] at hx
            simp only [ja_need, ha, cond_true] at c4
            split at hx
            · rename_i d' q r
              cases hz : Nat.ble (jx_cats r) 8 with
              | false => rw [hz] at hx; cases hx
              | true =>
                rw [hz] at hx
                dsimp only [cond_true] at hx
                have h8 := Nat.le_of_ble_eq_true hz
                have hroom := lv_room (m := m) (pc := pc) (ls := la) (rest := ((Value.ref q :: r).map (jx_xv (B + ·)))) (st := r.map (jx_xv (B + ·))) (by rw [jx_cats_x]; exact h8)
                exact W.objInit g1 g2 g5 (cw _ (c4 _ List.mem_cons_self) rfl) (cw _ (c4 _ (List.mem_cons_of_mem _ List.mem_cons_self)) rfl) (cw _ (c4 _ (List.mem_cons_of_mem _ (List.mem_cons_of_mem _ List.mem_cons_self))) rfl) rfl (by rw [g4]; exact hrel.2.choose_spec.1.1) rfl c2 (by omega) (by omega) (go _ _ _ _ _ _ _ _ _ hx hd1 hd2 hsz hP hS hrel)
            · cases hx
          | false =>
            rw [ha] at hx
            dsimp only [cond_false] at hx
            simp only [ja_need, ha, cond_false] at c4
            cases hma : ja_meth a with
            | none => rw [hma] at hx; cases hx
            | some M2 =>
              obtain ⟨own2, y2, b2, ml2, ret2, n2, stt2, cd2, mw2⟩ := M2
              rw [hma] at hx c4
              dsimp only at hx
              obtain ⟨q1, q2, qn, q3, q4, q5⟩ := ja_chkH_spec (jqa_of hma).1
              cases hpop : jx_pop n2 [] st with
              | none => rw [hpop] at hx; cases hx
              | some ar =>
                obtain ⟨as, r0⟩ := ar
                rw [hpop] at hx
                obtain ⟨xs, p1, p2, p3⟩ := jx_pop_spec hpop
                rw [List.append_nil] at p3
                split at hx
                · rename_i as' q r hr0
                  cases hr0
                  cases hz : Nat.ble (jx_cats r) 8 with
                  | false => rw [hz] at hx; cases hx
                  | true =>
                    rw [hz] at hx
                    dsimp only [cond_true] at hx
                    split at hx
                    · rename_i d1
                      split at hx
                      · rename_i l2 hargs
                        split at hx
                        · rename_i h1 c1a s1a hrun
                          have hmn := ja_mono hx
                          obtain ⟨l3, e1, e2, e3, e4⟩ := jx_args_spec hargs
                          cases e1
                          have hM : Met l y2 (jx_T y2 b2 ml2 none) (ja_rm d1 c1a s1a) (ja_Pc dC dI cI cB KS B (.ref q :: as) h) (ja_Qc dC dI cI cB B h1) c1a s1a (B ≤ ·) := by
                            refine Met.ofW (cc := b2) (maxL := ml2) (ret := none) q1 rfl ?_
                            intro p e s m args below meth c s₁ Bd hmlc hv
                            obtain ⟨rfl, hP2, hK2, hKS2, hsz2⟩ := hv
                            have hts2 := atoms_spec (ws := jx_T y2 b2 ml2 none) Bd.pre
                            have hown2 : s.vm.findClass own2 = some m.cls := by rw [q2]; exact findClass_of_methodNamed Bd.named
                            have hl := lv_entry ((Value.ref q :: as).map (jx_xv (B + ·))) (n := ml2) (by rw [lg_sl_map]; exact e3)
                            rw [lg_entry_eq]
                            exact ih d1 a 0 l2 [] h 0 0 h1 c1a s1a hrun own2 y2 b2 ml2 ret2 n2 stt2 cd2 mw2 hma Bd.exec Bd.bytes Bd.returns ((name_of_methodNamed Bd.named Bd.method).1.trans qn) hmlc hown2 hts2 Bd.notSynchronized hK2 hKS2 (by omega) (Nat.le_refl _) (Nat.le_refl _) (Nat.le_refl _) (Nat.le_refl _) s.heap [] _ hsz2 hP2 va_S.rf ⟨e2, _, hl, fun i w hg => lv_args_map _ _ 0 i w (by have := e4 0 i w hg; rwa [Nat.zero_add] at this)⟩
                          have hcode2 : Cond.code y2 b2 ml2 none ∈ lw_tbl := q5 _ (by simp)
                          have hini : Cond.initialized y2.cls ∈ lw_tbl := q5 _ (by simp)
                          have hins : Cond.instanceMethod y2 ∈ lw_tbl := q5 _ (by simp)
                          have hG : GoodIn (jx_T y b ml none) (jx_T y2 b2 ml2 none) := jx_goodIn hcode2
                          have hR : (ja_rm d1 c1a s1a).frames + 1 ≤ R.frames ∧ 8 + (ml2 + 11) + (ja_rm d1 c1a s1a).locals ≤ R.locals := ⟨by show d1 + 1 ≤ _; omega, by show 8 + (ml2 + 11) + 40 * d1 ≤ _; omega⟩
                          have hpre : ∀ av : List Value, PreS s H (ja_Pc dC dI cI cB KS B av h) (av.map (jx_xv (B + ·))) := fun av => ⟨fun a U g mk z => ⟨z.1, z.2.1, va_K.moved (u := U) (U := U.calling g mk a) (Vm.Alike.refl U.vm) z.2.2.1, hKb U g mk a z.2.2.2.1, z.2.2.2.2⟩, fun U hU hW => ⟨rfl, by rw [hU]; exact hP, va_K.moved hW.alike hK, hKm s U hKS hW (hS.F hU), by rw [hU]; exact hsz⟩⟩
                          have hst : st.map (jx_xv (B + ·)) = (as.map (jx_xv (B + ·))).reverse ++ .ref (B + q) :: r.map (jx_xv (B + ·)) := by
                            rw [p1, p3, List.map_append, ← List.map_reverse, List.reverse_reverse]; rfl
                          have hlsz : la.size = ml := hrel.2.choose_spec.1.1
                          have hrun2 : va_Run p l e R s m args below meth c H locs c0 s0 c1a s1a (F0 m pc la (st.map (jx_xv (B + ·)))) (r.map (jx_xv (B + ·))) (ja_Qc dC dI cI cB B h1 (Value.ref (B + q) :: as.map (jx_xv (B + ·))).toArray) (B ≤ ·) := by
                            cases hbb : Nat.beq bb 0 with
                            | true =>
                              rw [hbb] at c4
                              exact va_runI ⟨g1, g2, g4, g5, hts⟩ hM ⟨callB_of n2 hts hG rfl rfl rfl (cw _ hini rfl) (cw _ (c4 _ List.mem_cons_self) rfl) q3 hR, qn, cw _ hins rfl⟩ (hpre (.ref q :: as)) rfl (by rw [List.length_map, p3, List.length_reverse, p2]) hlsz hst (lv_room (by rw [jx_cats_x]; exact Nat.le_of_ble_eq_true hz)) c2 ⟨by omega, by omega⟩
                            | false =>
                              rw [hbb] at c4
                              exact va_runIN (host := RX6) ⟨g1, g2, g4, g5, hts⟩ hM ⟨⟨⟨rfl, rfl, hR.1, hR.2, pay_in hts hG, List.mem_cons_self⟩, cw _ hcode2 rfl, cw _ hini rfl, ⟨q3.1, q3.2.1⟩, (fun sig hs => by have z := q3.2.2; rw [hs] at z; exact (Option.some.inj z).symm), va_Nw.use rfl (hKn s hKS own ix y2 (c4 _ List.mem_cons_self))⟩, qn, cw _ hins rfl⟩ (hpre (.ref q :: as)) rfl (by rw [List.length_map, p3, List.length_reverse, p2]) hlsz hst (lv_room (by rw [jx_cats_x]; exact Nat.le_of_ble_eq_true hz)) c2 ⟨by omega, by omega⟩
                          refine ja_callX hrun2 hS (fun q z => z) (fun st₀ v t _ z => z.2) (fun v st₀ t H1 locs1 w0 w1 w2 w3 w4 => ?_)
                          obtain ⟨⟨z1, z2, z3, z4⟩, -⟩ := w3
                          cases z1
                          exact go _ _ _ _ _ _ _ _ _ hx hd1 hd2 (by rw [← w1]; exact z4) (by rw [← w1]; exact z2) w4 hrel
                        · cases hx
                      · cases hx
                    · cases hx
                · cases hx
        | ifCond cd2 off => cases cd2 <;> cases hkd
        | _ => cases hkd
      · cases hx
end ASND
