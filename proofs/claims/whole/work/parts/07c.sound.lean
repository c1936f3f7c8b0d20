/-! every rule of the small machine holds of that meaning: so a run of it gives a contract -/
section SND3
variable {l : Launch} {dC : Nat → ClassId} {dI : Nat → Nat → Nat} {cI cB : ClassId} {KS : State → Prop} {ad : Nat → Nat} {N : Nat} {A : Nat → Prop}
theorem jx_sw_lkp {x : Int32} {pc d : Nat} {dd : Int} (hd : (pc : Int) + dd = (d : Int)) {P : Nat → Prop} {X : Prop} : ∀ {ps : List (Int × Int)} {sw : List (Int32 × Nat)}, jx_lkp pc ps sw = true → jx_sw P x d sw → (∀ off (t : Nat), Op.lookupswitch.offset ps dd x.toInt = off → (pc : Int) + off = (t : Int) → P t → X) → X
  | [], [], _, h, k => k dd d (by simp [Op.lookupswitch.offset]) hd h
  | (key, o) :: os, (y, t) :: r, hl, h, k => by
    simp only [jx_lkp, Bool.and_eq_true, decide_eq_true_eq] at hl
    obtain ⟨⟨h1, h2⟩, h3⟩ := hl
    by_cases hxy : x = y
    · exact k o t (by rw [Op.lookupswitch.offset_cons, if_pos (by rw [hxy, h1])]) h2 (h.1 hxy)
    · refine jx_sw_lkp hd h3 (h.2 hxy) (fun off t2 e1 e2 e3 => k off t2 ?_ e2 e3)
      rw [lv_osw hxy h1]; exact e1
  | [], _ :: _, hl, _, _ => by cases hl
  | (_, _) :: _, [], hl, _, _ => by cases hl
theorem jx_sw_tab {x : Int32} {pc d : Nat} {P : Nat → Prop} {X : Prop} : ∀ {os : List Int} {lo : Int} {sw : List (Int32 × Nat)}, jx_tab pc lo os sw = true → jx_sw P x d sw → ((x.toInt < lo ∨ lo + os.length ≤ x.toInt) → P d → X) → (∀ off (t : Nat), lo ≤ x.toInt → os[(x.toInt - lo).toNat]? = some off → (pc : Int) + off = (t : Int) → P t → X) → X
  | [], lo, [], _, h, kd, _ => kd (by simp; omega) h
  | o :: os, lo, (y, t) :: r, hl, h, kd, kt => by
    simp only [jx_tab, Bool.and_eq_true, decide_eq_true_eq] at hl
    obtain ⟨⟨h1, h2⟩, h3⟩ := hl
    by_cases hxy : x = y
    · exact kt o t (by rw [hxy, h1]; omega) (by rw [hxy, h1]; simp) h2 (h.1 hxy)
    · have hne : ¬ x.toInt = lo := lv_neT hxy h1
      refine jx_sw_tab h3 (h.2 hxy) (fun z q => kd ?_ q) (fun off t2 e0 e1 e2 e3 => kt off t2 (by omega) ?_ e2 e3)
      · simp only [List.length_cons]; omega
      · rw [show (x.toInt - lo).toNat = (x.toInt - (lo + 1)).toNat + 1 by omega, List.getElem?_cons_succ]; exact e1
  | [], _, _ :: _, hl, _, _, _ => by cases hl
  | _ :: _, _, [], hl, _, _, _ => by cases hl
theorem jx_cls_K {s : State} (hK : va_K (dC, dI) vwCl (jx_ty cI cB) s) : va_K (dC, dI) vwCl (jx_ty cI cB) s := hK
end SND3
section CALL
variable {p : Program} {l : Launch} {e : Env} {R : Room} {s : State} {m : MethodId} {args : Array Value} {below : List Frame} {meth : Method} {c : Code} {H : Heap} {locs : List Loc} {cells slots : Nat} {Q : State → Prop}
variable {pc : Nat} {la : Array Slot} {rest st0 : List Value} {a : Array Value} {A0 : Nat → Prop} {H0 : Heap} {free : Addr → Prop}
/-- behind a call: what the callee says of its end -/
theorem jx_callX {Qa : State → Outcome → State → Prop} (hr : va_Run p l e R s m args below meth c H locs 0 0 0 0 (F0 m pc la st0) rest Qa free) (hS : va_S A0 H0 H locs) (hf : ∀ q, free q → A0 q)
    (hQ : ∀ st₀ v t, st₀.heap = H → Qa st₀ (.returned v) t → va_F A0 st₀ t)
    (kk : ∀ (v : Option Value) (st₀ t : State) (H1 : Heap) (locs1 : List Loc), st₀.heap = H → t.heap = H1 → s.vm.Alike t.vm → Qa st₀ (.returned v) t → va_S A0 H0 H1 locs1 → W p l e R s m args below meth c H1 locs1 0 0 Q (F0 m (pc + 3) la (v.toList ++ rest))) : W p l e R s m args below meth c H locs 0 0 Q (F0 m pc la st0) := by
  intro T hT X
  obtain ⟨v, st₀, t, T', L, h0, X', hL, e1, e2, hq, st⟩ := hr T hT X
  have hF := hQ st₀ v t h0 hq
  obtain ⟨hz, hk⟩ := hF
  rw [h0] at hz hk
  obtain ⟨t2, a1, b1⟩ := kk v st₀ t T'.heap (locs ++ L) h0 e1.symm (by rw [← e2]; exact X'.warmed.alike) hq
    ⟨Nat.le_trans hS.1 (by rw [e1]; exact hz), fun q h1 h2 => by rw [e1, hk q (Nat.lt_of_lt_of_le h1 hS.1) h2]; exact hS.2.1 q h1 h2, fun q hq => by
      rcases List.mem_append.mp hq with h | h
      · exact hS.2.2 q h
      · exact hf _ (hL q h)⟩ T' rfl X'
  exact ⟨t2, st t2 a1, b1⟩
end CALL
section MAIN
variable {l : Launch} {dC : Nat → ClassId} {dI : Nat → Nat → Nat} {cI cB : ClassId} {KS : State → Prop} {ad : Nat → Nat} {N : Nat} {A : Nat → Prop}
/-- the contract that a method's own start gives -/
theorem jx_contract (hq : ∀ k M, jx_meth k = some M → jx_chkH M = true ∧ jx_chkC M = true) {k : Nat} {own : String} {y : MethodName} {b : ByteArray} {ml : Nat} {ret : Option FieldType} {n : Nat} {stt : Bool} {cd : jx_C} {mw : List Nat} (hm : jx_meth k = some (own, y, b, ml, ret, n, stt, cd, mw)) {d : Nat} {av : List Value} {h : jx_H} {Q : jx_Q} {ls : jx_L} (hl1 : ls.length = ml) (hl2 : (lg_sl av).length ≤ ml) (hl3 : ∀ (i : Nat) (w : Value), jx_get ls i = some (some w) → (i, w) ∈ lv_args 0 av) (hN : h.length = N) (hsem : jx_Sem l dC dI cI cB KS ad N A d k 0 ls [] h Q) :
    Met l y (jx_T y b ml ret) (jx_rm d) (jx_Pc dC dI cI cB KS ad av h) (jx_Qc dC dI cI cB ad N A Q) 0 0 A := by
  obtain ⟨hp, hown, hy, hml, hw⟩ := jx_chkH_spec (hq k _ hm).1
  refine Met.ofW (cc := b) (maxL := ml) (ret := ret) hp rfl ?_
  intro p e s m args below meth c s₁ B hmlc hv
  obtain ⟨rfl, hP, hK, hKS⟩ := hv
  have hts := atoms_spec (ws := jx_T y b ml ret) B.pre
  have hown2 : s.vm.findClass own = some m.cls := by rw [hown]; exact findClass_of_methodNamed B.named
  have hl := lv_entry (av.map (jx_xv ad)) (n := ml) (by rw [lg_sl_map]; exact hl2)
  rw [lg_entry_eq]
  exact hsem hN own y b ml ret n stt cd mw hm B.exec B.bytes B.returns hmlc hown2 hts B.notSynchronized hK hKS (Nat.le_refl _) (Nat.le_refl _) s.heap [] _ hP va_S.rf ⟨hl1, _, hl, fun i w hg => lv_args_map ad av 0 i w (hl3 i w hg)⟩
theorem jx_sound (hq : ∀ k M, jx_meth k = some M → jx_chkH M = true ∧ jx_chkC M = true) (hinj : ∀ i j, i < N → j < N → ad i = ad j → i = j) (hA : ∀ i, i < N → A (ad i))
    (hKm : ∀ s U : State, KS s → s.WarmedH U.vm → va_F A s U → KS U) (hKb : ∀ (U : State) (g : JFrame) (mk : MethodId) (a : Array Value), KS U → KS (U.calling g mk a)) (hKn : ∀ s : State, KS s → ∀ (own : String) (ix : Nat) (y : MethodName), Cond.methodLinkNest own ix y RX6 ∈ lw_tbl → va_Nw (.methodLinkNest own ix y RX6) s)
    (hkind : ∀ d x h Q, 8 ≤ d → Q (some (.int (jx_kindOf x))) h → jx_Sem l dC dI cI cB KS ad N A d jk_X6_kindOf 0 [some (.int x)] [] h Q) : jx_closed (jx_Sem l dC dI cI cB KS ad N A) := by
  refine ⟨?_, ?_, ?_, ?_, ?_, hkind⟩
  · -- a step
    intro d k pc ls st h Q o pc' ls' st' h' hd0 hx ho ih hN own y b ml ret n stt cd mw hm p e R s m args below meth c g1 g2 g3 g4 g5 hts g7 hK hKS hd1 hd2 H locs la hP hS hrel
    rw [jx_code_of hm] at hx
    unfold jx_one at hx
    cases hlk : jx_look cd pc with
    | none => rw [hlk] at hx; cases hx
    | some en =>
      obtain ⟨i, nx, a, bb, sw, ws⟩ := en
      rw [hlk] at hx
      dsimp only at hx
      obtain ⟨c1, ⟨len, c2⟩, c3, c4⟩ := jx_chk_spec (jx_look_chk (hq k _ hm).2 hlk)
      have go : ∀ (h2 : jx_H) (H1 : Heap) (locs1 : List Loc) (la1 : Array Slot) (pc2 : Nat) (ls2 : jx_L) (st2 : List Value), jx_Sem l dC dI cI cB KS ad N A d k pc2 ls2 st2 h2 Q → h2.length = N → va_P (dC, dI) vwCl (jx_xw cI cB ad h2) H1 → va_S A s.heap H1 locs1 → jx_rel ad ml ls2 la1 → W p l e R s m args below meth c H1 locs1 0 0 (MQ below (jx_Qc dC dI cI cB ad N A Q) args s 0 0 A) (F0 m pc2 la1 (st2.map (jx_xv ad))) := fun h2 H1 locs1 la1 pc2 ls2 st2 z hN2 w1 w2 w3 => z hN2 own y b ml ret n stt cd mw hm g1 g2 g3 g4 g5 hts g7 hK hKS hd1 hd2 H1 locs1 la1 w1 w2 w3
      have hgood : ∀ w ∈ lw_tbl, goodWord w = true → w ∈ jx_T y b ml ret := fun w hw hg => jx_in hw hg
      unfold jx_next at hx
      have hk : jx_isSw i = false := by
        cases i <;> first | rfl | (simp only [jx_kind] at hx; cases hx)
      obtain ⟨hnx, hdec⟩ := c1 hk
      split at hx
      · split at hx
        · rename_i hp
          cases hx
          subst hnx
          exact jx_s_pure g1 g2 g5 (fun w hw hg => hts w (hgood w hw hg)) hdec c3 c4 hp ho (go _ _ _ _ _ _ _ ih hN hP hS hrel)
        · cases hx
      · split at hx
        · rename_i hp
          cases hx
          subst hnx
          exact jx_s_load g1 g2 hdec hrel hp (go _ _ _ _ _ _ _ ih hN hP hS hrel)
        · cases hx
      · obtain ⟨rfl, rfl, hst⟩ := jx_s_store (Q := MQ below (jx_Qc dC dI cI cB ad N A Q) args s 0 0 A) (cells := 0) (slots := 0) (p := p) (l := l) (e := e) (R := R) (s := s) (m := m) (args := args) (below := below) (meth := meth) (H := H) (locs := locs) g1 g2 hdec c3 hrel hx
        refine hst (fun la' hrel' => ?_)
        rw [← hnx]
        exact go _ _ _ _ _ _ _ ih hN hP hS hrel'
      · split at hx
        · rename_i hp
          cases hx
          subst hnx
          exact jx_s_read g1 g2 g5 hts hgood hK hP hdec c3 c4 hp ho (go _ _ _ _ _ _ _ ih hN hP hS hrel)
        · cases hx
      · split at hx
        · rename_i hp
          cases hx
          subst hnx
          exact (jx_s_write g1 g2 g5 hts hgood hK hP (jx_xw_D hN hinj hA) hS hdec c3 c4 hp ho (fun H1 locs1 hP1 hS1 => go _ _ _ _ _ _ _ ih ((jx_write_len hp).trans hN) hP1 hS1 hrel)).2
        · cases hx
      · rename_i hkd
        cases hx
        cases i with
        | goto off => exact lv_goto g1 g2 hdec (by simpa [jx_chkO] using c3) (go _ _ _ _ _ _ _ ih hN hP hS hrel)
        | _ => simp [jx_kind] at hkd
      · rename_i hkd
        cases i with
        | ifnull off =>
          simp only [jx_null] at hx
          split at hx
          · cases hx
            subst hnx
            rename_i hz
            cases hz
            exact lv_ifnull g1 g2 hdec (go _ _ _ _ _ _ _ ih hN hP hS hrel)
          · rename_i hz; cases hz
          · cases hx
        | ifnonnull off =>
          simp only [jx_null] at hx
          split at hx
          · rename_i hz; cases hz
          · cases hx
            rename_i hz
            cases hz
            exact lv_ifnonnull g1 g2 hdec (by simpa [jx_chkO] using c3) (go _ _ _ _ _ _ _ ih hN hP hS hrel)
          · cases hx
        | _ => simp [jx_kind] at hkd
      · rename_i hkd
        unfold jx_max at hx
        cases h9 : Nat.beq a 9999 with
        | false => rw [h9] at hx; cases hx
        | true =>
          rw [h9] at hx
          dsimp only [cond_true] at hx
          split at hx
          · rename_i y2 x2 r2
            cases h8 : Nat.ble (jx_cats r2) 8 with
            | false => rw [h8] at hx; cases hx
            | true =>
              rw [h8] at hx
              cases hx
              cases i with
              | invokestatic ix =>
                simp only [jx_need, h9, cond_true] at c4
                have cw : ∀ w, w ∈ lw_tbl → goodWord w = true → w.before args s = true := fun w hw hg => hts w (hgood w hw hg)
                have h8' := Nat.le_of_ble_eq_true h8
                rw [hnx] at ih
                have hR : 1 ≤ R.frames ∧ 40 ≤ R.locals := ⟨by omega, by omega⟩
                exact va_mmax g1 g2 (by rw [g4]; obtain ⟨-, lv, z1, -⟩ := hrel; exact z1.1.symm) g5 (cw _ (c4 _ (by simp)) rfl) (cw _ (c4 _ (by simp)) rfl) (cw _ (c4 _ (by simp)) rfl) (cw _ (c4 _ (by simp)) rfl) hR.1 (by rw [jx_cats_x]; omega) (Nat.zero_le _) (Nat.zero_le _) hdec (go _ _ _ _ _ _ _ ih hN hP hS hrel)
              | invokevirtual ix =>
                rw [jx_beq h9] at c3
                simp [jx_chkO, show jx_meth 9999 = none from rfl] at c3
              | _ => simp [jx_kind] at hkd
          · cases hx
      · cases hx
  · -- a branch
    intro d k pc ls st h Q q r t f hx kt kf hN own y b ml ret n stt cd mw hm p e R s m args below meth c g1 g2 g3 g4 g5 hts g7 hK hKS hd1 hd2 H locs la hP hS hrel
    rw [jx_code_of hm] at hx
    unfold jx_bra at hx
    cases hlk : jx_look cd pc with
    | none => rw [hlk] at hx; cases hx
    | some en =>
      obtain ⟨i, nx, a, bb, sw, ws⟩ := en
      rw [hlk] at hx
      dsimp only at hx
      obtain ⟨c1, ⟨len, c2⟩, c3, c4⟩ := jx_chk_spec (jx_look_chk (hq k _ hm).2 hlk)
      split at hx
      · rename_i hbr
        cases hx
        have hk : jx_isSw i = false ∧ jx_len i = 3 := by
          cases i <;> first | exact ⟨rfl, rfl⟩ | cases hbr
        obtain ⟨hnx, hdec⟩ := c1 hk.1
        rw [hk.2] at hnx
        subst hnx
        exact jx_s_br g1 g2 hdec c3 hbr (fun z => kt z hN own y b ml ret n stt cd mw hm g1 g2 g3 g4 g5 hts g7 hK hKS hd1 hd2 H locs la hP hS hrel) (fun z => kf z hN own y b ml ret n stt cd mw hm g1 g2 g3 g4 g5 hts g7 hK hKS hd1 hd2 H locs la hP hS hrel)
      · cases hx
  · -- a switch
    intro d k pc ls st h Q x r t sw0 hx hsw hN own y b ml ret n stt cd mw hm p e R s m args below meth c g1 g2 g3 g4 g5 hts g7 hK hKS hd1 hd2 H locs la hP hS hrel
    rw [jx_code_of hm] at hx
    unfold jx_swi at hx
    cases hlk : jx_look cd pc with
    | none => rw [hlk] at hx; cases hx
    | some en =>
      obtain ⟨i, nx, a, bb, sw, ws⟩ := en
      rw [hlk] at hx
      dsimp only at hx
      obtain ⟨c1, ⟨len, c2⟩, c3, c4⟩ := jx_chk_spec (jx_look_chk (hq k _ hm).2 hlk)
      cases hk8 : Nat.beq (jx_kind i) 8 with
      | false => rw [hk8] at hx; cases hx
      | true =>
        rw [hk8] at hx
        dsimp only [cond_true] at hx
        split at hx
        · cases hx
          have go : ∀ q, jx_Sem l dC dI cI cB KS ad N A d k q ls r h Q → W p l e R s m args below meth c H locs 0 0 (MQ below (jx_Qc dC dI cI cB ad N A Q) args s 0 0 A) (F0 m q la (r.map (jx_xv ad))) := fun q z => z hN own y b ml ret n stt cd mw hm g1 g2 g3 g4 g5 hts g7 hK hKS hd1 hd2 H locs la hP hS hrel
          cases i with
          | lookupswitch dd ps =>
            simp only [jx_chkO, Bool.and_eq_true, decide_eq_true_eq] at c3
            obtain ⟨⟨e1, e2⟩, e3⟩ := c3
            exact jx_sw_lkp e1 e3 hsw (fun off t2 w1 w2 w3 => lv_lookup g1 g2 c2 e2 w1 w2 (go t2 w3))
          | tableswitch dd lo hi offs =>
            simp only [jx_chkO, Bool.and_eq_true, decide_eq_true_eq] at c3
            obtain ⟨⟨e1, e2⟩, e3⟩ := c3
            refine jx_sw_tab e3 hsw (fun z w => lv_tableOut g1 g2 c2 ?_ e1 (go _ w)) (fun off t2 w0 w1 w2 w3 => lv_tableIn g1 g2 c2 (by omega) ?_ (by rw [← Array.getElem?_toList]; exact w1) w2 (go t2 w3))
            · rw [Array.length_toList] at z; omega
            · have := (List.getElem?_eq_some_iff.mp w1).1
              rw [Array.length_toList] at this; omega
          | _ => simp [jx_kind] at hk8
        · cases hx
  · -- a return
    intro d k pc ls st h Q o v hx ho hQ hN own y b ml ret n stt cd mw hm p e R s m args below meth c g1 g2 g3 g4 g5 hts g7 hK hKS hd1 hd2 H locs la hP hS hrel
    rw [jx_code_of hm] at hx
    unfold jx_end at hx
    cases hlk : jx_look cd pc with
    | none => rw [hlk] at hx; cases hx
    | some en =>
      obtain ⟨i, nx, a, bb, sw, ws⟩ := en
      rw [hlk] at hx
      dsimp only at hx
      obtain ⟨c1, ⟨len, c2⟩, c3, c4⟩ := jx_chk_spec (jx_look_chk (hq k _ hm).2 hlk)
      have fin : ∀ (v : Option Value) (t : State), Q v h → t.heap = H → s.WarmedH t.vm → jx_Qc dC dI cI cB ad N A Q args s (.returned (v.map (jx_xv ad))) t := fun v t hQ ht hW => ⟨⟨v, h, rfl, hQ, hN, by rw [ht]; exact hP, va_K.moved hW.alike hK⟩, hS.F ht⟩
      cases i with
      | ireturn =>
        obtain ⟨-, hdec⟩ := c1 rfl
        simp only [jx_ret] at hx
        split at hx
        · rename_i x
          simp only [jx_chkO, Bool.or_eq_true, Bool.and_eq_true, decide_eq_true_eq] at c3
          cases ha : Nat.beq a 0 with
          | true =>
            rw [ha] at hx
            cases hx
            have ha0 := jx_beq ha
            rcases c3 with ⟨-, c3⟩ | ⟨c3, -⟩
            · exact W.iret g1 g2 (by rw [g3, c3]) (fun t ht hW => fin _ t hQ ht hW) hS.2.2 hdec g7
            · omega
          | false =>
            rw [ha] at hx
            dsimp only [cond_false] at hx
            cases ha1 : Nat.beq a 1 with
            | false => rw [ha1] at hx; cases hx
            | true =>
              rw [ha1] at hx
              cases hx
              have ha0 := jx_beq ha1
              rcases c3 with ⟨c3, -⟩ | ⟨-, c3⟩
              · omega
              · refine W.zret g1 g2 (by rw [g3, c3]) ?_ (fun t ht hW => fin _ t hQ ht hW) hS.2.2 hdec g7
                rcases ho.1 with rfl | rfl <;> rfl
        · cases hx
      | lreturn =>
        obtain ⟨-, hdec⟩ := c1 rfl
        simp only [jx_ret] at hx
        split at hx
        · cases hx
          simp only [jx_chkO, decide_eq_true_eq] at c3
          exact W.lret g1 g2 (by rw [g3, c3]) (fun t ht hW => fin _ t hQ ht hW) hS.2.2 hdec g7
        · cases hx
      | return_ =>
        obtain ⟨-, hdec⟩ := c1 rfl
        simp only [jx_ret] at hx
        split at hx
        · cases hx
          simp only [jx_chkO, decide_eq_true_eq] at c3
          exact W.vret g1 g2 (by rw [g3, c3]) (fun t ht hW => fin _ t hQ ht hW) hS.2.2 hdec g7
        · cases hx
      | _ => cases hx
  · -- a call
    intro d d1 k pc ls st h Q Qc j ls2 r pc2 hx hlt k1 k2 hN own y b ml ret n stt cd mw hm p e R s m args below meth c g1 g2 g3 g4 g5 hts g7 hK hKS hd1 hd2 H locs la hP hS hrel
    rw [jx_code_of hm] at hx
    unfold jx_cal at hx
    cases hlk : jx_look cd pc with
    | none => rw [hlk] at hx; cases hx
    | some en =>
      obtain ⟨i, nx, a, bb, sw, ws⟩ := en
      rw [hlk] at hx
      dsimp only at hx
      obtain ⟨c1, ⟨len, c2⟩, c3, c4⟩ := jx_chk_spec (jx_look_chk (hq k _ hm).2 hlk)
      cases hk9 : Nat.beq (jx_kind i) 9 with
      | false => rw [hk9] at hx; cases hx
      | true =>
        rw [hk9] at hx
        dsimp only [cond_true] at hx
        cases hma : jx_meth a with
        | none => rw [hma] at hx; cases hx
        | some M2 =>
          obtain ⟨own2, y2, b2, ml2, ret2, n2, stt2, cd2, mw2⟩ := M2
          rw [hma] at hx
          dsimp only at hx
          obtain ⟨q1, q2, q3, q4, q5⟩ := jx_chkH_spec (hq a _ hma).1
          cases hpop : jx_pop n2 [] st with
          | none => rw [hpop] at hx; cases hx
          | some ar =>
            obtain ⟨as, r0⟩ := ar
            rw [hpop] at hx
            dsimp only at hx
            obtain ⟨xs, p1, p2, p3⟩ := jx_pop_spec hpop
            rw [List.append_nil] at p3
            have hgood : ∀ w ∈ lw_tbl, goodWord w = true → w ∈ jx_T y b ml ret := fun w hw hg => jx_in hw hg
            have hcode2 : Cond.code y2 b2 ml2 ret2 ∈ lw_tbl := q5 _ (by cases stt2 <;> simp [jx_mwords])
            have hini : Cond.initialized y2.cls ∈ lw_tbl := q5 _ (by cases stt2 <;> simp [jx_mwords])
            have hG : GoodIn (jx_T y b ml ret) (jx_T y2 b2 ml2 ret2) := jx_goodIn hcode2
            have hR : (jx_rm d1).frames + 1 ≤ R.frames ∧ 8 + (ml2 + 11) + (jx_rm d1).locals ≤ R.locals := ⟨by show d1 + 1 ≤ _; omega, by show 8 + (ml2 + 11) + 40 * d1 ≤ _; omega⟩
            have hpre : ∀ av : List Value, PreS s H (jx_Pc dC dI cI cB KS ad av h) (av.map (jx_xv ad)) := fun av => ⟨fun a U g mk z => ⟨z.1, z.2.1, va_K.moved (u := U) (U := U.calling g mk a) (Vm.Alike.refl U.vm) z.2.2.1, hKb U g mk a z.2.2.2⟩, fun U hU hW => ⟨rfl, by rw [hU]; exact hP, va_K.moved hW.alike hK, hKm s U hKS hW (hS.F hU)⟩⟩
            have behind : ∀ (v : Option Value) (st₀ t : State) (H1 : Heap) (locs1 : List Loc), st₀.heap = H → t.heap = H1 → s.vm.Alike t.vm → jx_Qc dC dI cI cB ad N A Qc (Array.empty) st₀ (.returned v) t → va_S A s.heap H1 locs1 → nx = pc + 3 → pc2 = nx → W p l e R s m args below meth c H1 locs1 0 0 (MQ below (jx_Qc dC dI cI cB ad N A Q) args s 0 0 A) (F0 m (pc + 3) la (v.toList ++ r.map (jx_xv ad))) := by
              intro v st₀ t H1 locs1 e0 e1 e2 e3 e4 e5 e6
              obtain ⟨⟨v', h', w1, w2, w3, w4, w5⟩, -⟩ := e3
              cases w1
              have z := k2 v' h' w2 w3 own y b ml ret n stt cd mw hm (e := e) (below := below) g1 g2 g3 g4 g5 hts g7 hK hKS hd1 hd2 H1 locs1 la (by rw [← e1]; exact w4) e4 hrel
              rw [e6, e5] at z
              rw [List.map_append] at z
              have ev : (Option.map (jx_xv ad) v').toList = v'.toList.map (jx_xv ad) := by cases v' <;> rfl
              rw [ev]; exact z
            cases stt2 with
            | true =>
              dsimp only [cond_true] at hx
              cases h8 : Nat.ble (jx_cats r0) 8 with
              | false => rw [h8] at hx; cases hx
              | true =>
                rw [h8] at hx
                dsimp only [cond_true] at hx
                obtain ⟨l2, e1, e2, e3, e4⟩ := jx_args_spec hx
                cases e1
                cases i with
                | invokestatic ix =>
                  obtain ⟨hnx, hdec⟩ := c1 rfl
                  have hM := jx_contract (KS := KS) hq hma e2 e3 (fun i w hg => by have := e4 0 i w hg; rwa [Nat.zero_add] at this) hN k1
                  have h9 : Nat.beq j 9999 = false := by
                    cases hz : Nat.beq j 9999 with
                    | false => rfl
                    | true => rw [jx_beq hz] at hma; cases hma
                  have c4 : ∀ w ∈ [bif Nat.beq bb 0 then Cond.methodLink own ix y2 else Cond.methodLinkNest own ix y2 RX6], w ∈ lw_tbl := by
                    intro w hw
                    refine c4 w ?_
                    simp only [jx_need, h9, cond_false, hma]
                    exact hw
                  have hstt : Cond.static y2 ∈ lw_tbl := q5 _ (by simp [jx_mwords])
                  have hrun : va_Run p l e R s m args below meth c H locs 0 0 0 0 (F0 m pc la (st.map (jx_xv ad))) (r.map (jx_xv ad)) (jx_Qc dC dI cI cB ad N A Qc (as.map (jx_xv ad)).toArray) A := by
                    have hst : st.map (jx_xv ad) = (as.map (jx_xv ad)).reverse ++ r.map (jx_xv ad) := by
                      rw [p1, p3, List.map_append, ← List.map_reverse, List.reverse_reverse]
                    have hsz : la.size = ml := hrel.2.choose_spec.1.1
                    cases hbb : Nat.beq bb 0 with
                    | true =>
                      rw [hbb] at c4
                      refine va_runS ⟨g1, g2, g4, g5, hts⟩ hM ⟨callB_of n2 hts hG rfl rfl rfl (hts _ (hgood _ hini rfl)) (hts _ (hgood _ (c4 _ List.mem_cons_self) rfl)) q3 hR, hts _ (hgood _ hstt rfl)⟩ (hpre as) rfl (by rw [List.length_map, p3, List.length_reverse, p2]) hsz hst (lv_room (by rw [jx_cats_x]; exact Nat.le_of_ble_eq_true h8)) hdec ⟨Nat.zero_le _, Nat.zero_le _⟩
                    | false =>
                      rw [hbb] at c4
                      refine va_runSN (host := RX6) ⟨g1, g2, g4, g5, hts⟩ hM ⟨⟨⟨rfl, rfl, hR.1, hR.2, pay_in hts hG, List.mem_cons_self⟩, hts _ (hgood _ hcode2 rfl), hts _ (hgood _ hini rfl), ⟨q3.1, q3.2.1⟩, (fun sig hs => by have z := q3.2.2; rw [hs] at z; exact (Option.some.inj z).symm), va_Nw.use rfl (hKn s hKS own ix y2 (c4 _ List.mem_cons_self))⟩, hts _ (hgood _ hstt rfl), trivial⟩ (hpre as) rfl (by rw [List.length_map, p3, List.length_reverse, p2]) hsz hst (lv_room (by rw [jx_cats_x]; exact Nat.le_of_ble_eq_true h8)) hdec ⟨Nat.zero_le _, Nat.zero_le _⟩
                  exact jx_callX hrun hS (fun q z => z) (fun st₀ v t _ z => z.2) (fun v st₀ t H1 locs1 w0 w1 w2 w3 w4 => behind v st₀ t H1 locs1 w0 w1 w2 w3 w4 (by rw [hnx]; rfl) rfl)
                | invokevirtual ix => simp [jx_chkO, hma] at c3
                | _ => simp [jx_kind] at hk9
            | false =>
              dsimp only [cond_false] at hx
              split at hx
              · rename_i q r1
                split at hx
                · rename_i ci fs hg
                  cases hC : jx_get vwCl ci with
                  | none => rw [hC] at hx; cases hx
                  | some C0 =>
                    obtain ⟨C, T, nn⟩ := C0
                    rw [hC] at hx
                    dsimp only at hx
                    cases h8 : Nat.ble (jx_cats r1) 8 && decide (C = y2.cls) with
                    | false => rw [h8] at hx; cases hx
                    | true =>
                      rw [h8] at hx
                      dsimp only [cond_true] at hx
                      rw [Bool.and_eq_true] at h8
                      have hCy : C = y2.cls := by simpa using h8.2
                      subst hCy
                      obtain ⟨l2, e1, e2, e3, e4⟩ := jx_args_spec hx
                      cases e1
                      cases i with
                      | invokevirtual ix =>
                        obtain ⟨hnx, hdec⟩ := c1 rfl
                        have hM := jx_contract (KS := KS) hq hma e2 e3 (fun i w hg => by have := e4 0 i w hg; rwa [Nat.zero_add] at this) hN k1
                        simp only [jx_need, hma] at c4
                        have hst : st.map (jx_xv ad) = (as.map (jx_xv ad)).reverse ++ .ref (ad q) :: r.map (jx_xv ad) := by
                          rw [p1, p3, List.map_append, ← List.map_reverse, List.reverse_reverse]; rfl
                        have hsz : la.size = ml := hrel.2.choose_spec.1.1
                        have hins : Cond.instanceMethod y2 ∈ lw_tbl := q5 _ (by simp [jx_mwords])
                        have hsel : Cond.selects y2.cls y2 y2 ∈ lw_tbl := q5 _ (by simp [jx_mwords])
                        have hrecv := va_recv hK hP (jx_vw hC) (jx_xw_get (cI := cI) (cB := cB) (ad := ad) hg)
                        have hrun : va_Run p l e R s m args below meth c H locs 0 0 0 0 (F0 m pc la (st.map (jx_xv ad))) (r.map (jx_xv ad)) (jx_Qc dC dI cI cB ad N A Qc (Value.ref (ad q) :: as.map (jx_xv ad)).toArray) A := by
                          refine va_runV (C := y2.cls) ⟨g1, g2, g4, g5, hts⟩ hM ⟨callB_of n2 hts hG rfl rfl rfl (hts _ (hgood _ hini rfl)) (hts _ (hgood _ (c4 _ List.mem_cons_self) rfl)) q3 hR, hts _ (hgood _ hins rfl), hts _ (hgood _ hsel rfl)⟩ ⟨(hpre (.ref q :: as)).1, hrecv, (hpre (.ref q :: as)).2⟩ rfl (by rw [List.length_map, p3, List.length_reverse, p2]) hsz hst (lv_room (by rw [jx_cats_x]; exact Nat.le_of_ble_eq_true h8.1)) hdec ⟨Nat.zero_le _, Nat.zero_le _⟩
                        exact jx_callX hrun hS (fun q z => z) (fun st₀ v t _ z => z.2) (fun v st₀ t H1 locs1 w0 w1 w2 w3 w4 => behind v st₀ t H1 locs1 w0 w1 w2 w3 w4 (by rw [hnx]; rfl) rfl)
                      | invokestatic ix =>
                        simp only [jx_chkO, hma, Bool.or_false] at c3
                        rw [jx_beq c3] at hma
                        cases hma
                      | _ => simp [jx_kind] at hk9
                · cases hx
              · cases hx
end MAIN
