/-! the JDK's methods do what that run says -/
section JQS
variable {l : Launch} {B sK sV : Nat}
theorem jq_sound : ∀ (f d k pc : Nat) (ls : jx_L) (st : List Value) (ds : List Bool) (v : Value) (o : List Prop) (ds2 : List Bool), jq_run f d k pc ls st ds = some (v, o, ds2) → jx_all o → ∀ (own : String) (y : MethodName) (b : ByteArray) (ml : Nat) (ret : Option FieldType) (n : Nat) (stt : Bool) (cd : jx_C) (mw : List Nat), jq_meth k = some (own, y, b, ml, ret, n, stt, cd, mw) →
    ∀ {p : Program} {e : Env} {R : Room} {s : State} {m : MethodId} {args : Array Value} {below : List Frame} {meth : Method} {c : Code}, p.tables.exec = Jvm.exec → c.code = b → meth.sig.returnType = ret → c.maxLocals = ml → s.vm.findClass own = some m.cls → (∀ w ∈ jx_T y b ml ret, w.before args s = true) → meth.locks = false → jq_K B sK sV s → d ≤ R.frames → 40 * d ≤ R.locals →
    ∀ (la : Array Slot), jx_rel (jq_ad sK sV) ml ls la → W p l e R s m args below meth c s.heap [] 0 0 (MQ below (jq_Qc sK sV v) args s 0 0 (fun _ => False)) (F0 m pc la (st.map (jx_xv (jq_ad sK sV)))) := by
  intro f
  induction f with
  | zero => intro d k pc ls st ds v o ds2 hx; simp [jq_run] at hx
  | succ f ih =>
    intro d k pc ls st ds v o ds2 hx ho own y b ml ret n stt cd mw hm p e R s m args below meth c g1 g2 g3 g4 g5 hts g7 hK hd1 hd2 la hrel
    have hS : va_S (B ≤ ·) s.heap s.heap [] := va_S.rf
    unfold jq_run at hx
    have hcd : jq_code k = cd := by unfold jq_code; rw [hm]
    rw [hcd] at hx
    cases hlk : jx_look cd pc with
    | none => rw [hlk] at hx; cases hx
    | some en =>
      obtain ⟨i, nx, a, bb, sw, ws⟩ := en
      rw [hlk] at hx
      dsimp only at hx
      obtain ⟨hnx, hdec, c3, c4⟩ := jq_chk_spec (jq_look_chk (jqd_of hm).2 hlk)
      have hgood : ∀ w ∈ lw_tbl, goodWord w = true → w ∈ jx_T y b ml ret := fun w hw hg => jx_in hw hg
      have cw : ∀ w, w ∈ lw_tbl → goodWord w = true → w.before args s = true := fun w hw hg => hts w (hgood w hw hg)
      have go : ∀ {d : Nat} (la1 : Array Slot) (pc2 : Nat) (ls2 : jx_L) (st2 : List Value) (ds1 : List Bool) (o1 : List Prop), jq_run f d k pc2 ls2 st2 ds1 = some (v, o1, ds2) → jx_all o1 → d ≤ R.frames → 40 * d ≤ R.locals → jx_rel (jq_ad sK sV) ml ls2 la1 → W p l e R s m args below meth c s.heap [] 0 0 (MQ below (jq_Qc sK sV v) args s 0 0 (fun _ => False)) (F0 m pc2 la1 (st2.map (jx_xv (jq_ad sK sV)))) := fun {d} la1 pc2 ls2 st2 ds1 o1 z z0 z1 z2 w3 => ih d k pc2 ls2 st2 ds1 v o1 ds2 z z0 own y b ml ret n stt cd mw hm g1 g2 g3 g4 g5 hts g7 hK z1 z2 la1 w3
      -- behind a call
      have behind : ∀ {d1 a : Nat} {l2 : jx_L} {ds1 ds3 : List Bool} {v2 : Value} {o2 o3 : List Prop} {own2 : String} {y2 : MethodName} {b2 : ByteArray} {ml2 : Nat} {ret2 : Option FieldType} {n2 : Nat} {stt2 : Bool} {cd2 : jx_C} {mw2 : List Nat} {as r : List Value}, jq_meth a = some (own2, y2, b2, ml2, ret2, n2, stt2, cd2, mw2) → jx_args ml2 as some = some l2 → jq_run f d1 a 0 l2 [] ds1 = some (v2, o2, ds3) → jx_all o2 → jq_run f d k nx ls (v2 :: r) ds3 = some (v, o3, ds2) → jx_all o3 → nx = pc + 3 →
          (Met l y2 (jx_T y2 b2 ml2 ret2) (jx_rm d1) (jq_Pc B sK sV as) (jq_Qc sK sV v2) 0 0 (fun _ => False)) ∧ (∀ Qa : Array Value, va_Run p l e R s m args below meth c s.heap [] 0 0 0 0 (F0 m pc la (st.map (jx_xv (jq_ad sK sV)))) (r.map (jx_xv (jq_ad sK sV))) (jq_Qc sK sV v2 Qa) (fun _ => False) → W p l e R s m args below meth c s.heap [] 0 0 (MQ below (jq_Qc sK sV v) args s 0 0 (fun _ => False)) (F0 m pc la (st.map (jx_xv (jq_ad sK sV))))) := by
        intro d1 a l2 ds1 ds3 v2 o2 o3 own2 y2 b2 ml2 ret2 n2 stt2 cd2 mw2 as r hma hargs hrun ho2 hrest ho3 hnx3
        obtain ⟨q1, q2, q3, q4, q5⟩ := jx_chkH_spec (jqd_of hma).1
        obtain ⟨l3, e1, e2, e3, e4⟩ := jx_args_spec hargs
        cases e1
        refine ⟨?_, fun Qa hr => ?_⟩
        · refine Met.ofW (cc := b2) (maxL := ml2) (ret := ret2) q1 rfl ?_
          intro p e s m args below meth c s₁ Bd hmlc hv
          obtain ⟨rfl, hK2⟩ := hv
          have hts2 := atoms_spec (ws := jx_T y2 b2 ml2 ret2) Bd.pre
          have hown2 : s.vm.findClass own2 = some m.cls := by rw [q2]; exact findClass_of_methodNamed Bd.named
          have hl := lv_entry (as.map (jx_xv (jq_ad sK sV))) (n := ml2) (by rw [lg_sl_map]; exact e3)
          rw [lg_entry_eq]
          exact ih d1 a 0 l2 [] ds1 v2 o2 ds3 hrun ho2 own2 y2 b2 ml2 ret2 n2 stt2 cd2 mw2 hma Bd.exec Bd.bytes Bd.returns hmlc hown2 hts2 Bd.notSynchronized hK2 (Nat.le_refl _) (Nat.le_refl _) _ ⟨e2, _, hl, fun i w hg => lv_args_map _ _ 0 i w (by have := e4 0 i w hg; rwa [Nat.zero_add] at this)⟩
        · refine ja_callX (A := fun _ => False) hr va_S.rf (fun q z => z) (fun st₀ v t w0 z => ⟨by rw [z.2]; exact Nat.le_refl _, fun q h1 h2 => by rw [z.2]⟩) (fun v' st₀ t H1 locs1 w0 w1 w2 w3 w4 => ?_)
          obtain ⟨z1, z2⟩ := w3
          cases z1
          have hH : H1 = s.heap := by rw [← w1, z2, w0]
          have hl : locs1 = [] := List.eq_nil_iff_forall_not_mem.mpr (fun q hq => w4.2.2 q hq)
          rw [hH, hl]
          have z := go la nx ls (v2 :: r) ds3 o3 hrest ho3 hd1 hd2 hrel
          rw [hnx3] at z
          exact z
      have hpre : ∀ as : List Value, PreS s s.heap (jq_Pc B sK sV as) (as.map (jx_xv (jq_ad sK sV))) := fun as => ⟨fun a U g mk z => ⟨z.1, z.2.kept (U := U.calling g mk a) (Vm.Alike.refl U.vm) ⟨Nat.le_refl _, fun _ _ _ => rfl⟩⟩, fun U hU hW => ⟨rfl, hK.kept hW.alike ⟨by rw [hU]; exact Nat.le_refl _, fun _ _ _ => by rw [hU]⟩⟩⟩
      have hsz : la.size = ml := hrel.2.choose_spec.1.1
      split at hx
      · -- a plain step
        rename_i hkd
        cases hn : jx_next i nx a bb sw ls st [] with
        | none => rw [hn] at hx; cases hx
        | some en2 =>
          obtain ⟨o2, nx2, ls2, st2, h2'⟩ := en2
          rw [hn] at hx
          dsimp only at hx
          obtain ⟨o3, hx3, rfl⟩ := jq_then_some hx
          obtain ⟨ho1, ho3⟩ := jx_all_app ho
          obtain ⟨hk2, hlen⟩ := jq_kind0 hkd
          rw [hlen] at hnx hdec
          have c3' : jx_chkO i ret pc a bb sw = true := by cases i <;> first | exact c3 | cases hkd
          have c4' : ∀ w ∈ jx_need own i a bb sw, w ∈ lw_tbl := by cases i <;> first | exact c4 | cases hkd
          unfold jx_next at hn
          split at hn
          · split at hn
            · rename_i hp
              cases hn
              subst hnx
              exact jx_s_pure g1 g2 g5 cw hdec c3' c4' hp ho1 (go _ _ _ _ _ _ hx3 ho3 hd1 hd2 hrel)
            · cases hn
          · split at hn
            · rename_i hp
              cases hn
              subst hnx
              exact jx_s_load g1 g2 hdec hrel hp (go _ _ _ _ _ _ hx3 ho3 hd1 hd2 hrel)
            · cases hn
          · obtain ⟨rfl, -, hst⟩ := jx_s_store (Q := MQ below (jq_Qc sK sV v) args s 0 0 (fun _ => False)) (cells := 0) (slots := 0) (p := p) (l := l) (e := e) (R := R) (s := s) (m := m) (args := args) (below := below) (meth := meth) (H := s.heap) (locs := []) g1 g2 hdec c3' hrel hn
            refine hst (fun la' hrel' => ?_)
            rw [← hnx]
            exact go _ _ _ _ _ _ hx3 ho3 hd1 hd2 hrel'
          · rename_i h4; rcases hk2 with z | z <;> omega
          · rename_i h4; rcases hk2 with z | z <;> omega
          · rename_i h5
            cases hn
            cases i with
            | goto off => exact lv_goto g1 g2 hdec (by simpa [jx_chkO] using c3') (go _ _ _ _ _ _ hx3 ho3 hd1 hd2 hrel)
            | _ => simp [jx_kind] at h5
          · rename_i h4; rcases hk2 with z | z <;> omega
          · rename_i h4; rcases hk2 with z | z <;> omega
          · cases hn
      · -- the static
        rename_i hkd
        cases i with
        | getstatic ix =>
          have hb2 : bb = 2 := jx_beq c3
          subst hb2
          have hnx3 : nx = pc + 3 := hnx
          subst hnx3
          exact va_gets g1 g2 hK.2 hS g5 (cw _ (c4 _ List.mem_cons_self) rfl) (fun _ z => z) hdec (go _ _ _ (.int 1 :: st) _ _ hx ho hd1 hd2 hrel)
        | _ => first | cases hkd | (simp [jq_kind, jx_kind] at hkd)
      · -- a field of the text
        rename_i hkd
        cases i with
        | getfield ix =>
          have hnx3 : nx = pc + 3 := hnx
          subst hnx3
          split at hx
          · rename_i r
            have hbl : bb < 2 := Nat.le_of_ble_eq_true c3
            have hw := c4 _ List.mem_cons_self
            match bb, hbl, hw, hx with
            | 0, _, hw, hx => exact vk_getf g1 g2 (hK.1.1 0 (by decide)).2.2.1 hS g5 (cw _ hw rfl) (fun _ z => z) hdec (go _ _ _ (.ref 1 :: r) _ _ hx ho hd1 hd2 hrel)
            | 1, _, hw, hx => exact vk_getf g1 g2 (hK.1.1 0 (by decide)).2.1 hS g5 (cw _ hw rfl) (fun _ z => z) hdec (go _ _ _ (.int 0 :: r) _ _ hx ho hd1 hd2 hrel)
          · cases hx
        | _ => first | cases hkd | (simp [jq_kind, jx_kind] at hkd)
      · -- a call on the text
        rename_i hkd
        cases i with
        | invokevirtual ix =>
          have hnx3 : nx = pc + 3 := hnx
          cases hma : jq_meth a with
          | none => rw [hma] at hx; cases hx
          | some M2 =>
            obtain ⟨own2, y2, b2, ml2, ret2, n2, stt2, cd2, mw2⟩ := M2
            rw [hma] at hx
            simp only [jq_chkO, hma, Bool.and_eq_true, decide_eq_true_eq] at c3
            simp only [jq_need, hma] at c4
            obtain ⟨rfl, hcls⟩ := c3
            dsimp only at hx
            obtain ⟨q1, q2, q3, q4, q5⟩ := jx_chkH_spec (jqd_of hma).1
            cases hpop : jx_pop n2 [] st with
            | none => rw [hpop] at hx; cases hx
            | some ar =>
              obtain ⟨as, r0⟩ := ar
              rw [hpop] at hx
              obtain ⟨xs, p1, p2, p3⟩ := jx_pop_spec hpop
              rw [List.append_nil] at p3
              split at hx
              · rename_i as' r hr0
                cases hr0
                cases hz : Nat.ble (jx_cats r) 8 with
                | false => rw [hz] at hx; cases hx
                | true =>
                  rw [hz] at hx
                  dsimp only [cond_true] at hx
                  split at hx
                  · rename_i d1
                    split at hx
                    · rename_i l2 hargs
                      split at hx
                      · rename_i v2 o2 ds3 hrun
                        obtain ⟨o3, hx3, rfl⟩ := jq_then_some hx
                        obtain ⟨ho1, ho3⟩ := jx_all_app ho
                        obtain ⟨hM, hk⟩ := behind hma hargs hrun ho1 hx3 ho3 hnx3
                        have hcode2 : Cond.code y2 b2 ml2 ret2 ∈ lw_tbl := q5 _ (by simp [jx_mwords])
                        have hini : Cond.initialized y2.cls ∈ lw_tbl := q5 _ (by simp [jx_mwords])
                        have hins : Cond.instanceMethod y2 ∈ lw_tbl := q5 _ (by simp [jx_mwords])
                        have hsel : Cond.selects y2.cls y2 y2 ∈ lw_tbl := q5 _ (by simp [jx_mwords])
                        have hR : (jx_rm d1).frames + 1 ≤ R.frames ∧ 8 + (ml2 + 11) + (jx_rm d1).locals ≤ R.locals := ⟨by show d1 + 1 ≤ _; omega, by show 8 + (ml2 + 11) + 40 * d1 ≤ _; omega⟩
                        have hst : st.map (jx_xv (jq_ad sK sV)) = (as.map (jx_xv (jq_ad sK sV))).reverse ++ .ref sK :: r.map (jx_xv (jq_ad sK sV)) := by
                          rw [p1, p3, List.map_append, ← List.map_reverse, List.reverse_reverse]; rfl
                        have hrecv := vk_recv hK.1 (show 0 < 1 by decide) hS
                        rw [← hcls] at hrecv
                        exact hk _ (va_runV (C := y2.cls) ⟨g1, g2, g4, g5, hts⟩ hM ⟨callB_of n2 hts (jx_goodIn hcode2) rfl rfl rfl (cw _ hini rfl) (cw _ (c4 _ List.mem_cons_self) rfl) q3 hR, cw _ hins rfl, cw _ hsel rfl⟩ ⟨(hpre (.ref 0 :: as)).1, hrecv, (hpre (.ref 0 :: as)).2⟩ rfl (by rw [List.length_map, p3, List.length_reverse, p2]) hsz hst (lv_room (by rw [jx_cats_x]; exact Nat.le_of_ble_eq_true hz)) hdec ⟨Nat.zero_le _, Nat.zero_le _⟩)
                      · cases hx
                    · cases hx
                  · cases hx
              · cases hx
        | _ => first | cases hkd | (simp [jq_kind, jx_kind] at hkd)
      · -- a static call
        rename_i hkd
        cases i with
        | invokestatic ix =>
          have hnx3 : nx = pc + 3 := hnx
          cases h1 : Nat.beq a 9001 with
          | true =>
            rw [h1] at hx
            simp only [jq_need, h1, cond_true] at c4
            dsimp only [cond_true] at hx
            split at hx
            · rename_i d' y' x' r
              cases hz : Nat.ble (jx_cats r) 8 with
              | false => rw [hz] at hx; cases hx
              | true =>
                rw [hz] at hx
                dsimp only [cond_true] at hx
                have h8 := Nat.le_of_ble_eq_true hz
                subst hnx3
                exact va_mmax g1 g2 (by rw [g4]; exact hsz.symm) g5 (cw _ (c4 _ (by simp)) rfl) (cw _ (c4 _ (by simp)) rfl) (cw _ (c4 _ (by simp)) rfl) (cw _ (c4 _ (by simp)) rfl) (by omega) (by rw [jx_cats_x]; omega) (Nat.zero_le _) (Nat.zero_le _) hdec (go _ _ _ (.int (if x' < y' then y' else x') :: r) _ _ hx ho hd1 hd2 hrel)
            · cases hx
          | false =>
            rw [h1] at hx
            dsimp only [cond_false] at hx
            cases h2 : Nat.beq a 9002 with
            | true =>
              rw [h2] at hx
              simp only [jq_need, h1, h2, cond_true, cond_false] at c4
              dsimp only [cond_true] at hx
              split at hx
              · rename_i d' y' x' r
                cases hz : Nat.ble (jx_cats r) 8 with
                | false => rw [hz] at hx; cases hx
                | true =>
                  rw [hz] at hx
                  dsimp only [cond_true] at hx
                  have h8 := Nat.le_of_ble_eq_true hz
                  subst hnx3
                  exact va_mmin g1 g2 (by rw [g4]; exact hsz.symm) g5 (cw _ (c4 _ (by simp)) rfl) (cw _ (c4 _ (by simp)) rfl) (cw _ (c4 _ (by simp)) rfl) (cw _ (c4 _ (by simp)) rfl) (by omega) (by rw [jx_cats_x]; omega) (Nat.zero_le _) (Nat.zero_le _) hdec (go _ _ _ (.int (if y' < x' then y' else x') :: r) _ _ hx ho hd1 hd2 hrel)
              · cases hx
            | false =>
              rw [h2] at hx
              dsimp only [cond_false] at hx
              cases hma : jq_meth a with
              | none => rw [hma] at hx; cases hx
              | some M2 =>
                obtain ⟨own2, y2, b2, ml2, ret2, n2, stt2, cd2, mw2⟩ := M2
                rw [hma] at hx
                simp only [jq_chkO, h1, h2, hma, Bool.false_or, decide_eq_true_eq] at c3
                simp only [jq_need, h1, h2, cond_false, hma] at c4
                subst c3
                dsimp only at hx
                obtain ⟨q1, q2, q3, q4, q5⟩ := jx_chkH_spec (jqd_of hma).1
                cases hpop : jx_pop n2 [] st with
                | none => rw [hpop] at hx; cases hx
                | some ar =>
                  obtain ⟨as, r⟩ := ar
                  rw [hpop] at hx
                  dsimp only at hx
                  obtain ⟨xs, p1, p2, p3⟩ := jx_pop_spec hpop
                  rw [List.append_nil] at p3
                  cases hz : Nat.ble (jx_cats r) 8 with
                  | false => rw [hz] at hx; cases hx
                  | true =>
                    rw [hz] at hx
                    dsimp only [cond_true] at hx
                    split at hx
                    · rename_i d1
                      split at hx
                      · rename_i l2 hargs
                        split at hx
                        · rename_i v2 o2 ds3 hrun
                          obtain ⟨o3, hx3, rfl⟩ := jq_then_some hx
                          obtain ⟨ho1, ho3⟩ := jx_all_app ho
                          obtain ⟨hM, hk⟩ := behind hma hargs hrun ho1 hx3 ho3 hnx3
                          have hcode2 : Cond.code y2 b2 ml2 ret2 ∈ lw_tbl := q5 _ (by simp [jx_mwords])
                          have hini : Cond.initialized y2.cls ∈ lw_tbl := q5 _ (by simp [jx_mwords])
                          have hstt : Cond.static y2 ∈ lw_tbl := q5 _ (by simp [jx_mwords])
                          have hR : (jx_rm d1).frames + 1 ≤ R.frames ∧ 8 + (ml2 + 11) + (jx_rm d1).locals ≤ R.locals := ⟨by show d1 + 1 ≤ _; omega, by show 8 + (ml2 + 11) + 40 * d1 ≤ _; omega⟩
                          have hst : st.map (jx_xv (jq_ad sK sV)) = (as.map (jx_xv (jq_ad sK sV))).reverse ++ r.map (jx_xv (jq_ad sK sV)) := by
                            rw [p1, p3, List.map_append, ← List.map_reverse, List.reverse_reverse]
                          exact hk _ (va_runS ⟨g1, g2, g4, g5, hts⟩ hM ⟨callB_of n2 hts (jx_goodIn hcode2) rfl rfl rfl (cw _ hini rfl) (cw _ (c4 _ List.mem_cons_self) rfl) q3 hR, cw _ hstt rfl⟩ (hpre as) rfl (by rw [List.length_map, p3, List.length_reverse, p2]) hsz hst (lv_room (by rw [jx_cats_x]; exact Nat.le_of_ble_eq_true hz)) hdec ⟨Nat.zero_le _, Nat.zero_le _⟩)
                        · cases hx
                      · cases hx
                    · cases hx
        | _ => first | cases hkd | (simp [jq_kind, jx_kind] at hkd)
      · -- a branch
        rename_i hkd
        cases hbr : jx_br i st with
        | none => rw [hbr] at hx; cases hx
        | some qr =>
          obtain ⟨q, r⟩ := qr
          rw [hbr] at hx
          dsimp only at hx
          have hlen : jq_len i = 3 ∧ jx_len i = 3 := by cases i <;> first | exact ⟨rfl, rfl⟩ | cases hbr
          have hdec' : decode b pc = .ok (i, jx_len i) := by rw [hlen.2, ← hlen.1]; exact hdec
          have hnx3 : nx = pc + 3 := by rw [hnx, hlen.1]
          subst hnx3
          have c3' : jx_chkO i ret pc a bb sw = true := by cases i <;> first | exact c3 | cases hkd
          split at hx
          · obtain ⟨o3, hx3, rfl⟩ := jq_then_some hx
            obtain ⟨ho1, ho3⟩ := jx_all_app ho
            exact jx_s_br g1 g2 hdec' c3' hbr (fun _ => go _ _ _ _ _ _ hx3 ho3 hd1 hd2 hrel) (fun z => absurd ho1.1 z)
          · obtain ⟨o3, hx3, rfl⟩ := jq_then_some hx
            obtain ⟨ho1, ho3⟩ := jx_all_app ho
            exact jx_s_br g1 g2 hdec' c3' hbr (fun z => absurd z ho1.1) (fun _ => go _ _ _ _ _ _ hx3 ho3 hd1 hd2 hrel)
          · cases hx
      · -- a return
        rename_i hkd
        cases i with
        | ireturn =>
          split at hx
          · rename_i x
            have fin : ∀ (t : State), t.heap = s.heap → s.WarmedH t.vm → jq_Qc sK sV (.int x) args s (.returned (some (.int x))) t := fun t ht _ => ⟨rfl, ht⟩
            simp only [jq_chkO, Bool.or_eq_true, Bool.and_eq_true, decide_eq_true_eq] at c3
            split at hx
            · cases hx
              rcases c3 with (⟨-, c3⟩ | ⟨c3, -⟩) | ⟨c3, -⟩
              · exact W.iret g1 g2 (by rw [g3, c3]) fin (fun q hq => by cases hq) hdec g7
              · omega
              · omega
            · cases hx
              rcases c3 with (⟨c3, -⟩ | ⟨-, c3⟩) | ⟨c3, -⟩
              · omega
              · refine W.zret g1 g2 (by rw [g3, c3]) ?_ fin (fun q hq => by cases hq) hdec g7
                rcases ho.1 with rfl | rfl <;> rfl
              · omega
            · cases hx
              rcases c3 with (⟨c3, -⟩ | ⟨c3, -⟩) | ⟨-, c3⟩
              · omega
              · omega
              · refine W.zret g1 g2 (by rw [g3, c3]) ?_ fin (fun q hq => by cases hq) hdec g7
                have h0 : x.toInt8.toInt32 = x := ho.1
                rw [← h0]; exact pk_nb x
            · cases hx
          · cases hx
        | _ => first | cases hkd | (simp [jq_kind, jx_kind] at hkd)
      · -- a byte of the text
        rename_i hkd
        cases i with
        | baload =>
          have hnx3 : nx = pc + 1 := hnx
          subst hnx3
          split at hx
          · obtain ⟨o3, hx3, rfl⟩ := jq_then_some hx
            obtain ⟨ho1, ho3⟩ := jx_all_app ho
            exact va_tb g1 g2 (hK.1.1 0 (by decide)).2.2.2 hS ho1.1 rfl hdec (go _ _ _ (.int _ :: _) _ _ hx3 ho3 hd1 hd2 hrel)
          · cases hx
        | _ => first | cases hkd | (simp [jq_kind, jx_kind] at hkd)
      · -- how many
        rename_i hkd
        cases i with
        | arraylength =>
          have hnx3 : nx = pc + 1 := hnx
          subst hnx3
          split at hx
          · exact va_tlen g1 g2 (hK.1.1 0 (by decide)).2.2.2 hS rfl hdec (go _ _ _ (.int 5 :: _) _ _ hx ho hd1 hd2 hrel)
          · cases hx
        | _ => first | cases hkd | (simp [jq_kind, jx_kind] at hkd)
      · cases hx
end JQS
