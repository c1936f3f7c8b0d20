/-! kindOf, walked: what jx_sound asks of it -/
section KIND
variable {l : Launch} {dC : Nat → ClassId} {dI : Nat → Nat → Nat} {cI cB : ClassId}
/-- what rides along with every run: the nest's words, the text, the static -/
def jq_KS (B sK sV : Nat) (s : State) : Prop := (∀ (own : String) (ix : Nat) (y : MethodName), Cond.methodLinkNest own ix y RX6 ∈ lw_tbl → va_Nw (.methodLinkNest own ix y RX6) s) ∧ vk_R RX6 252 "ltgck" sK s ∧ jq_K B sK sV s
theorem jq_kinit {y : Int32} (h0 : ¬ y < 0) {B sK sV : Nat} {b : ByteArray} {ml : Nat} {ret : Option FieldType} : ∃ d : Nat, d = 7 ∧ Met l yJ0_indexOf_0f7a4 (jx_T yJ0_indexOf_0f7a4 cJ0_indexOf_0f7a4 2 (some .int)) (jx_rm 7) (jq_Pc B sK sV [.ref 0, .int y]) (jq_Qc sK sV (.int (jx_kindC y))) 0 0 (fun _ => False) := by
  obtain ⟨ds, o, ds2, hrun, ho⟩ := jq_all h0
  refine ⟨7, rfl, ?_⟩
  obtain ⟨q1, q2, q3, q4, q5⟩ := jx_chkH_spec (jqd_of (k := 0) rfl).1
  refine Met.ofW (cc := cJ0_indexOf_0f7a4) (maxL := 2) (ret := some .int) q1 rfl ?_
  intro p e s m args below meth c s₁ Bd hmlc hv
  obtain ⟨rfl, hK2⟩ := hv
  have hts2 := atoms_spec (ws := jx_T yJ0_indexOf_0f7a4 cJ0_indexOf_0f7a4 2 (some .int)) Bd.pre
  have hown2 : s.vm.findClass RJ0 = some m.cls := findClass_of_methodNamed Bd.named
  have hl := lv_entry ([Value.ref 0, .int y].map (jx_xv (jq_ad sK sV))) (n := 2) (Nat.le_of_ble_eq_true rfl)
  rw [lg_entry_eq]
  exact jq_sound 140 7 0 0 [some (.ref 0), some (.int y)] [] ds _ o ds2 hrun ho _ _ _ _ _ _ _ _ _ rfl Bd.exec Bd.bytes Bd.returns hmlc hown2 hts2 Bd.notSynchronized hK2 (Nat.le_refl _) (Nat.le_refl _) _ ⟨rfl, _, hl, fun i w hg => by
    match i, hg with
    | 0, hg => cases hg; exact List.mem_cons_self
    | 1, hg => cases hg; exact List.mem_cons_of_mem _ List.mem_cons_self
    | n + 2, hg => cases hg⟩
theorem jq_char (x : Int32) : ¬ (x.toUInt32 % 65536).toInt32 < 0 := by
  rw [pk_char]
  exact nI_pos (by have := Nat.mod_lt x.toBitVec.toNat (show 0 < 65536 by decide); omega)
theorem jq_kw : jx_words [Cond.methodLink RX6 254 yJ0_indexOf_0f7a4, Cond.initialized RJ0, Cond.instanceMethod yJ0_indexOf_0f7a4, Cond.selects RJ0 yJ0_indexOf_0f7a4 yJ0_indexOf_0f7a4, Cond.code yJ0_indexOf_0f7a4 cJ0_indexOf_0f7a4 2 (some .int)] [357, 63, 358, 359, 360] = true := by decide +kernel
theorem jq_kd0 : decode cX6_kindOf 0 = .ok (.ldc 252, 2) := by decide +kernel
theorem jq_kd3 : decode cX6_kindOf 2 = .ok (.iload_n 0, 1) := by decide +kernel
theorem jq_kd4 : decode cX6_kindOf 3 = .ok (.i2c, 1) := by decide +kernel
theorem jq_kd5 : decode cX6_kindOf 4 = .ok (.invokevirtual 254, 3) := by decide +kernel
theorem jq_kd8 : decode cX6_kindOf 7 = .ok (.ireturn, 1) := by decide +kernel
theorem jq_hkind {B sK sV : Nat} (ad : Nat → Nat) (N : Nat) (A : Nat → Prop) (hA : ∀ q, A q → B ≤ q) (d : Nat) (x : Int32) (h : jx_H) (Q : jx_Q) (hd8 : 8 ≤ d) (hQ : Q (some (.int (jx_kindOf x))) h) : jx_Sem l dC dI cI cB (jq_KS B sK sV) ad N A d jk_X6_kindOf 0 [some (.int x)] [] h Q := by
  intro hN own y b ml ret n stt cd mw hm p e R s m args below meth c g1 g2 g3 g4 g5 hts g7 hK hKS hd1 hd2 H locs la hP hS hrel
  have hm2 : some (RX6, yX6_kindOf, cX6_kindOf, 1, some FieldType.int, 1, true, jx_code jk_X6_kindOf, ([55, 355, 354] : List Nat)) = some (own, y, b, ml, ret, n, stt, cd, mw) := by rw [← hm]; rfl
  cases hm2
  obtain ⟨hnest, hstr, hKK⟩ := hKS
  have hw := jx_words_in jq_kw
  have cw : ∀ w, w ∈ lw_tbl → goodWord w = true → w.before args s = true := fun w hw hg => hts w (jx_in hw hg)
  obtain ⟨-, -, hM⟩ := jq_kinit (l := l) (jq_char x) (B := B) (sK := sK) (sV := sV) (b := cX6_kindOf) (ml := 1) (ret := none)
  refine va_ldcS g1 g2 g5 hstr jq_kd0 ?_
  refine lv_iload_n g1 g2 jq_kd3 rfl (jx_rel_at hrel (i := 0) (v := .int x) rfl) ?_
  refine lv_i2c g1 g2 jq_kd4 rfl ?_
  have hcode2 : Cond.code yJ0_indexOf_0f7a4 cJ0_indexOf_0f7a4 2 (some .int) ∈ lw_tbl := hw _ (by simp)
  have hsz : la.size = 1 := hrel.2.choose_spec.1.1
  have hSB : va_S (B ≤ ·) s.heap H locs := ⟨hS.1, fun q h1 h2 => hS.2.1 q h1 (fun z => h2 (hA q z)), fun q hq => hA _ (hS.2.2 q hq)⟩
  have hrecv := vk_recv hKK.1 (show 0 < 1 by decide) hSB
  have hpre : PreS s H (jq_Pc B sK sV [.ref 0, .int (x.toUInt32 % 65536).toInt32]) ([Value.ref 0, .int (x.toUInt32 % 65536).toInt32].map (jx_xv (jq_ad sK sV))) := ⟨fun a U g mk z => ⟨z.1, z.2.kept (U := U.calling g mk a) (Vm.Alike.refl U.vm) ⟨Nat.le_refl _, fun _ _ _ => rfl⟩⟩, fun U hU hW => ⟨rfl, hKK.kept hW.alike (hSB.F hU)⟩⟩
  have hrun2 : va_Run p l e R s m args below meth c H locs 0 0 0 0 (F0 m (0 + 2 + 1 + 1) la (.int (x.toUInt32 % 65536).toInt32 :: .ref sK :: [])) [] (jq_Qc sK sV (.int (jx_kindOf x)) [Value.ref sK, .int (x.toUInt32 % 65536).toInt32].toArray) (fun _ => False) :=
    va_runV (C := RJ0) (As := [.int (x.toUInt32 % 65536).toInt32]) ⟨g1, g2, g4, g5, hts⟩ hM ⟨callB_of 1 hts (jx_goodIn hcode2) rfl rfl rfl (cw _ (hw (Cond.initialized RJ0) (by simp)) rfl) (cw _ (hw (Cond.methodLink RX6 254 yJ0_indexOf_0f7a4) (by simp)) rfl) (by decide +kernel) ⟨by show 7 + 1 ≤ _; omega, by show 8 + (2 + 11) + 40 * 7 ≤ _; omega⟩, cw _ (hw (Cond.instanceMethod yJ0_indexOf_0f7a4) (by simp)) rfl, cw _ (hw (Cond.selects RJ0 yJ0_indexOf_0f7a4 yJ0_indexOf_0f7a4) (by simp)) rfl⟩ ⟨hpre.1, hrecv, hpre.2⟩ rfl rfl hsz rfl (lv_room (Nat.le_of_ble_eq_true rfl)) jq_kd5 ⟨Nat.zero_le _, Nat.zero_le _⟩
  refine ja_callX hrun2 hS (fun q z => z.elim) (fun st₀ v t w0 z => ⟨by rw [z.2]; exact Nat.le_refl _, fun q h1 h2 => by rw [z.2]⟩) (fun v st₀ t H1 locs1 w0 w1 w2 w3 w4 => ?_)
  obtain ⟨z1, z2⟩ := w3
  cases z1
  have hH : H1 = H := by rw [← w1, z2, w0]
  subst hH
  exact W.iret g1 g2 g3 (fun t ht hW => ⟨⟨some (.int (jx_kindOf x)), h, rfl, hQ, hN, by rw [ht]; exact hP, va_K.moved hW.alike hK⟩, w4.F ht⟩) w4.2.2 jq_kd8 g7
theorem jq_KK (B sK sV : Nat) (dC : Nat → ClassId) (dI : Nat → Nat → Nat) (cI cB : ClassId) : jw_K l (jq_KS B sK sV) dC dI cI cB B := by
  refine ⟨fun s U h hW hF => ⟨fun own ix y hy => (h.1 own ix y hy).warmM hW, h.2.1.warm hW, h.2.2.kept hW.alike hF⟩, fun U g mk a h => ⟨fun own ix y hy => va_Nw.same rfl (u := U) rfl (h.1 own ix y hy), vk_R.same (u := U) rfl h.2.1, h.2.2.kept (U := U.calling g mk a) (Vm.Alike.refl U.vm) ⟨Nat.le_refl _, fun _ _ _ => rfl⟩⟩, fun s h => h.1, fun ad N A hA d x h Q hd hQ => jq_hkind ad N A hA d x h Q hd hQ⟩
end KIND
