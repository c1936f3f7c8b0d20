/-! the start's facts give what rides along; the law from R alone -/
theorem jq_w0 : jx_words [Cond.stringRef RX6 252 "ltgck", Cond.laysStatic "java/lang/String" "COMPACT_STRINGS" "Z", Cond.initialized "java/lang/String"] [356, 370, 63] = true := by decide +kernel
theorem jq_start {p : Program} {s : State} {m : MethodId} {meth : Method} {c : Code} {b L : Nat} {xs : Nat → Int32} (C0 : lw_At p s m meth c b L xs) : ∃ sK sV : Nat, jq_KS s.heap.size sK sV s := by
  obtain ⟨g1, g2, g3, g4, g5, hts, hX, hbl, g7, hgv⟩ := C0
  have hw := jx_words_in jq_w0
  have hs := flat_of_before _ hgv
  have hA : ∀ a : Nat, a < s.heap.size → ¬ (s.heap.size ≤ a) := fun a h => by omega
  obtain ⟨adK, adV, h1, h2⟩ := vk_Sof (args := #[Value.ref b]) (s := s) (N := 1) (tm := fun _ => .string "LaughDrive" 252) (len := [5]) (byt := [jq_B]) (A := (s.heap.size ≤ ·))
    (fun i hi => by rw [show i = 0 by omega]; decide) (fun i _ => hs _ (by decide +kernel)) (fun i _ => hs _ (by decide +kernel)) (fun i _ => hs _ (by decide +kernel))
    (fun i hi => by rw [show i = 0 by omega]; exact hs _ (by decide +kernel))
    (fun i hi j hj => by
      have e : i = 0 := by omega
      subst e
      have hj5 : j < 5 := hj
      match j, hj5 with
      | 0, _ => exact hs _ (by decide +kernel)
      | 1, _ => exact hs _ (by decide +kernel)
      | 2, _ => exact hs _ (by decide +kernel)
      | 3, _ => exact hs _ (by decide +kernel)
      | 4, _ => exact hs _ (by decide +kernel)
      | n + 5, h => omega)
    (fun i j hi hj hij => absurd (by omega) hij) hA
  refine ⟨adK 0, adV 0, fun own ix y hy => va_Nw.of rfl (hts _ hy), vk_R.of (A := #[Value.ref b]) (hts _ (hw _ (by simp))) (h2 0 (by decide)), ?_, ?_⟩
  · refine ⟨fun i hi => ?_, fun i j hi hj _ => by omega⟩
    have e : i = 0 := by omega
    subst e
    exact h1.1 0 (by decide)
  · exact va_Zof (hts _ (hw (Cond.laysStatic "java/lang/String" "COMPACT_STRINGS" "Z") (by simp))) (hts _ (hw (Cond.initialized "java/lang/String") (by simp))) (va_eqi (hs _ (by decide +kernel))) hA
theorem whole_from (hq : ∀ k M, jx_meth k = some M → jx_chkH M = true ∧ jx_chkC M = true) {R : Nat → jx_H → jx_H → Prop} (hR : jw_R R) (hR0 : R 0 (jL (fun _ => 0) jz_aL 0) (jM (fun _ => 0) jz_aM 0 0))
    {p : Program} {e : Env} {s : State} {m : MethodId} {below : List Frame} {meth : Method} {c : Code} (l : Launch) {b L : Nat} {xs : Nat → Int32} (hL : L ≤ 256) (C0 : lw_At p s m meth c b L xs) : W p l e room_1 s m #[Value.ref b] below meth c s.heap [] 0 0 (lw_Z below #[Value.ref b] s) (entryFrame m ([Value.ref b] : List Value).toArray 4) := by
  obtain ⟨sK, sV, hKS⟩ := jq_start C0
  exact whole_open hq hR hR0 l hL C0 hKS (fun dC dI cI cB => jq_KK _ _ _ dC dI cI cB)
