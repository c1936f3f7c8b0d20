/-! the two objects as their constructors leave them -/
def jz_LL : List Nat := [40, 6, 6, 4, 6, 6, 6, 6, 6, 6, 6, 4, 6, 6, 6, 6, 6, 4, 64, 64]
def jz_LM : List Nat := [6, 6, 4, 6, 6, 6, 6, 6, 6, 40, 6, 6, 6, 6, 6, 341, 6, 6, 4, 6, 6, 6, 6, 6]
def jz_aL (k : Nat) : List Int32 := List.replicate (jz_LL.getD k 0) 0
def jz_aM (k : Nat) : List Int32 := List.replicate (jz_LM.getD k 0) 0
def jz_v (a b : Value) : Bool := match a, b with
  | .int x, .int y => decide (x = y)
  | .long x, .long y => decide (x = y)
  | .ref x, .ref y => decide (x = y)
  | .null, .null => true
  | _, _ => false
theorem jz_v_eq {a b : Value} (h : jz_v a b = true) : a = b := by
  cases a <;> cases b <;> first | rfl | cases h | (simp only [jz_v, decide_eq_true_eq] at h; rw [h])
def jz_l {α : Type} (f : α → α → Bool) : List α → List α → Bool
  | [], [] => true
  | a :: r, b :: s => f a b && jz_l f r s
  | _, _ => false
theorem jz_l_eq {α : Type} {f : α → α → Bool} (hf : ∀ a b, f a b = true → a = b) : ∀ {r s : List α}, jz_l f r s = true → r = s
  | [], [], _ => rfl
  | [], _ :: _, h => by cases h
  | _ :: _, [], h => by cases h
  | a :: r, b :: s, h => by
    simp only [jz_l, Bool.and_eq_true] at h
    rw [hf _ _ h.1, jz_l_eq hf h.2]
def jz_c (a b : jx_E) : Bool := match a, b with
  | .inl (t, l), .inl (u, m) => decide (t = u) && decide (l = m)
  | .inr (t, l), .inr (u, m) => decide (t = u) && jz_l jz_v l m
  | _, _ => false
theorem jz_c_eq : ∀ a b : jx_E, jz_c a b = true → a = b
  | .inl (t, l), .inl (u, m), h => by
    simp only [jz_c, Bool.and_eq_true, decide_eq_true_eq] at h
    rw [h.1, h.2]
  | .inr (t, l), .inr (u, m), h => by
    simp only [jz_c, Bool.and_eq_true, decide_eq_true_eq] at h
    rw [h.1, jz_l_eq (fun _ _ => jz_v_eq) h.2]
  | .inl _, .inr _, h => by cases h
  | .inr _, .inl _, h => by cases h
def jz_o (a : Option (jx_H × Nat × Nat)) (b : jx_H × Nat × Nat) : Bool := match a with
  | some (h, c, n) => jz_l jz_c h b.1 && decide (c = b.2.1) && decide (n = b.2.2)
  | none => false
theorem jz_o_eq {a : Option (jx_H × Nat × Nat)} {b : jx_H × Nat × Nat} (h : jz_o a b = true) : a = some b := by
  obtain ⟨b1, b2, b3⟩ := b
  cases a with
  | none => cases h
  | some a =>
    obtain ⟨a1, a2, a3⟩ := a
    simp only [jz_o, Bool.and_eq_true, decide_eq_true_eq] at h
    rw [jz_l_eq jz_c_eq h.1.1, h.1.2, h.2]
theorem jz_L : ja_run 200 8 jk_X6_init 0 [some (.ref 0)] [] [.inr (6, ja_def 6)] 0 0 = some (jL (fun _ => 0) jz_aL 0, 47, 333) := jz_o_eq (by decide +kernel)
theorem jz_M : ja_run 200 8 jk_X7_init 0 [some (.ref 0)] [] [.inr (7, ja_def 7)] 0 0 = some (jM (fun _ => 0) jz_aM 0 0, 24, 509) := jz_o_eq (by decide +kernel)
