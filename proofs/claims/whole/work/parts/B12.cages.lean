/-! ages: the class's rows -/
def isR (a : Nat) : Prop := 143 ≤ a ∧ a ≤ 186 ∧ a ≠ 144 ∧ a ≠ 175 ∧ a ≠ 181
theorem ag_d : ∀ a : Fin 187, 143 ≤ a.val → a.val ≠ 144 → a.val ≠ 175 → a.val ≠ 181 → rC a.val = true ∧ shCL.getD a.val (99, 0) = (13, 16) := by decide +kernel
theorem isR.c {a : Nat} (h : isR a) : rC a = true := (ag_d ⟨a, by have := h.2.1; omega⟩ h.1 h.2.2.1 h.2.2.2.1 h.2.2.2.2).1
theorem isR.s {a : Nat} (h : isR a) : shC a = (13, 16) := (shC_at a (by have := h.2.1; omega)).trans (ag_d ⟨a, by have := h.2.1; omega⟩ h.1 h.2.2.1 h.2.2.2.1 h.2.2.2.2).2
theorem at_row {m : jm_M} (hF : CF m) {i : Nat} (hi : i < 30) : (m 144 i).toNat = 145 + i ∧ isR (145 + i) := by
  have h8 : ∀ l : Fin 30, (144, l.val, 145 + l.val) ∈ rfC := by decide +kernel
  have h : m 144 i = ((145 + i : Nat) : Int) := hF _ (h8 ⟨i, hi⟩)
  exact ⟨by rw [h]; exact Int.toNat_natCast _, by unfold isR; omega⟩
theorem ca_row {m : jm_M} (hF : CF m) {i : Nat} (hi : i < 5) : (m 175 i).toNat = 176 + i ∧ isR (176 + i) ∧ (m 181 i).toNat = 182 + i ∧ isR (182 + i) := by
  have h8 : ∀ l : Fin 5, (175, l.val, 176 + l.val) ∈ rfC ∧ (181, l.val, 182 + l.val) ∈ rfC := by decide +kernel
  have h : m 175 i = ((176 + i : Nat) : Int) := hF _ (h8 ⟨i, hi⟩).1
  have h' : m 181 i = ((182 + i : Nat) : Int) := hF _ (h8 ⟨i, hi⟩).2
  exact ⟨by rw [h]; exact Int.toNat_natCast _, by unfold isR; omega, by rw [h']; exact Int.toNat_natCast _, by unfold isR; omega⟩
theorem r143 : isR 143 := by unfold isR; omega
/-- a row of ages -/
def RA (m : jm_M) (a : Nat) (f : AgT) : Prop := ∀ k, k < 16 → m a k = (f k : Int)
theorem RA.same {m m' : jm_M} {a : Nat} {f : AgT} (h : RA m a f) (hs : ∀ j, m' a j = m a j) : RA m' a f := fun k hk => (hs k).trans (h k hk)
theorem RA.get {m : jm_M} {a : Nat} {f : AgT} (h : RA m a f) (hs : shC a = (13, 16)) {k : Nat} (hk : k < 16) : jra shC m a 13 (k : Int) = some (f k : Int) := by
  rw [jra_ok hs (by omega) (by omega), Int.toNat_natCast, h k hk]
theorem s_copyA {N a b : Nat} {f : AgT} {m : jm_M} (hN : 20 ≤ N) (ha : isR a) (hb : isR b) (hab : a ≠ b) (hA : RA m a f) : ∃ M, f_X0_copy N shC a b m = some M ∧ RA M b f ∧ ∀ c, c ≠ b → ∀ j, M c j = m c j := by
  obtain ⟨M, n', e, q⟩ := loopN (fun n k m => f_X0_copy_l2 N shC n a b k m) 16 (fun k M => (∀ j, j < k → M b j = (f j : Int)) ∧ ∀ c, c ≠ b → ∀ j, M c j = m c j) (fun n k M hk hI => by
    refine ⟨jm_up M b k (f k : Int), ?_, fun j hj => ?_, fun c hc j => (up_ne hc).trans (hI.2 c hc j)⟩
    · show f_X0_copy_b2 N shC (f_X0_copy_l2 N shC n) a b (k : Int) M = _
      unfold f_X0_copy_b2
      rw [if_pos (by omega), (hA.same (hI.2 a hab)).get ha.s (by omega), Option.bind_some, jwa_ok hb.s (by omega) (by omega), Option.bind_some, Int.toNat_natCast, jw_succ (by omega)]
    · by_cases c : j = k
      · rw [c]; exact up_eq
      · rw [up_nk c]; exact hI.1 j (by omega)) 0 N m (by omega) (by omega) ⟨fun j hj => by omega, fun _ _ _ => rfl⟩
  refine ⟨M, ?_, q.1, q.2⟩
  have e : f_X0_copy_l2 N shC N a b 0 m = f_X0_copy_l2 N shC (n' + 1) a b ((16 : Nat) : Int) M := e
  show f_X0_copy_l2 N shC N a b 0 m = _
  rw [e]
  show f_X0_copy_b2 N shC (f_X0_copy_l2 N shC n') a b ((16 : Nat) : Int) M = _
  unfold f_X0_copy_b2
  rw [if_neg (by omega)]
