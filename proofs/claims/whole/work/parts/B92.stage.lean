theorem jm_stage : ∃ (N : Nat) (shC shM : jm_S) (mC0 mM0 : jm_M) (Inv : jm_M → jm_M → Prop), f_X11_init N 191 1 gC1 = some (191, shC, mC0) ∧ f_X12_init N 24 1 gM1 = some (24, shM, mM0) ∧ shC 1 = (11, 10) ∧ shM 1 = (12, 34) ∧ Inv mC0 mM0 ∧ jOp_shelf N shC shM Inv ∧ jOp_say N shC shM Inv ∧ jOp_wipe N shC shM Inv ∧ jOp_fault N shC shM Inv ∧ jOp_program N shC shM Inv ∧ jOp_node N shC shM Inv ∧ jOp_choose N shC shM Inv ∧ jOp_forget N shC shM Inv ∧ jOp_run N shC shM Inv ∧ jOp_most N shC shM Inv ∧ jOp_row N shC shM Inv ∧ jOp_age N shC shM Inv ∧ jOp_sort N shC shM Inv ∧ jOp_bound N shC shM Inv ∧ jOp_fast N shC shM Inv ∧ jOp_crowd N shC shM Inv ∧ jOp_period N shC shM Inv ∧ jOp_breaks N shC shM Inv ∧ jOp_done N shC shM Inv ∧ jOp_late N shC shM Inv ∧ jOp_image N shC shM Inv ∧ jOp_restore N shC shM Inv ∧ jOp_told N shC shM Inv := by
  have hC : f_X11_init jN 191 1 gC1 = some (191, shC, mC0) := by
    have h := gC2_some
    cases e : f_X11_init jN 191 1 gC1 with
    | none => rw [e] at h; cases h
    | some g =>
      have e2 : gC2 = g := by unfold gC2; rw [e]; rfl
      have e3 : g.1 = 191 := by rw [← e2]; exact gC2_1
      rw [show shC = gC2.2.1 from rfl, show mC0 = gC2.2.2 from rfl, e2, ← e3]
  have hM : f_X12_init jN 24 1 gM1 = some (24, shM, mM0) := by
    have h := gM2_some
    cases e : f_X12_init jN 24 1 gM1 with
    | none => rw [e] at h; cases h
    | some g =>
      have e2 : gM2 = g := by unfold gM2; rw [e]; rfl
      have e3 : g.1 = 24 := by rw [← e2]; exact gM2_1
      rw [show shM = gM2.2.1 from rfl, show mM0 = gM2.2.2 from rfl, e2, ← e3]
  exact ⟨jN, shC, shM, mC0, mM0, Inv, hC, hM, sC1, sM1, inv0, op_shelf, op_say, op_wipe, op_fault, op_program, op_node, op_choose, op_forget, op_run, op_most, op_row, op_age, op_sort, op_bound, op_fast, op_crowd, op_period, op_breaks, op_done, op_late, op_image, op_restore, op_told⟩
