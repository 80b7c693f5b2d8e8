theorem lr_add (sg : Nat → Int) (i a : Nat) : ∀ b, lr sg i (a + b) = lr sg i a ||| lr sg (i + a) b := by
  intro b
  induction b with
  | zero => show lr sg i a = lr sg i a ||| 0; rw [Nat.or_zero]
  | succ b ih => show lr sg i (a + b) ||| lb (sg (i + (a + b))) = _; rw [ih, Nat.or_assoc, ← Nat.add_assoc]; rfl
theorem lr_one (sg : Nat → Int) (i : Nat) : lr sg i 1 = lb (sg i) := by
  show 0 ||| lb (sg (i + 0)) = _
  rw [Nat.zero_or]; rfl
theorem s_partsOf {s : Int} (h : isLf s = true ∨ (98 ≤ s ∧ s ≤ 100) ∨ s = 59 ∨ s = 63) : f_X11_partsOf s = some (pt s : Int) := by
  rw [isLf_iff] at h
  rcases h with (rfl | h) | h | rfl | rfl
  · rfl
  · have : pt s = 0 := pt_0 (isLf_iff.mpr (Or.inr h))
    rw [this]
    unfold f_X11_partsOf f_X11_isLineSign
    rw [if_neg (by omega), if_neg (by omega), if_neg (by omega), if_neg (by omega), if_neg (by omega), if_neg (by omega), if_neg (by omega), if_neg (by omega)]
    rfl
  · have : s = 98 ∨ s = 99 ∨ s = 100 := by omega
    rcases this with rfl | rfl | rfl <;> rfl
  · rfl
  · rfl
theorem sM_partsOf {s : Int} (h : isLf s = true ∨ (98 ≤ s ∧ s ≤ 100) ∨ s = 59 ∨ s = 63) : f_X12_partsOf s = some (pt s : Int) := by
  rw [isLf_iff] at h
  rcases h with (rfl | h) | h | rfl | rfl
  · rfl
  · have : pt s = 0 := pt_0 (isLf_iff.mpr (Or.inr h))
    rw [this]
    unfold f_X12_partsOf
    rw [sM_in, if_pos h]
    rfl
  · have : s = 98 ∨ s = 99 ∨ s = 100 := by omega
    rcases this with rfl | rfl | rfl <;> rfl
  · rfl
  · rfl
theorem tL_rC : ∀ t ∈ tL, rC (t + 1) = true ∧ rC (t + 2) = true ∧ rC (t + 3) = true ∧ nC t 0 = true := by decide
theorem s_lineAt {m : jm_M} (h : CF m) {t : Nat} (ht : t ∈ tL) {i : Nat} (hi : i < 30) (hs : 48 ≤ m (t + 1) i ∧ m (t + 1) i ≤ 55) : f_X10_lineAt shC t i m = some (m (t + 1) i - 48) := by
  have e := s_signAt h ht (i : Int)
  rw [if_pos (by omega), Int.toNat_natCast] at e
  unfold f_X10_lineAt
  rw [jck_ok (tC h t ht).1, Option.bind_some, e, Option.bind_some]
  have : ∀ x : Fin 8, jand ((x.val : Int) + 48) 7 = (x.val : Int) := by decide
  have h1 := this ⟨(m (t + 1) i - 48).toNat, by omega⟩
  simp only at h1
  rw [show (((m (t + 1) i - 48).toNat : Nat) : Int) = m (t + 1) i - 48 by omega, show m (t + 1) i - 48 + 48 = m (t + 1) i by omega] at h1
  rw [h1]
/-- what take has laid for a node -/
def sgx (cn : Nat) (sg : Nat → Int) (i : Nat) : Int := if i < cn then sg i else 45
def zx (cn : Nat) (sg : Nat → Int) (i : Nat) : Nat := if i < cn then zs sg 4 i else 1
def lx (cn : Nat) (sg : Nat → Int) (i : Nat) : Nat := if i < cn then lr sg i (zs sg 4 i) else 0
def TKi (m : jm_M) (t cn : Nat) (sg : Nat → Int) (i : Nat) : Prop := m (t + 1) i = sgx cn sg i ∧ m (t + 2) i = (zx cn sg i : Int) ∧ m (t + 3) i = (lx cn sg i : Int)
def TKf (m M : jm_M) (t i : Nat) : Prop := ∀ a j, ¬ ((a = t + 1 ∨ a = t + 2 ∨ a = t + 3) ∧ j = i) → M a j = m a j
theorem TKf.up {m M : jm_M} {t i a : Nat} {v : Int} (h : TKf m M t i) (ha : a = t + 1 ∨ a = t + 2 ∨ a = t + 3) : TKf m (jm_up M a i v) t i := by
  intro b j hn
  unfold jm_up
  rw [if_neg (fun z => hn ⟨by rw [z.1]; exact ha, z.2⟩)]
  exact h b j hn
theorem zx_lt {cn : Nat} {sg : Nat → Int} (hT : TX cn sg) (i : Nat) : zx cn sg i ≤ 30 := by
  unfold zx
  split
  · rename_i h
    have := (hT.node h).2
    have := hT.1
    omega
  · omega
theorem lx_lt (cn : Nat) (sg : Nat → Int) (i : Nat) : lx cn sg i < 256 := by
  unfold lx
  split
  · exact lr_lt _ _ _
  · decide
theorem CF.ups {M : jm_M} {t a i : Nat} {v : Int} (hF : CF M) (ht : t ∈ tL) (ha : a = t + 1 ∨ a = t + 2 ∨ a = t + 3) : CF (jm_up M a i v) := by
  obtain ⟨r1, r2, r3, -⟩ := tL_rC t ht
  rcases ha with rfl | rfl | rfl
  · exact hF.up (nC_of r1 _)
  · exact hF.up (nC_of r2 _)
  · exact hF.up (nC_of r3 _)
/-- one part is taken in -/
theorem take_part {N n t a1 i c : Nat} {x5 x6 : Int} {M : jm_M} {k13 : Nat → Nat → Int → jm_M → Option jm_M} {zi li zc lc : Nat} (ht : t ∈ tL) (hF : CF M) (hi : i < 30) (hc : c < 30) (hx : 0 < x5) (hic : i ≠ c) (h1 : M (t + 2) i = (zi : Int)) (h2 : M (t + 3) i = (li : Int)) (h3 : M (t + 2) c = (zc : Int)) (h4 : M (t + 3) c = (lc : Int)) (b1 : zi ≤ 100) (b2 : li < 256) (b3 : zc ≤ 100) (b4 : lc < 256) (b5 : x5 ≤ 2) (b6 : x5 - 1 = x6) :
    f_X10_take_l91 N shC k13 (n + 1) t a1 i c x5 M = f_X10_take_l91 N shC k13 n t a1 i ((c + zc : Nat) : Int) x6 (jm_up (jm_up M (t + 2) i ((zi + zc : Nat) : Int)) (t + 3) i ((li ||| lc : Nat) : Int)) := by
  obtain ⟨t1, t2, t3, t4, t5, t6, t7⟩ := tC hF t ht
  have hF2 := hF.ups (i := i) (v := ((zi + zc : Nat) : Int)) ht (Or.inr (Or.inl rfl))
  have u7 := (tC hF2 t ht).2.2.2.2.2.2
  show f_X10_take_b91 N shC k13 (f_X10_take_l91 N shC k13 n) t a1 i c x5 M = _
  have ez : f_X10_sizeAt shC t c M = some (zc : Int) := by rw [s_sizeAt hF ht, if_pos (by omega), Int.toNat_natCast, h3]
  have el : f_X10_linesWithin shC t c (jm_up M (t + 2) i ((zi + zc : Nat) : Int)) = some (lc : Int) := by rw [s_linesWithin hF2 ht, if_pos (by omega), Int.toNat_natCast, up_ne (by omega), h4]
  unfold f_X10_take_b91
  rw [if_pos hx, jck_ok t1, Option.bind_some, ez, Option.bind_some, jrf_ok t1, Option.bind_some, t6, Int.toNat_natCast, jra_ok t3 (by omega) (by omega), Option.bind_some, Int.toNat_natCast, h1, jwa_ok t3 (by omega) (by omega), Option.bind_some, Int.toNat_natCast]
  rw [show jw ((zi : Int) + (zc : Int)) = ((zi + zc : Nat) : Int) by rw [jw_eq (by omega) (by omega)]; omega]
  rw [jrf_ok t1, Option.bind_some, u7, Int.toNat_natCast, jra_ok t4 (by omega) (by omega), Option.bind_some, Int.toNat_natCast, up_ne (by omega), h2, Option.bind_some, el, Option.bind_some, jwa_ok t4 (by omega) (by omega), Option.bind_some, Int.toNat_natCast, jor_nat (by omega) (by omega)]
  rw [jw_eq (x := (c : Int) + zc) (by omega) (by omega), jw_eq (x := x5 + -1) (by omega) (by omega), show x5 + -1 = x6 by omega]
  rfl
theorem take_end {N n t a1 i : Nat} {x4 : Int} {M : jm_M} {k13 : Nat → Nat → Int → jm_M → Option jm_M} (hi : i < 30) : f_X10_take_l91 N shC k13 (n + 1) t a1 i x4 0 M = k13 t a1 ((i : Int) - 1) M := by
  show f_X10_take_b91 N shC k13 (f_X10_take_l91 N shC k13 n) t a1 i x4 0 M = _
  unfold f_X10_take_b91
  rw [if_neg (by omega), jw_eq (by omega) (by omega)]
  rfl
theorem jshl_line {s : Int} (h : 48 ≤ s ∧ s ≤ 55) : jshl 1 (s - 48) = (lb s : Int) := by
  have h1 := jshl_one ⟨(s - 48).toNat, by omega⟩
  simp only at h1
  rw [show (((s - 48).toNat : Nat) : Int) = s - 48 by omega] at h1
  rw [h1]
  unfold lb
  rw [if_pos h]
theorem s_isLine (s : Int) : f_X11_isLineSign s = some (if 48 ≤ s ∧ s ≤ 55 then 1 else 0) := by
  unfold f_X11_isLineSign
  split
  · rw [if_neg (by omega)]
  · split
    · rw [if_neg (by omega)]
    · rw [if_pos (by omega)]
/-- one node is laid -/
theorem take_node {N n t a1 i cn : Nat} {sg : Nat → Int} {m : jm_M} (hN : 5 ≤ N) (ht : t ∈ tL) (hF : CF m) (hT : TX cn sg) (hi : i < 30) (h0 : m t 0 = (cn : Int)) (ha : shC a1 = (13, 30)) (hsg : i < cn → m a1 i = sg i) (hK : ∀ j, i < j → j < 30 → TKi m t cn sg j) :
    ∃ M, f_X10_take_l13 N shC (n + 1) t a1 i m = f_X10_take_l13 N shC n t a1 ((i : Int) - 1) M ∧ TKi M t cn sg i ∧ TKf m M t i ∧ CF M := by
  obtain ⟨N, rfl⟩ : ∃ N', N = N' + 5 := ⟨N - 5, by omega⟩
  obtain ⟨t1, t2, t3, t4, t5, t6, t7⟩ := tC hF t ht
  have hsx : isLf (sgx cn sg i) = true ∨ (98 ≤ sgx cn sg i ∧ sgx cn sg i ≤ 100) ∨ sgx cn sg i = 59 ∨ sgx cn sg i = 63 := by
    unfold sgx
    split
    · rename_i h; exact hT.sign h
    · exact Or.inl rfl
  have hl : lb (sgx cn sg i) < 256 := lb_lt _
  -- the memory when the sign, the size 1 and the own line stand
  let M0 : jm_M := jm_up (jm_up (jm_up m (t + 1) i (sgx cn sg i)) (t + 2) i 1) (t + 3) i (lb (sgx cn sg i) : Int)
  have hF1 : CF (jm_up m (t + 1) i (sgx cn sg i)) := hF.ups ht (Or.inl rfl)
  have hF2 : CF (jm_up (jm_up m (t + 1) i (sgx cn sg i)) (t + 2) i 1) := hF1.ups ht (Or.inr (Or.inl rfl))
  have hF0 : CF M0 := hF2.ups ht (Or.inr (Or.inr rfl))
  have u6 := (tC hF1 t ht).2.2.2.2.2.1
  have u7 := (tC hF2 t ht).2.2.2.2.2.2
  have u5 := (tC hF2 t ht).2.2.2.2.1
  have v5 := (tC hF0 t ht).2.2.2.2.1
  have g1 : M0 (t + 1) i = sgx cn sg i := by show jm_up _ _ _ _ _ _ = _; rw [up_ne (by omega), up_ne (by omega), up_eq]
  have g2 : M0 (t + 2) i = ((1 : Nat) : Int) := by show jm_up _ _ _ _ _ _ = _; rw [up_ne (by omega), up_eq]; rfl
  have g3 : M0 (t + 3) i = (lb (sgx cn sg i) : Int) := up_eq
  have gf : TKf m M0 t i := TKf.up (TKf.up (TKf.up (fun _ _ _ => rfl) (Or.inl rfl)) (Or.inr (Or.inl rfl))) (Or.inr (Or.inr rfl))
  have hread : ∀ j, i < j → j < 30 → M0 (t + 2) j = (zx cn sg j : Int) ∧ M0 (t + 3) j = (lx cn sg j : Int) := fun j h1 h2 => by
    have a := hK j h1 h2
    exact ⟨by rw [gf _ _ (by omega)]; exact a.2.1, by rw [gf _ _ (by omega)]; exact a.2.2⟩
  have hb74 : ∀ k13, f_X10_take_b74 (N + 5) shC k13 t a1 i (t + 3) i (lb (sgx cn sg i) : Int) (jm_up (jm_up m (t + 1) i (sgx cn sg i)) (t + 2) i 1) = f_X10_take_l91 (N + 5) shC k13 (N + 5) t a1 i ((i + 1 : Nat) : Int) (pt (sgx cn sg i) : Int) M0 := by
    intro k13
    unfold f_X10_take_b74
    rw [jwa_ok t4 (by omega) (by omega), Option.bind_some, Int.toNat_natCast, jrf_ok t1, Option.bind_some]
    rw [show jm_up (jm_up (jm_up m (t + 1) i (sgx cn sg i)) (t + 2) i 1) (t + 3) i (lb (sgx cn sg i) : Int) = M0 from rfl, v5, Int.toNat_natCast, jra_ok t2 (by omega) (by omega), Option.bind_some, Int.toNat_natCast, g1, s_partsOf hsx, Option.bind_some, jw_succ (by omega)]
  have hb38 : ∀ k13, f_X10_take_b38 (N + 5) shC k13 t a1 i (t + 1) i (sgx cn sg i) m = f_X10_take_l91 (N + 5) shC k13 (N + 5) t a1 i ((i + 1 : Nat) : Int) (pt (sgx cn sg i) : Int) M0 := by
    intro k13
    unfold f_X10_take_b38
    rw [jwa_ok t2 (by omega) (by omega), Option.bind_some, Int.toNat_natCast, jrf_ok t1, Option.bind_some, u6, Int.toNat_natCast, jwa_ok t3 (by omega) (by omega), Option.bind_some, Int.toNat_natCast, jrf_ok t1, Option.bind_some, jrf_ok t1, Option.bind_some, u5, u7, Int.toNat_natCast, Int.toNat_natCast, jra_ok t2 (by omega) (by omega), Option.bind_some, Int.toNat_natCast]
    have e1 : jm_up (jm_up m (t + 1) i (sgx cn sg i)) (t + 2) i 1 (t + 1) i = sgx cn sg i := by rw [up_ne (by omega), up_eq]
    rw [e1, s_isLine, Option.bind_some]
    by_cases c : 48 ≤ sgx cn sg i ∧ sgx cn sg i ≤ 55
    · rw [if_pos c, if_neg (by decide), jck_ok t1, Option.bind_some, s_lineAt hF2 ht hi (by rw [e1]; exact c), Option.bind_some, e1, jshl_line c, hb74]
    · rw [if_neg c, if_pos rfl]
      have : lb (sgx cn sg i) = 0 := by unfold lb; rw [if_neg c]
      have h0 : (0 : Int) = (lb (sgx cn sg i) : Int) := by rw [this]; rfl
      rw [h0, hb74]
  have hb13 : f_X10_take_l13 (N + 5) shC (n + 1) t a1 i m = f_X10_take_l91 (N + 5) shC (f_X10_take_l13 (N + 5) shC n) (N + 5) t a1 i ((i + 1 : Nat) : Int) (pt (sgx cn sg i) : Int) M0 := by
    show f_X10_take_b13 (N + 5) shC (f_X10_take_l13 (N + 5) shC n) t a1 i m = _
    unfold f_X10_take_b13
    rw [if_neg (by omega), jrf_ok t1, Option.bind_some, jrf_ok t1, Option.bind_some, h0, t5, Int.toNat_natCast]
    by_cases c : i < cn
    · rw [if_pos (by omega), jra_ok ha (by omega) (by omega), Option.bind_some, Int.toNat_natCast, hsg c]
      have : sg i = sgx cn sg i := by unfold sgx; rw [if_pos c]
      rw [this, hb38]
    · rw [if_neg (by omega)]
      have : (45 : Int) = sgx cn sg i := by unfold sgx; rw [if_neg c]
      rw [this, hb38]
  rw [hb13]
  by_cases c : i < cn
  · have es : sgx cn sg i = sg i := by unfold sgx; rw [if_pos c]
    have hcn := hT.1
    rcases hT.sign c with hs | hs | hs
    · rw [es, pt_0 hs]
      refine ⟨M0, take_end hi, ⟨g1, ?_, ?_⟩, gf, hF0⟩
      · rw [g2]; unfold zx; rw [if_pos c, zs_s0 (pt_0 hs)]
      · rw [g3, es]; unfold lx; rw [if_pos c, zs_s0 (pt_0 hs), lr_one]
    · have hp := pt_1.mpr hs
      obtain ⟨e1, e2⟩ := hT.one c hp
      have ez : zx cn sg (i + 1) = zs sg 4 (i + 1) := by unfold zx; rw [if_pos e2]
      have el : lx cn sg (i + 1) = lr sg (i + 1) (zs sg 4 (i + 1)) := by unfold lx; rw [if_pos e2]
      have hzl := zx_lt hT (i + 1)
      rw [es, hp]
      rw [es] at g3
      have hr := hread (i + 1) (by omega) (by omega)
      rw [take_part (x6 := 0) ht hF0 hi (show i + 1 < 30 by omega) (by decide) (by omega) g2 g3 hr.1 hr.2 (by decide) (lb_lt _) (by omega) (lx_lt _ _ _) (by decide) rfl]
      refine ⟨_, take_end hi, ?_, ?_, ?_⟩
      · refine ⟨?_, ?_, ?_⟩
        · rw [up_ne (by omega), up_ne (by omega)]; exact g1
        · rw [up_ne (by omega), up_eq]; unfold zx; rw [if_pos c, e1, if_pos e2]
        · rw [up_eq, el]; unfold lx; rw [if_pos c, e1, lr_add, lr_one]
      · exact TKf.up (TKf.up gf (Or.inr (Or.inl rfl))) (Or.inr (Or.inr rfl))
      · exact (hF0.ups ht (Or.inr (Or.inl rfl))).ups ht (Or.inr (Or.inr rfl))
    · have hp := pt_2.mpr hs
      obtain ⟨e1, e2, e3⟩ := hT.two c hp
      have ez : zx cn sg (i + 1) = zs sg 4 (i + 1) := by unfold zx; rw [if_pos e2]
      have el : lx cn sg (i + 1) = lr sg (i + 1) (zs sg 4 (i + 1)) := by unfold lx; rw [if_pos e2]
      have ez2 : zx cn sg (nx sg i) = zs sg 4 (nx sg i) := by unfold zx; rw [if_pos e3]
      have el2 : lx cn sg (nx sg i) = lr sg (nx sg i) (zs sg 4 (nx sg i)) := by unfold lx; rw [if_pos e3]
      have hzl := zx_lt hT (i + 1)
      have hzl2 := zx_lt hT (nx sg i)
      have hnx : nx sg i = i + 1 + zx cn sg (i + 1) := by unfold nx; rw [ez]
      have hlt1 : lb (sg i) < 256 := lb_lt _
      have hlt2 := lx_lt cn sg (i + 1)
      rw [es, hp]
      rw [es] at g3
      have hr := hread (i + 1) (by omega) (by omega)
      have hr2 := hread (nx sg i) (by unfold nx; omega) (by omega)
      have hF3 : CF (jm_up (jm_up M0 (t + 2) i ((1 + zx cn sg (i + 1) : Nat) : Int)) (t + 3) i ((lb (sg i) ||| lx cn sg (i + 1) : Nat) : Int)) := (hF0.ups ht (Or.inr (Or.inl rfl))).ups ht (Or.inr (Or.inr rfl))
      rw [take_part (x6 := 1) ht hF0 hi (show i + 1 < 30 by omega) (by decide) (by omega) g2 g3 hr.1 hr.2 (by decide) (lb_lt _) (by omega) (lx_lt _ _ _) (by decide) rfl]
      rw [← hnx]
      rw [take_part (x6 := 0) (zi := 1 + zx cn sg (i + 1)) (li := lb (sg i) ||| lx cn sg (i + 1)) (zc := zx cn sg (nx sg i)) (lc := lx cn sg (nx sg i)) ht hF3 hi (show nx sg i < 30 by omega) (by decide) (by unfold nx; omega) (by rw [up_ne (by omega), up_eq]) up_eq (by rw [up_ne (by omega), up_nk (by unfold nx; omega)]; exact hr2.1) (by rw [up_nk (by unfold nx; omega), up_ne (by omega)]; exact hr2.2) (by omega) (Nat.or_lt_two_pow (n := 8) hlt1 hlt2) (by omega) (lx_lt _ _ _) (by decide) rfl]
      refine ⟨_, take_end hi, ?_, ?_, ?_⟩
      · refine ⟨?_, ?_, ?_⟩
        · rw [up_ne (by omega), up_ne (by omega), up_ne (by omega), up_ne (by omega), g1]
        · rw [up_ne (by omega), up_eq, ez, ez2]; unfold zx; rw [if_pos c, e1]
        · rw [up_eq, el, el2]; unfold lx; rw [if_pos c, e1, lr_add, lr_add, lr_one, show i + (1 + zs sg 4 (i + 1)) = nx sg i by unfold nx; omega]
      · exact TKf.up (TKf.up (TKf.up (TKf.up gf (Or.inr (Or.inl rfl))) (Or.inr (Or.inr rfl))) (Or.inr (Or.inl rfl))) (Or.inr (Or.inr rfl))
      · exact (hF3.ups ht (Or.inr (Or.inl rfl))).ups ht (Or.inr (Or.inr rfl))
  · have es : sgx cn sg i = 45 := by unfold sgx; rw [if_neg c]
    rw [es, show pt 45 = 0 from rfl]
    refine ⟨M0, take_end hi, ⟨g1, ?_, ?_⟩, gf, hF0⟩
    · rw [g2]; unfold zx; rw [if_neg c]
    · rw [g3, es]; unfold lx; rw [if_neg c]; rfl
theorem take_loop {N t a1 cn : Nat} {sg : Nat → Int} (hN : 5 ≤ N) (ht : t ∈ tL) (hT : TX cn sg) (ha : shC a1 = (13, 30)) (h1 : a1 ≠ t + 1) (h2 : a1 ≠ t + 2) (h3 : a1 ≠ t + 3) :
    ∀ (i : Nat) (n : Nat) (m : jm_M), i ≤ 30 → i < n → CF m → m t 0 = (cn : Int) → (∀ j, j < cn → m a1 j = sg j) → (∀ j, i ≤ j → j < 30 → TKi m t cn sg j) →
      ∃ M, f_X10_take_l13 N shC n t a1 ((i : Int) - 1) m = some M ∧ (∀ j, j < 30 → TKi M t cn sg j) ∧ (∀ a, a ≠ t + 1 → a ≠ t + 2 → a ≠ t + 3 → ∀ j, M a j = m a j) ∧ CF M := by
  intro i
  induction i with
  | zero =>
    intro n m _ hn hF h0 hs hK
    obtain ⟨n, rfl⟩ : ∃ n', n = n' + 1 := ⟨n - 1, by omega⟩
    refine ⟨m, ?_, fun j hj => hK j (Nat.zero_le _) hj, fun _ _ _ _ _ => rfl, hF⟩
    show f_X10_take_b13 N shC (f_X10_take_l13 N shC n) t a1 (((0 : Nat) : Int) - 1) m = _
    unfold f_X10_take_b13
    rw [if_pos (by omega)]
  | succ i ih =>
    intro n m hi hn hF h0 hs hK
    obtain ⟨n, rfl⟩ : ∃ n', n = n' + 1 := ⟨n - 1, by omega⟩
    rw [show (((i + 1 : Nat) : Int) - 1) = (i : Int) by omega]
    obtain ⟨M, e, hk, hf, hC⟩ := take_node (n := n) hN ht hF hT (show i < 30 by omega) h0 ha (fun h => hs i h) (fun j a b => hK j a b)
    have hrow : ∀ a, a ≠ t + 1 → a ≠ t + 2 → a ≠ t + 3 → ∀ j, M a j = m a j := fun a a1 a2 a3 j => hf a j (by omega)
    have := ih n M (by omega) (by omega) hC (by rw [hrow t (by omega) (by omega) (by omega)]; exact h0) (fun j hj => by rw [hrow a1 h1 h2 h3]; exact hs j hj) (fun j a b => by
      by_cases c : j = i
      · subst c; exact hk
      · have q := hK j (by omega) b
        refine ⟨?_, ?_, ?_⟩
        · rw [hf _ _ (by omega)]; exact q.1
        · rw [hf _ _ (by omega)]; exact q.2.1
        · rw [hf _ _ (by omega)]; exact q.2.2)
    obtain ⟨M', e', k', r', c'⟩ := this
    exact ⟨M', e.trans e', k', fun a a1 a2 a3 j => (r' a a1 a2 a3 j).trans (hrow a a1 a2 a3 j), c'⟩
theorem CT.of {m : jm_M} {t cn : Nat} {sg : Nat → Int} (hT : TX cn sg) (h0 : m t 0 = (cn : Int)) (hk : ∀ j, j < 30 → TKi m t cn sg j) : CT m t cn sg := by
  have hcn := hT.1
  refine ⟨h0, fun i hi => ?_, fun i hi hj => ?_, fun i hi => ?_, fun i hi hj => ?_, fun i hi => ?_, fun i hi hj => ?_⟩
  · rw [(hk i (by omega)).1]; unfold sgx; rw [if_pos hi]
  · rw [(hk i (by omega)).1]; unfold sgx; rw [if_neg (by omega)]
  · rw [(hk i (by omega)).2.1]; unfold zx; rw [if_pos hi]
  · rw [(hk i (by omega)).2.1]; unfold zx; rw [if_neg (by omega)]; rfl
  · rw [(hk i (by omega)).2.2]; unfold lx; rw [if_pos hi]
  · rw [(hk i (by omega)).2.2]; unfold lx; rw [if_neg (by omega)]; rfl
/-- take: a text is laid at t -/
theorem s_take {N t a1 cn : Nat} {sg : Nat → Int} {m : jm_M} (hN : 40 ≤ N) (ht : t ∈ tL) (hF : CF m) (hT : TX cn sg) (ha : shC a1 = (13, 30)) (h0 : a1 ≠ t) (h1 : a1 ≠ t + 1) (h2 : a1 ≠ t + 2) (h3 : a1 ≠ t + 3) (hs : ∀ j, j < cn → m a1 j = sg j) :
    ∃ M, f_X10_take N shC t a1 (cn : Int) m = some M ∧ CT M t cn sg ∧ (∀ a, a ≠ t → a ≠ t + 1 → a ≠ t + 2 → a ≠ t + 3 → ∀ j, M a j = m a j) ∧ (∀ j, j ≠ 0 → M t j = m t j) ∧ CF M := by
  have hcn := hT.1
  obtain ⟨t1, -⟩ := tC hF t ht
  have hn0 := (tL_rC t ht).2.2.2
  obtain ⟨M, e, hk, hr, hC⟩ := take_loop (N := N) (by omega) ht hT ha h1 h2 h3 30 N (jm_up m t 0 (cn : Int)) (by omega) (by omega) (hF.up hn0) up_eq (fun j hj => by rw [up_ne h0]; exact hs j hj) (fun j a b => absurd b (by omega))
  refine ⟨M, ?_, CT.of hT (by rw [hr t (by omega) (by omega) (by omega)]; exact up_eq) hk, fun a a0 a1 a2 a3 j => by rw [hr a a1 a2 a3]; exact up_ne a0, fun j hj => by rw [hr t (by omega) (by omega) (by omega)]; exact up_nk hj, hC⟩
  unfold f_X10_take
  rw [jlen_ok ha (by decide) (by decide) (by decide), Option.bind_some]
  have : f_J9_min_7cf53 (cn : Int) ((30 : Nat) : Int) = some (cn : Int) := by
    unfold f_J9_min_7cf53
    rw [if_neg (by omega)]
  rw [this, Option.bind_some, jwf_ok t1, Option.bind_some]
  exact e
