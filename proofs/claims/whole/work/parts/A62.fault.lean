/-! sizes of the reference -/
theorem rM_rows : rM 2 = true ∧ rM 3 = true ∧ rM 4 = true ∧ rM 5 = true ∧ rM 6 = true ∧ rM 7 = true ∧ rM 8 = true ∧ rM 9 = true ∧ rM 10 = true ∧ rM 11 = true ∧ rM 12 = true ∧ rM 13 = true ∧ rM 14 = true ∧ rM 15 = true ∧ rM 16 = true ∧ rM 17 = true ∧ rM 18 = true ∧ rM 19 = true ∧ rM 20 = true ∧ rM 21 = true ∧ rM 22 = true ∧ rM 23 = true ∧ rM 24 = true := by decide
theorem MF.upr {m : jm_M} {a i : Nat} {v : Int} (h : MF m) (ha : rM a = true) : MF (jm_up m a i v) := h.up (nM_of ha _)
theorem pt_le (s : Int) : pt s ≤ 2 := by
  unfold pt
  split
  · decide
  · split
    · decide
    · decide
theorem lay_part {N n p i acc c : Nat} {x5 : Nat} {s : Int} {M : jm_M} {k9 : Nat → Int → Int → jm_M → Option jm_M} (hF : MF M) (hp : p < 4) (hi : i < 30) (h5 : M 5 (30 * p + i) = s) (hs : isLf s = true ∨ (98 ≤ s ∧ s ≤ 100) ∨ s = 59 ∨ s = 63) (hx : x5 < pt s) (hc : i + acc < 30) (h6 : M 6 (30 * p + i + acc) = (c : Int)) (hb : c ≤ 30) :
    f_X12_laySizes_l26 N shM k9 (n + 1) 1 p i ((30 * p + i : Nat) : Int) (acc : Int) (x5 : Int) M = f_X12_laySizes_l26 N shM k9 n 1 p i ((30 * p + i : Nat) : Int) ((acc + c : Nat) : Int) ((x5 + 1 : Nat) : Int) M := by
  show f_X12_laySizes_b26 N shM k9 (f_X12_laySizes_l26 N shM k9 n) 1 p i ((30 * p + i : Nat) : Int) (acc : Int) (x5 : Int) M = _
  have hx2 : pt s ≤ 2 := pt_le s
  unfold f_X12_laySizes_b26
  rw [jrf_ok sM1, Option.bind_some, hF.t4, jra_ok sM5 (by omega) (by omega), Option.bind_some, Int.toNat_natCast, h5, sM_partsOf hs, Option.bind_some, if_pos (by omega), jrf_ok sM1, Option.bind_some, hF.t5]
  rw [jw_eq (x := ((30 * p + i : Nat) : Int) + (acc : Int)) (by omega) (by omega), show ((30 * p + i : Nat) : Int) + (acc : Int) = ((30 * p + i + acc : Nat) : Int) by omega, jra_ok sM6 (by omega) (by omega), Option.bind_some, Int.toNat_natCast, h6, jw_eq (x := (acc : Int) + (c : Int)) (by omega) (by omega), jw_succ (by omega)]
  rfl
theorem lay_end {N n p i acc : Nat} {x5 : Nat} {s : Int} {M : jm_M} {k9 : Nat → Int → Int → jm_M → Option jm_M} (hF : MF M) (hp : p < 4) (hi : i < 30) (h5 : M 5 (30 * p + i) = s) (hs : isLf s = true ∨ (98 ≤ s ∧ s ≤ 100) ∨ s = 59 ∨ s = 63) (hx : x5 = pt s) :
    f_X12_laySizes_l26 N shM k9 (n + 1) 1 p i ((30 * p + i : Nat) : Int) (acc : Int) (x5 : Int) M = k9 1 p ((i : Int) - 1) (jm_up M 6 (30 * p + i) (acc : Int)) := by
  show f_X12_laySizes_b26 N shM k9 (f_X12_laySizes_l26 N shM k9 n) 1 p i ((30 * p + i : Nat) : Int) (acc : Int) (x5 : Int) M = _
  unfold f_X12_laySizes_b26
  rw [jrf_ok sM1, Option.bind_some, hF.t4, jra_ok sM5 (by omega) (by omega), Option.bind_some, Int.toNat_natCast, h5, sM_partsOf hs, Option.bind_some, if_neg (by omega), jrf_ok sM1, Option.bind_some, hF.t5, jwa_ok sM6 (by omega) (by omega), Option.bind_some, Int.toNat_natCast, jw_eq (by omega) (by omega)]
  rfl
theorem lay_loop {N p cn : Nat} {sg : Nat → Int} (hN : 5 ≤ N) (hp : p < 4) (hT : TX cn sg) :
    ∀ (i : Nat) (n : Nat) (m : jm_M), i ≤ cn → i < n → MF m → (∀ j, j < cn → m 5 (30 * p + j) = sg j) → (∀ j, i ≤ j → j < cn → m 6 (30 * p + j) = (zs sg 4 j : Int)) →
      ∃ M, f_X12_laySizes_l9 N shM n 1 p ((i : Int) - 1) m = some M ∧ (∀ j, j < cn → M 6 (30 * p + j) = (zs sg 4 j : Int)) ∧ (∀ a, a ≠ 6 → ∀ j, M a j = m a j) ∧ (∀ j, (j < 30 * p ∨ 30 * p + 30 ≤ j) → M 6 j = m 6 j) ∧ MF M := by
  obtain ⟨N, rfl⟩ : ∃ N', N = N' + 5 := ⟨N - 5, by omega⟩
  have hcn := hT.1
  intro i
  induction i with
  | zero =>
    intro n m _ hn hF hs hK
    obtain ⟨n, rfl⟩ : ∃ n', n = n' + 1 := ⟨n - 1, by omega⟩
    refine ⟨m, ?_, fun j hj => hK j (Nat.zero_le _) hj, fun _ _ _ => rfl, fun _ _ => rfl, hF⟩
    show f_X12_laySizes_b9 (N + 5) shM (f_X12_laySizes_l9 (N + 5) shM n) 1 p (((0 : Nat) : Int) - 1) m = _
    unfold f_X12_laySizes_b9
    rw [if_pos (by omega)]
  | succ i ih =>
    intro n m hi hn hF hs hK
    obtain ⟨n, rfl⟩ : ∃ n', n = n' + 1 := ⟨n - 1, by omega⟩
    rw [show (((i + 1 : Nat) : Int) - 1) = (i : Int) by omega]
    have hlt : i < cn := by omega
    have h5 := hs i hlt
    have hsg := hT.sign hlt
    have hnode := hT.node hlt
    have hb : f_X12_laySizes_l9 (N + 5) shM (n + 1) 1 p i m = f_X12_laySizes_l9 (N + 5) shM n 1 p ((i : Int) - 1) (jm_up m 6 (30 * p + i) (zs sg 4 i : Int)) := by
      show f_X12_laySizes_b9 (N + 5) shM (f_X12_laySizes_l9 (N + 5) shM n) 1 p i m = _
      unfold f_X12_laySizes_b9
      rw [if_neg (by omega), jw_eq (x := 30 * (p : Int)) (by omega) (by omega), jw_eq (x := 30 * (p : Int) + (i : Int)) (by omega) (by omega), show 30 * (p : Int) + (i : Int) = ((30 * p + i : Nat) : Int) by omega]
      rcases id hsg with q | q | q
      · rw [zs_s0 (pt_0 q)]
        exact lay_end (acc := 1) (x5 := 0) hF hp (by omega) h5 (Or.inl q) (pt_0 q).symm
      · have hq := pt_1.mpr q
        obtain ⟨e1, e2⟩ := hT.one hlt hq
        have hz : zs sg 4 (i + 1) ≤ 30 := by have := (hT.node e2).2; omega
        refine (lay_part (acc := 1) (x5 := 0) (c := zs sg 4 (i + 1)) hF hp (by omega) h5 hsg (by omega) (by omega) (by rw [show 30 * p + i + 1 = 30 * p + (i + 1) by omega]; exact hK (i + 1) (by omega) e2) hz).trans ?_
        rw [e1]
        exact lay_end (acc := 1 + zs sg 4 (i + 1)) (x5 := 0 + 1) hF hp (by omega) h5 hsg (by omega)
      · have hq := pt_2.mpr q
        obtain ⟨e1, e2, e3⟩ := hT.two hlt hq
        have hz : zs sg 4 (i + 1) ≤ 30 := by have := (hT.node e2).2; omega
        have hz2 : zs sg 4 (nx sg i) ≤ 30 := by have := (hT.node e3).2; omega
        have hnx : nx sg i = i + 1 + zs sg 4 (i + 1) := rfl
        refine (lay_part (acc := 1) (x5 := 0) (c := zs sg 4 (i + 1)) hF hp (by omega) h5 hsg (by omega) (by omega) (by rw [show 30 * p + i + 1 = 30 * p + (i + 1) by omega]; exact hK (i + 1) (by omega) e2) hz).trans ?_
        refine (lay_part (acc := 1 + zs sg 4 (i + 1)) (x5 := 0 + 1) (c := zs sg 4 (nx sg i)) hF hp (by omega) h5 hsg (by omega) (by omega) (by rw [show 30 * p + i + (1 + zs sg 4 (i + 1)) = 30 * p + nx sg i by omega]; exact hK (nx sg i) (by omega) e3) hz2).trans ?_
        rw [e1]
        exact lay_end (acc := 1 + zs sg 4 (i + 1) + zs sg 4 (nx sg i)) (x5 := 0 + 1 + 1) hF hp (by omega) h5 hsg (by omega)
    rw [hb]
    obtain ⟨M', e', k', r', o', c'⟩ := ih n (jm_up m 6 (30 * p + i) (zs sg 4 i : Int)) (by omega) (by omega) (hF.upr rM_rows.2.2.2.2.1) (fun j hj => by rw [up_ne (by decide)]; exact hs j hj) (fun j a b => by
      rw [up_row]
      by_cases c : j = i
      · rw [if_pos (by omega), c]
      · rw [if_neg (by omega)]; exact hK j (by omega) b)
    exact ⟨M', e', k', fun a ha j => (r' a ha j).trans (up_ne ha), fun j hj => (o' j hj).trans (up_nk (by omega)), c'⟩
theorem sM_laySizes {N p cn : Nat} {sg : Nat → Int} {m : jm_M} (hN : 40 ≤ N) (hF : MF m) (hp : p < 4) (hT : TX cn sg) (h4 : m 4 p = (cn : Int)) (h5 : ∀ j, j < cn → m 5 (30 * p + j) = sg j) :
    ∃ M, f_X12_laySizes N shM 1 p m = some M ∧ (∀ j, j < cn → M 6 (30 * p + j) = (zs sg 4 j : Int)) ∧ (∀ a, a ≠ 6 → ∀ j, M a j = m a j) ∧ (∀ j, (j < 30 * p ∨ 30 * p + 30 ≤ j) → M 6 j = m 6 j) ∧ MF M := by
  have hcn := hT.1
  obtain ⟨M, e, k⟩ := lay_loop (N := N) (p := p) (by omega) hp hT cn N m (Nat.le_refl _) (by omega) hF h5 (fun j a b => absurd b (by omega))
  refine ⟨M, ?_, k⟩
  unfold f_X12_laySizes
  rw [jrf_ok sM1, Option.bind_some, hF.t3, jra_ok sM4 (by omega) (by omega), Option.bind_some, Int.toNat_natCast, h4, jw_eq (by omega) (by omega)]
  exact e
/-! the fault: a stack of depths -/
def okG (s : Int) : Bool := isLf s || pt s == 1 || pt s == 2
def prs (pg : Nat → Int) (n : Nat) : Nat → List Nat → Int
  | 0 => fun ws => if ws = [] then -6 else (n : Int)
  | r + 1 => fun ws => match ws with
    | [] => ((n - (r + 1) : Nat) : Int)
    | d :: ws => if okG (pg (n - (r + 1))) = false ∨ (0 < pt (pg (n - (r + 1))) ∧ 4 ≤ d) then ((n - (r + 1) : Nat) : Int) else prs pg n r (List.replicate (pt (pg (n - (r + 1)))) (d + 1) ++ ws)
theorem okG_iff {s : Int} : okG s = true ↔ isLf s = true ∨ (98 ≤ s ∧ s ≤ 100) ∨ s = 59 ∨ s = 63 := by
  unfold okG
  rw [← pt_1, ← pt_2]
  simp only [Bool.or_eq_true, beq_iff_eq, or_assoc]
theorem s_parts_bad {s : Int} (h : okG s = false) : f_X11_partsOf s = some (-1) ∧ f_X12_partsOf s = some (-6) := by
  have h1 : ¬ (isLf s = true ∨ (98 ≤ s ∧ s ≤ 100) ∨ s = 59 ∨ s = 63) := by rw [← okG_iff, h]; decide
  rw [isLf_iff] at h1
  constructor
  · unfold f_X11_partsOf
    rw [if_neg (by omega), if_neg (by omega), if_neg (by omega), if_neg (by omega), if_neg (by omega), if_neg (by omega), s_isLine, if_neg (by omega)]
    rfl
  · unfold f_X12_partsOf f_X12_isLoop
    rw [sM_in, if_neg (by omega), Option.bind_some, if_pos rfl, if_neg (by omega), sM_in, if_neg (by omega), Option.bind_some, jzb_0, Option.bind_some, Option.bind_some, if_pos rfl, if_neg (by omega), if_neg (by omega)]
theorem prs_wf {pg : Nat → Int} {n : Nat} : ∀ (e : Nat), e ≤ 4 → ∀ (r : Nat) (ws : List Nat), r ≤ n → prs pg n r ((4 - e) :: ws) = -6 → wf pg e (n - r) = true ∧ zs pg e (n - r) ≤ r ∧ prs pg n (r - zs pg e (n - r)) ws = -6 := by
  intro e
  induction e with
  | zero =>
    intro _ r ws hr h
    cases r with
    | zero => exact absurd h (by show (if (4 - 0) :: ws = [] then (-6 : Int) else (n : Int)) ≠ -6; rw [if_neg (by simp)]; omega)
    | succ r =>
      have h : (if okG (pg (n - (r + 1))) = false ∨ (0 < pt (pg (n - (r + 1))) ∧ 4 ≤ 4 - 0) then ((n - (r + 1) : Nat) : Int) else prs pg n r (List.replicate (pt (pg (n - (r + 1)))) (4 - 0 + 1) ++ ws)) = -6 := h
      split at h
      · omega
      · rename_i hc
        have h1 : okG (pg (n - (r + 1))) = true := by cases q : okG (pg (n - (r + 1))) with | true => rfl | false => exact absurd (Or.inl q) hc
        have h2 : pt (pg (n - (r + 1))) = 0 := by
          have : ¬ (0 < pt (pg (n - (r + 1)))) := fun q => hc (Or.inr ⟨q, by decide⟩)
          omega
        rw [okG_iff, ← pt_1, ← pt_2, h2] at h1
        have hl : isLf (pg (n - (r + 1))) = true := by simpa using h1
        rw [h2] at h
        exact ⟨hl, by show 1 ≤ r + 1; omega, h⟩
  | succ e ih =>
    intro he r ws hr h
    cases r with
    | zero => exact absurd h (by show (if (4 - (e + 1)) :: ws = [] then (-6 : Int) else (n : Int)) ≠ -6; rw [if_neg (by simp)]; omega)
    | succ r =>
      have h : (if okG (pg (n - (r + 1))) = false ∨ (0 < pt (pg (n - (r + 1))) ∧ 4 ≤ 4 - (e + 1)) then ((n - (r + 1) : Nat) : Int) else prs pg n r (List.replicate (pt (pg (n - (r + 1)))) (4 - (e + 1) + 1) ++ ws)) = -6 := h
      rw [show 4 - (e + 1) + 1 = 4 - e by omega] at h
      split at h
      · omega
      · rename_i hc
        have h1 : okG (pg (n - (r + 1))) = true := by cases q : okG (pg (n - (r + 1))) with | true => rfl | false => exact absurd (Or.inl q) hc
        rw [okG_iff, ← pt_1, ← pt_2] at h1
        have en : n - (r + 1) + 1 = n - r := by omega
        rcases h1 with hl | h1 | h2
        · rw [pt_0 hl] at h
          refine ⟨wf_s.mpr (Or.inl hl), ?_, ?_⟩
          · rw [zs_s0 (pt_0 hl)]; omega
          · rw [zs_s0 (pt_0 hl)]; exact h
        · rw [h1] at h
          obtain ⟨a1, a2, a3⟩ := ih (by omega) r ws (by omega) h
          refine ⟨wf_s.mpr (Or.inr (Or.inl ⟨h1, by rw [en]; exact a1⟩)), ?_, ?_⟩
          · rw [zs_s1 h1, en]; omega
          · rw [zs_s1 h1, en, show r + 1 - (1 + zs pg e (n - r)) = r - zs pg e (n - r) by omega]; exact a3
        · rw [h2] at h
          obtain ⟨a1, a2, a3⟩ := ih (by omega) r ((4 - e) :: ws) (by omega) h
          obtain ⟨b1, b2, b3⟩ := ih (by omega) (r - zs pg e (n - r)) ws (by omega) a3
          have e2 : n - (r - zs pg e (n - r)) = n - r + zs pg e (n - r) := by omega
          rw [e2] at b1 b2 b3
          refine ⟨wf_s.mpr (Or.inr (Or.inr ⟨h2, by rw [en]; exact a1, by rw [en]; exact b1⟩)), ?_, ?_⟩
          · rw [zs_s2 h2, en]; omega
          · rw [zs_s2 h2, en, show r + 1 - (1 + zs pg e (n - r) + zs pg e (n - r + zs pg e (n - r))) = r - zs pg e (n - r) - zs pg e (n - r + zs pg e (n - r)) by omega]; exact b3
theorem prs_TX {pg : Nat → Int} {n : Nat} (hn : n ≤ 30) (h : prs pg n n [0] = -6) : TX n pg := by
  obtain ⟨a, b, c⟩ := prs_wf 4 (Nat.le_refl 4) n [] (Nat.le_refl _) h
  rw [Nat.sub_self] at a b c
  refine ⟨hn, a, ?_⟩
  by_cases e : n - zs pg 4 0 = 0
  · omega
  · obtain ⟨r, hr⟩ : ∃ r, n - zs pg 4 0 = r + 1 := ⟨n - zs pg 4 0 - 1, by omega⟩
    rw [hr] at c
    have c : ((n - (r + 1) : Nat) : Int) = -6 := c
    omega
