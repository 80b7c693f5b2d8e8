/-! the class's stack of depths -/
def WA (m : jm_M) : List Nat → Prop
  | [] => True
  | d :: ws => m 64 ws.length = (d : Int) ∧ WA m ws
theorem WA.up {m : jm_M} {ws : List Nat} {j : Nat} {v : Int} (h : WA m ws) (hj : ws.length ≤ j) : WA (jm_up m 64 j v) ws := by
  induction ws with
  | nil => exact h
  | cons d ws ih =>
    have hj : ws.length + 1 ≤ j := hj
    exact ⟨by rw [up_nk (by omega)]; exact h.1, ih h.2 (by omega)⟩
theorem rep_comm {x q : Nat} {ws : List Nat} : List.replicate q x ++ (x :: ws) = List.replicate (q + 1) x ++ ws := by
  induction q with
  | zero => rfl
  | succ q ih => show x :: (List.replicate q x ++ (x :: ws)) = x :: (List.replicate (q + 1) x ++ ws); rw [ih]
theorem rC_64 : rC 64 = true ∧ rC 63 = true := by decide
theorem fC_push {N k d P : Nat} {k11 : Nat → Int → Int → jm_M → Option (Int × jm_M)} (hP : P ≤ 2) (hk : k < 30) (hd : d < 10) : ∀ (q n : Nat) (ws : List Nat) (m : jm_M), q ≤ P → q < n → ws.length + q ≤ 50 → CF m → WA m ws →
    ∃ M, f_X3_firstFault_l85 N shC k11 n 62 (ws.length : Int) k d (P : Int) ((P - q : Nat) : Int) m = k11 62 ((List.replicate q (d + 1) ++ ws).length : Int) ((k + 1 : Nat) : Int) M ∧ WA M (List.replicate q (d + 1) ++ ws) ∧ (∀ a, a ≠ 64 → ∀ j, M a j = m a j) ∧ CF M := by
  intro q
  induction q with
  | zero =>
    intro n ws m hq hn hl hF hW
    obtain ⟨n, rfl⟩ : ∃ n', n = n' + 1 := ⟨n - 1, by omega⟩
    refine ⟨m, ?_, hW, fun _ _ _ => rfl, hF⟩
    show f_X3_firstFault_b85 N shC k11 (f_X3_firstFault_l85 N shC k11 n) 62 (ws.length : Int) k d (P : Int) ((P - 0 : Nat) : Int) m = _
    unfold f_X3_firstFault_b85 f_X3_firstFault_b119
    rw [if_neg (by omega), jw_succ (by omega)]
    rfl
  | succ q ih =>
    intro n ws m hq hn hl hF hW
    obtain ⟨n, rfl⟩ : ∃ n', n = n' + 1 := ⟨n - 1, by omega⟩
    obtain ⟨M, e, h1, h2, h3⟩ := ih n ((d + 1) :: ws) (jm_up m 64 ws.length ((d + 1 : Nat) : Int)) (by omega) (by omega) (by simp only [List.length_cons]; omega) (hF.up (nC_of rC_64.1 _)) ⟨up_eq, hW.up (Nat.le_refl _)⟩
    rw [rep_comm] at e h1
    refine ⟨M, ?_, h1, fun a ha j => (h2 a ha j).trans (up_ne ha), h3⟩
    rw [← e]
    show f_X3_firstFault_b85 N shC k11 (f_X3_firstFault_l85 N shC k11 n) 62 (ws.length : Int) k d (P : Int) ((P - (q + 1) : Nat) : Int) m = _
    unfold f_X3_firstFault_b85
    rw [if_pos (by omega), jrf_ok sC62, Option.bind_some, hF.t62_2, jlen_ok sC64 (by decide) (by decide) (by decide), Option.bind_some, if_pos (by omega), Option.bind_some, hF.t62_2, jwa_ok sC64 (by omega) (by omega), Option.bind_some, Int.toNat_natCast, jw_succ (by omega), jw_succ (by omega), jw_succ (by omega), show P - (q + 1) + 1 = P - q by omega]
    rfl
theorem okG_pos {s : Int} (h : okG s = true) : f_X11_partsOf s = some (pt s : Int) ∧ f_X12_partsOf s = some (pt s : Int) := ⟨s_partsOf (okG_iff.mp h), sM_partsOf (okG_iff.mp h)⟩
theorem okG_cases (s : Int) : okG s = true ∨ okG s = false := by cases okG s <;> simp
theorem fC_loop {N cnt : Nat} {pg : Nat → Int} (hN : 10 ≤ N) (hc : cnt ≤ 30) : ∀ (r k n : Nat) (ws : List Nat) (m : jm_M), k + r = cnt → r < n → ws.length ≤ k + 1 → (∀ d ∈ ws, d ≤ 4) → CF m → m 62 1 = (cnt : Int) → (∀ i, i < cnt → m 63 i = pg i) → WA m ws →
    ∃ M, f_X3_firstFault_l11 N shC n 62 (ws.length : Int) k m = some (prs pg cnt r ws, M) ∧ (∀ a, a ≠ 64 → ∀ j, M a j = m a j) := by
  intro r
  induction r with
  | zero =>
    intro k n ws m hk hn hl h4 hF h1 hs hW
    obtain ⟨n, rfl⟩ : ∃ n', n = n' + 1 := ⟨n - 1, by omega⟩
    refine ⟨m, ?_, fun _ _ _ => rfl⟩
    show f_X3_firstFault_b11 N shC (f_X3_firstFault_l11 N shC n) 62 (ws.length : Int) k m = some (if ws = [] then -6 else (cnt : Int), m)
    unfold f_X3_firstFault_b11 f_X3_firstFault_b125
    rw [jrf_ok sC62, Option.bind_some, h1, if_neg (by omega)]
    cases ws with
    | nil => rfl
    | cons d ws => rw [if_neg (by simp only [List.length_cons]; omega), if_neg (by simp), Option.bind_some]
  | succ r ih =>
    intro k n ws m hk hn hl h4 hF h1 hs hW
    obtain ⟨n, rfl⟩ : ∃ n', n = n' + 1 := ⟨n - 1, by omega⟩
    have ek : cnt - (r + 1) = k := by omega
    show ∃ M, f_X3_firstFault_b11 N shC (f_X3_firstFault_l11 N shC n) 62 (ws.length : Int) k m = _ ∧ _
    unfold f_X3_firstFault_b11
    rw [jrf_ok sC62, Option.bind_some, h1, if_pos (by omega), jrf_ok sC62, Option.bind_some, hF.t62_0, jlen_ok sC63 (by decide) (by decide) (by decide), Option.bind_some, if_pos (by omega)]
    cases ws with
    | nil =>
      refine ⟨m, ?_, fun _ _ _ => rfl⟩
      rw [if_pos (by simp)]
      show _ = some (((cnt - (r + 1) : Nat) : Int), m)
      rw [ek]
    | cons d ws =>
      have hl : ws.length + 1 ≤ k + 1 := hl
      have hd : d ≤ 4 := h4 d List.mem_cons_self
      show ∃ M, _ = some ((if okG (pg (cnt - (r + 1))) = false ∨ (0 < pt (pg (cnt - (r + 1))) ∧ 4 ≤ d) then ((cnt - (r + 1) : Nat) : Int) else prs pg cnt r (List.replicate (pt (pg (cnt - (r + 1)))) (d + 1) ++ ws)), M) ∧ _
      rw [ek, List.length_cons, if_neg (by omega), jrf_ok sC62, Option.bind_some, hF.t62_2, jlen_ok sC64 (by decide) (by decide) (by decide), Option.bind_some, if_neg (by omega), Option.bind_some, hF.t62_2, jw_eq (x := ((ws.length + 1 : Nat) : Int) + -1) (by omega) (by omega), show ((ws.length + 1 : Nat) : Int) + -1 = (ws.length : Int) by omega, jra_ok sC64 (by omega) (by omega), Option.bind_some, Int.toNat_natCast, Option.bind_some, hF.t62_0, jra_ok sC63 (by omega) (by omega), Option.bind_some, Int.toNat_natCast, hW.1, hs k (by omega)]
      rcases okG_cases (pg k) with c | c
      · rw [(okG_pos c).1, Option.bind_some, if_neg (by omega)]
        have hp2 := pt_le (pg k)
        have push : ∀ k11, ∃ M, f_X3_firstFault_b82 N shC k11 62 (ws.length : Int) k d (pt (pg k) : Int) m = k11 62 ((List.replicate (pt (pg k)) (d + 1) ++ ws).length : Int) ((k + 1 : Nat) : Int) M ∧ WA M (List.replicate (pt (pg k)) (d + 1) ++ ws) ∧ (∀ a, a ≠ 64 → ∀ j, M a j = m a j) ∧ CF M := by
          intro k11
          have := fC_push (N := N) (k := k) (d := d) (P := pt (pg k)) (k11 := k11) hp2 (by omega) (by omega) (pt (pg k)) N ws m (Nat.le_refl _) (by omega) (by omega) hF hW.2
          rw [Nat.sub_self] at this
          exact this
        obtain ⟨M, e, w1, w2, w3⟩ := push (f_X3_firstFault_l11 N shC n)
        have go : pt (pg k) = 0 ∨ d < 4 → ∃ M', f_X3_firstFault_b82 N shC (f_X3_firstFault_l11 N shC n) 62 (ws.length : Int) k d (pt (pg k) : Int) m = some (prs pg cnt r (List.replicate (pt (pg k)) (d + 1) ++ ws), M') ∧ (∀ a, a ≠ 64 → ∀ j, M' a j = m a j) := by
          intro hq
          obtain ⟨M', e', f'⟩ := ih (k + 1) n (List.replicate (pt (pg k)) (d + 1) ++ ws) M (by omega) (by omega) (by simp only [List.length_append, List.length_replicate]; omega) (fun x hx => by
            rcases List.mem_append.mp hx with hx | hx
            · have := List.mem_replicate.mp hx
              omega
            · exact h4 x (List.mem_cons_of_mem _ hx)) w3 (by rw [w2 62 (by decide)]; exact h1) (fun i hi => by rw [w2 63 (by decide)]; exact hs i hi) w1
          exact ⟨M', e.trans e', fun a ha j => (f' a ha j).trans (w2 a ha j)⟩
        by_cases cp : 0 < pt (pg k)
        · rw [if_pos (by omega)]
          by_cases c4 : d < 4
          · rw [if_pos (by omega), if_neg (by rw [c]; simp; omega)]
            exact go (Or.inr c4)
          · rw [if_neg (by omega), if_pos (Or.inr ⟨cp, by omega⟩)]
            exact ⟨m, rfl, fun _ _ _ => rfl⟩
        · rw [if_neg (by omega), if_neg (by rw [c]; simp; omega)]
          exact go (Or.inl (by omega))
      · rw [(s_parts_bad c).1, Option.bind_some, if_pos (by decide), if_pos (Or.inl c)]
        exact ⟨m, rfl, fun _ _ _ => rfl⟩
theorem s_firstFault {N cnt : Nat} {pg : Nat → Int} {m : jm_M} (hN : 100 ≤ N) (hc : cnt ≤ 30) (hF : CF m) (h1 : m 62 1 = (cnt : Int)) (hs : ∀ i, i < cnt → m 63 i = pg i) :
    ∃ M, f_X3_firstFault N shC 62 m = some (prs pg cnt cnt [0], M) ∧ (∀ a, a ≠ 64 → ∀ j, M a j = m a j) := by
  obtain ⟨M, e, f⟩ := fC_loop (N := N) (pg := pg) (by omega) hc cnt 0 N [0] (jm_up m 64 0 0) (by omega) (by omega) (by decide) (by simp) (hF.up (nC_of rC_64.1 _)) (by rw [up_ne (by decide)]; exact h1) (fun i hi => by rw [up_ne (by decide)]; exact hs i hi) ⟨up_eq, trivial⟩
  refine ⟨M, ?_, fun a ha j => (f a ha j).trans (up_ne ha)⟩
  unfold f_X3_firstFault
  rw [jrf_ok sC62, Option.bind_some, hF.t62_2, jwa_ok sC64 (by decide) (by decide), Option.bind_some]
  exact e
