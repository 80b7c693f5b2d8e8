/-! the reference's rows of what is due -/
def DU (m : jm_M) : List Nat → Prop
  | [] => True
  | u :: ds => m 9 ds.length = (u : Int) ∧ DU m ds
theorem DU.up {m : jm_M} {ds : List Nat} {j : Nat} {v : Int} (h : DU m ds) (hj : ds.length ≤ j) : DU (jm_up m 9 j v) ds := by
  induction ds with
  | nil => exact h
  | cons d ds ih =>
    have hj : ds.length + 1 ≤ j := hj
    exact ⟨by rw [up_nk (by omega)]; exact h.1, ih h.2 (by omega)⟩
def dcr : List Nat → List Nat
  | [] => []
  | u :: r => if u - 1 = 0 then dcr r else (u - 1) :: r
def stk : List Nat → List Nat
  | [] => []
  | u :: r => List.replicate (u - 1) (r.length + 1) ++ stk r
theorem dcr_spec : ∀ ds : List Nat, (dcr ds = [] ∧ stk ds = []) ∨ (dcr ds ≠ [] ∧ stk ds = (dcr ds).length :: stk (dcr ds))
  | [] => Or.inl ⟨rfl, rfl⟩
  | u :: r => by
    show ((if u - 1 = 0 then dcr r else (u - 1) :: r) = [] ∧ List.replicate (u - 1) (r.length + 1) ++ stk r = []) ∨ ((if u - 1 = 0 then dcr r else (u - 1) :: r) ≠ [] ∧ List.replicate (u - 1) (r.length + 1) ++ stk r = (if u - 1 = 0 then dcr r else (u - 1) :: r).length :: stk (if u - 1 = 0 then dcr r else (u - 1) :: r))
    by_cases c : u - 1 = 0
    · rw [if_pos c, c]
      exact dcr_spec r
    · rw [if_neg c]
      refine Or.inr ⟨by simp, ?_⟩
      obtain ⟨v, hv⟩ : ∃ v, u - 1 = v + 1 := ⟨u - 2, by omega⟩
      rw [hv]
      show (r.length + 1) :: (List.replicate v (r.length + 1) ++ stk r) = (r.length + 1) :: (List.replicate (v + 1 - 1) (r.length + 1) ++ stk r)
      rfl
theorem dcr_len : ∀ ds : List Nat, (dcr ds).length ≤ ds.length
  | [] => Nat.le_refl 0
  | u :: r => by
    show (if u - 1 = 0 then dcr r else (u - 1) :: r).length ≤ r.length + 1
    split
    · have := dcr_len r; omega
    · simp
theorem dcr_all : ∀ ds : List Nat, (∀ u ∈ ds, 1 ≤ u ∧ u ≤ 2) → ∀ u ∈ dcr ds, 1 ≤ u ∧ u ≤ 2
  | [], _, u, hu => by cases hu
  | v :: r, h, u, hu => by
    have hu : u ∈ (if v - 1 = 0 then dcr r else (v - 1) :: r) := hu
    split at hu
    · exact dcr_all r (fun x hx => h x (List.mem_cons_of_mem _ hx)) u hu
    · have := h v List.mem_cons_self
      rcases List.mem_cons.mp hu with rfl | hu
      · omega
      · exact h u (List.mem_cons_of_mem _ hu)
theorem dcr_0 {u : Nat} {r : List Nat} (c : u - 1 = 0) : dcr (u :: r) = dcr r := if_pos c
theorem dcr_1 {u : Nat} {r : List Nat} (c : ¬ u - 1 = 0) : dcr (u :: r) = (u - 1) :: r := if_neg c
theorem fM_pop {N k cnt : Nat} {k4 : Nat → Int → Int → jm_M → Option (Int × jm_M)} (hk : k < 30) : ∀ (ds : List Nat) (n : Nat) (m : jm_M), ds ≠ [] → ds.length + 1 < n → ds.length ≤ 4 → (∀ u ∈ ds, 1 ≤ u ∧ u ≤ 2) → MF m → m 1 1 = (cnt : Int) → DU m ds →
    ∃ M, f_X12_faultOf_l65 N shM k4 n 1 (ds.length : Int) k 1 m = (if dcr ds = [] then some (if k + 1 = cnt then -6 else ((k + 1 : Nat) : Int), M) else k4 1 ((dcr ds).length : Int) ((k + 1 : Nat) : Int) M) ∧ DU M (dcr ds) ∧ (∀ a, a ≠ 9 → ∀ j, M a j = m a j) ∧ MF M := by
  intro ds
  induction ds with
  | nil => intro n m h; exact absurd rfl h
  | cons u r ih =>
    intro n m _ hn hl hu hF h1 hD
    obtain ⟨n, rfl⟩ : ∃ n', n = n' + 2 := ⟨n - 2, by omega⟩
    have hl : r.length + 1 ≤ 4 := hl
    have hn : r.length + 1 + 1 < n + 2 := hn
    have huu := hu u List.mem_cons_self
    have hFu : MF (jm_up m 9 r.length ((u - 1 : Nat) : Int)) := hF.upr rM_rows.2.2.2.2.2.2.2.1
    have hDu : DU (jm_up m 9 r.length ((u - 1 : Nat) : Int)) r := hD.2.up (Nat.le_refl _)
    have h1u : (jm_up m 9 r.length ((u - 1 : Nat) : Int)) 1 1 = (cnt : Int) := by rw [up_ne (by decide)]; exact h1
    have e0 : f_X12_faultOf_l65 N shM k4 (n + 2) 1 ((u :: r).length : Int) k 1 m = (if u - 1 = 0 then f_X12_faultOf_b98 N shM k4 (f_X12_faultOf_l65 N shM k4 (n + 1)) 1 ((r.length + 1 : Nat) : Int) k 1 (jm_up m 9 r.length ((u - 1 : Nat) : Int)) else f_X12_faultOf_b98 N shM k4 (f_X12_faultOf_l65 N shM k4 (n + 1)) 1 ((r.length + 1 : Nat) : Int) k 0 (jm_up m 9 r.length ((u - 1 : Nat) : Int))) := by
      show f_X12_faultOf_b65 N shM k4 (f_X12_faultOf_l65 N shM k4 (n + 1)) 1 ((r.length + 1 : Nat) : Int) k 1 m = _
      unfold f_X12_faultOf_b65
      rw [if_neg (by decide), jrf_ok sM1, Option.bind_some, hF.t9, jw_eq (x := ((r.length + 1 : Nat) : Int) - 1) (by omega) (by omega), show ((r.length + 1 : Nat) : Int) - 1 = (r.length : Int) by omega, jra_ok sM9 (by omega) (by omega), Option.bind_some, Int.toNat_natCast, hD.1, jw_eq (x := (u : Int) - 1) (by omega) (by omega), show (u : Int) - 1 = ((u - 1 : Nat) : Int) by omega, jwa_ok sM9 (by omega) (by omega), Option.bind_some, Int.toNat_natCast, jrf_ok sM1, Option.bind_some, hFu.t9, jra_ok sM9 (by omega) (by omega), Option.bind_some, Int.toNat_natCast, up_eq]
      by_cases c : u - 1 = 0
      · rw [if_pos c, if_pos (by omega)]
      · rw [if_neg c, if_neg (by omega)]
    rw [e0]
    by_cases c : u - 1 = 0
    · rw [if_pos c, dcr_0 c]
      unfold f_X12_faultOf_b98 f_X12_faultOf_b111 f_X12_faultOf_b126 f_X12_faultOf_b127
      rw [if_neg (by decide), if_neg (by decide), jw_eq (x := ((r.length + 1 : Nat) : Int) - 1) (by omega) (by omega), show ((r.length + 1 : Nat) : Int) - 1 = (r.length : Int) by omega]
      by_cases cr : r = []
      · subst cr
        refine ⟨jm_up m 9 0 ((u - 1 : Nat) : Int), ?_, trivial, fun a ha j => up_ne ha, hFu⟩
        rw [if_neg (show ¬ (0 : Int) < (([] : List Nat).length : Int) by decide), if_pos (show dcr [] = [] from rfl)]
        show f_X12_faultOf_b65 N shM k4 (f_X12_faultOf_l65 N shM k4 n) 1 ((0 : Nat) : Int) k 0 (jm_up m 9 0 ((u - 1 : Nat) : Int)) = _
        unfold f_X12_faultOf_b65
        rw [if_pos rfl, if_pos (show ((0 : Nat) : Int) = 0 from rfl), jrf_ok sM1, Option.bind_some, up_ne (show (1 : Nat) ≠ 9 by decide), h1, jw_succ (by omega)]
        by_cases c2 : k + 1 = cnt
        · rw [if_pos (by omega), if_pos c2]
        · rw [if_neg (by omega), if_neg c2]
      · have hrl : 0 < r.length := List.length_pos_iff.mpr cr
        rw [if_pos (by omega)]
        obtain ⟨M, e, d1, d2, d3⟩ := ih (n + 1) (jm_up m 9 r.length ((u - 1 : Nat) : Int)) cr (by omega) (by omega) (fun x hx => hu x (List.mem_cons_of_mem _ hx)) hFu h1u hDu
        exact ⟨M, e, d1, fun a ha j => (d2 a ha j).trans (up_ne ha), d3⟩
    · rw [if_neg c, dcr_1 c]
      refine ⟨jm_up m 9 r.length ((u - 1 : Nat) : Int), ?_, ⟨up_eq, hDu⟩, fun a ha j => up_ne ha, hFu⟩
      rw [if_neg (show ¬ (u - 1) :: r = [] by simp)]
      unfold f_X12_faultOf_b98 f_X12_faultOf_b111 f_X12_faultOf_b126 f_X12_faultOf_b127
      rw [if_pos rfl, if_pos rfl, jw_eq (x := ((r.length + 1 : Nat) : Int) - 0) (by omega) (by omega), show ((r.length + 1 : Nat) : Int) - 0 = ((r.length + 1 : Nat) : Int) by omega]
      show f_X12_faultOf_b65 N shM k4 (f_X12_faultOf_l65 N shM k4 n) 1 ((r.length + 1 : Nat) : Int) k 0 _ = _
      unfold f_X12_faultOf_b65 f_X12_faultOf_b155
      rw [if_pos rfl, if_neg (by omega), jw_succ (by omega)]
      rfl
theorem fM_loop {N cnt : Nat} {pg : Nat → Int} (hN : 10 ≤ N) (hc : cnt ≤ 30) : ∀ (r k n : Nat) (ds : List Nat) (m : jm_M), k + r = cnt → r < n → ds.length ≤ 4 → (∀ u ∈ ds, 1 ≤ u ∧ u ≤ 2) → MF m → m 1 1 = (cnt : Int) → (∀ i, i < cnt → m 3 i = pg i) → DU m ds →
    ∃ M, f_X12_faultOf_l4 N shM n 1 (ds.length : Int) k m = some (prs pg cnt r (ds.length :: stk ds), M) ∧ (∀ a, a ≠ 9 → ∀ j, M a j = m a j) := by
  intro r
  induction r with
  | zero =>
    intro k n ds m hk hn hl hu hF h1 hs hD
    obtain ⟨n, rfl⟩ : ∃ n', n = n' + 1 := ⟨n - 1, by omega⟩
    refine ⟨m, ?_, fun _ _ _ => rfl⟩
    show f_X12_faultOf_b4 N shM (f_X12_faultOf_l4 N shM n) 1 (ds.length : Int) k m = some (if (ds.length :: stk ds) = [] then -6 else (cnt : Int), m)
    unfold f_X12_faultOf_b4
    rw [jrf_ok sM1, Option.bind_some, h1, if_neg (by omega), Option.bind_some, if_neg (by simp)]
  | succ r ih =>
    intro k n ds m hk hn hl hu hF h1 hs hD
    obtain ⟨n, rfl⟩ : ∃ n', n = n' + 1 := ⟨n - 1, by omega⟩
    have ek : cnt - (r + 1) = k := by omega
    show ∃ M, f_X12_faultOf_b4 N shM (f_X12_faultOf_l4 N shM n) 1 (ds.length : Int) k m = some ((if okG (pg (cnt - (r + 1))) = false ∨ (0 < pt (pg (cnt - (r + 1))) ∧ 4 ≤ ds.length) then ((cnt - (r + 1) : Nat) : Int) else prs pg cnt r (List.replicate (pt (pg (cnt - (r + 1)))) (ds.length + 1) ++ stk ds)), M) ∧ _
    unfold f_X12_faultOf_b4
    rw [ek, jrf_ok sM1, Option.bind_some, h1, if_pos (by omega), jrf_ok sM1, Option.bind_some, hF.t2, jra_ok sM3 (by omega) (by omega), Option.bind_some, Int.toNat_natCast, hs k (by omega)]
    rcases okG_cases (pg k) with c | c
    · rw [(okG_pos c).2, Option.bind_some, if_neg (by omega)]
      have hp2 := pt_le (pg k)
      by_cases cp : 0 < pt (pg k)
      · rw [if_pos (by omega)]
        by_cases c4 : ds.length = 4
        · rw [if_pos (by omega), if_pos (Or.inr ⟨cp, by omega⟩)]
          exact ⟨m, rfl, fun _ _ _ => rfl⟩
        · rw [if_neg (by omega), if_neg (by rw [c]; simp; omega)]
          unfold f_X12_faultOf_b37 f_X12_faultOf_b155
          rw [if_pos (by omega), jrf_ok sM1, Option.bind_some, hF.t9, jwa_ok sM9 (by omega) (by omega), Option.bind_some, Int.toNat_natCast, jw_succ (by omega), jw_succ (by omega)]
          obtain ⟨M, e, f⟩ := ih (k + 1) n (pt (pg k) :: ds) (jm_up m 9 ds.length (pt (pg k) : Int)) (by omega) (by omega) (by show ds.length + 1 ≤ 4; omega) (fun u h => by
            rcases List.mem_cons.mp h with rfl | h
            · omega
            · exact hu u h) (hF.upr rM_rows.2.2.2.2.2.2.2.1) (by rw [up_ne (by decide)]; exact h1) (fun i hi => by rw [up_ne (by decide)]; exact hs i hi) ⟨up_eq, hD.up (Nat.le_refl _)⟩
          refine ⟨M, ?_, fun a ha j => (f a ha j).trans (up_ne ha)⟩
          have ew : (pt (pg k) :: ds).length :: stk (pt (pg k) :: ds) = List.replicate (pt (pg k)) (ds.length + 1) ++ stk ds := by
            obtain ⟨v, hv⟩ : ∃ v, pt (pg k) = v + 1 := ⟨pt (pg k) - 1, by omega⟩
            rw [hv]
            show (ds.length + 1) :: (List.replicate (v + 1 - 1) (ds.length + 1) ++ stk ds) = (ds.length + 1) :: (List.replicate v (ds.length + 1) ++ stk ds)
            rfl
          rw [ew] at e
          exact e
      · have hp0 : pt (pg k) = 0 := by omega
        rw [if_neg (by omega), if_neg (by rw [c]; simp; omega), hp0]
        unfold f_X12_faultOf_b37 f_X12_faultOf_b63
        rw [if_neg (by omega)]
        show ∃ M, _ = some (prs pg cnt r (stk ds), M) ∧ _
        by_cases cd : ds = []
        · subst cd
          rw [if_neg (by simp)]
          obtain ⟨N, rfl⟩ : ∃ N', N = N' + 1 := ⟨N - 1, by omega⟩
          refine ⟨m, ?_, fun _ _ _ => rfl⟩
          show f_X12_faultOf_b65 (N + 1) shM (f_X12_faultOf_l4 (N + 1) shM n) (f_X12_faultOf_l65 (N + 1) shM (f_X12_faultOf_l4 (N + 1) shM n) N) 1 ((0 : Nat) : Int) k 0 m = some (prs pg cnt r [], m)
          unfold f_X12_faultOf_b65
          rw [if_pos rfl, if_pos (show ((0 : Nat) : Int) = 0 from rfl), jrf_ok sM1, Option.bind_some, h1, jw_succ (by omega)]
          cases r with
          | zero => rw [if_pos (by omega)]; rfl
          | succ r => rw [if_neg (by omega)]; show _ = some (((cnt - (r + 1) : Nat) : Int), m); rw [show cnt - (r + 1) = k + 1 by omega]
        · have hrl : 0 < ds.length := List.length_pos_iff.mpr cd
          rw [if_pos (by omega)]
          obtain ⟨M, e, d1, d2, d3⟩ := fM_pop (N := N) (k := k) (cnt := cnt) (k4 := f_X12_faultOf_l4 N shM n) (by omega) ds N m cd (by omega) hl hu hF h1 hD
          rw [e]
          rcases dcr_spec ds with ⟨q1, q2⟩ | ⟨q1, q2⟩
          · rw [if_pos q1, q2]
            refine ⟨M, ?_, d2⟩
            cases r with
            | zero => rw [if_pos (by omega)]; rfl
            | succ r => rw [if_neg (by omega)]; show _ = some (((cnt - (r + 1) : Nat) : Int), M); rw [show cnt - (r + 1) = k + 1 by omega]
          · rw [if_neg q1, q2]
            have hdl := dcr_len ds
            obtain ⟨M', e', f'⟩ := ih (k + 1) n (dcr ds) M (by omega) (by omega) (by omega) (dcr_all ds hu) d3 (by rw [d2 1 (by decide)]; exact h1) (fun i hi => by rw [d2 3 (by decide)]; exact hs i hi) d1
            exact ⟨M', e', fun a ha j => (f' a ha j).trans (d2 a ha j)⟩
    · rw [(s_parts_bad c).2, Option.bind_some, if_pos (by decide), if_pos (Or.inl c)]
      exact ⟨m, rfl, fun _ _ _ => rfl⟩
theorem sM_faultOf {N cnt : Nat} {pg : Nat → Int} {m : jm_M} (hN : 100 ≤ N) (hc : cnt ≤ 30) (hF : MF m) (h1 : m 1 1 = (cnt : Int)) (hs : ∀ i, i < cnt → m 3 i = pg i) :
    ∃ M, f_X12_faultOf N shM 1 m = some (prs pg cnt cnt [0], M) ∧ (∀ a, a ≠ 9 → ∀ j, M a j = m a j) := by
  exact fM_loop (N := N) (by omega) hc cnt 0 N [] m (by omega) (by omega) (by decide) (fun u h => by cases h) hF h1 hs trivial
