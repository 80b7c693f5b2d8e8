theorem ltO_zero {S w h ms : Nat} {q : jBd} : ∀ n, ltO S w h ms q n = 0 ↔ ∀ p, p < n → q.2.2.2.1 p ≠ 0 → dnO S w h ms q p ≠ -5 := by
  intro n
  induction n with
  | zero => exact ⟨fun _ p hp => absurd hp (Nat.not_lt_zero p), fun _ => rfl⟩
  | succ n ih =>
    have e : ltO S w h ms q (n + 1) = ltO S w h ms q n ||| (if q.2.2.2.1 n ≠ 0 ∧ dnO S w h ms q n = -5 then 2 ^ n else 0) := rfl
    rw [e]
    constructor
    · intro h0 p hp hq hd
      have h1 := Nat.or_eq_zero_iff.mp h0
      by_cases c : p = n
      · subst c
        rw [if_pos ⟨hq, hd⟩] at h1
        have := Nat.pow_pos (n := p) (show 0 < 2 by decide)
        omega
      · exact ih.mp h1.1 p (by omega) hq hd
    · intro h0
      rw [ih.mpr (fun p hp => h0 p (by omega)), if_neg (fun z => h0 n (by omega) z.1 z.2)]
      rfl
/-- with a lesser MISS nothing takes longer -/
theorem ltO_mono {S w h ms ms' : Nat} {q : jBd} (hV : VB q) (hT : ST S w h) (hm : ms ≤ ms') (h1 : 1 ≤ ms') (h0 : ltO S w h ms' q 4 = 0) : ltO S w h ms q 4 = 0 := by
  rw [ltO_zero] at h0 ⊢
  intro p hp hq
  have hd := h0 p hp hq
  unfold dnO at hd ⊢
  -- beyond the fourth program nothing is asked: cut there
  have cut : ∀ (wr wr' : Nat → Nat) (per : Nat → Nat) (bk bk' : Nat → Nat → Nat) (t : Nat), (∀ q, q < 4 → wr q = wr' q) → (∀ q l, bk q l = bk' q l) → ∀ j, j ≤ 4 → twA wr per bk p t j = twA wr' per bk' p t j := by
    intro wr wr' per bk bk' t ha hb j
    induction j with
    | zero => intro _; exact ha p hp
    | succ j ih =>
      intro hj
      show twA wr per bk p t j + _ = twA wr' per bk' p t j + _
      rw [ih (by omega), ha j (by omega), hb j p]
  have cutd : ∀ (wr wr' : Nat → Nat) (bk : Nat → Nat → Nat), (∀ q, q < 4 → wr q = wr' q) → ∀ r t, dnF wr (perO q) bk p r t = dnF wr' (perO q) bk p r t := by
    intro wr wr' bk ha r
    induction r with
    | zero => intro t; rfl
    | succ r ih =>
      intro t
      have et : tw wr (perO q) bk p t = tw wr' (perO q) bk p t := cut wr wr' (perO q) bk bk t ha (fun _ _ => rfl) p (by omega)
      show (if perO q p < t then (-5 : Int) else if tw wr (perO q) bk p t = t then (t : Int) else dnF wr (perO q) bk p r (tw wr (perO q) bk p t)) = (if perO q p < t then (-5 : Int) else if tw wr' (perO q) bk p t = t then (t : Int) else dnF wr' (perO q) bk p r (tw wr' (perO q) bk p t))
      rw [et, ih]
  let a : Nat → Nat := fun i => if i < 4 then wrO S w h ms q i else 0
  let b : Nat → Nat := fun i => if i < 4 then wrO S w h ms' q i else 0
  have ea : ∀ i, i < 4 → wrO S w h ms q i = a i := fun i hi => (if_pos hi).symm
  have eb : ∀ i, i < 4 → wrO S w h ms' q i = b i := fun i hi => (if_pos hi).symm
  rw [cutd _ a _ ea, ea p hp]
  rw [cutd _ b _ eb, eb p hp] at hd
  refine dn_less (wr' := b) (bk' := bkO S h ms' q) (fun i => ?_) (fun i l => Nat.mul_le_mul_left _ hm) (perO_eq hV hp).2 hd
  show (if i < 4 then wrO S w h ms q i else 0) ≤ (if i < 4 then wrO S w h ms' q i else 0)
  split
  · rename_i hi
    unfold wrO
    split
    · exact Nat.le_refl _
    · exact wst_mono hT (hV.2.1 i hi) hm h1
  · exact Nat.le_refl _
/-- the greatest MISS by which none is late, downwards from n; 1: none -/
noncomputable def gmO (S w h : Nat) (q : jBd) : Nat → Nat
  | 0 => 1
  | n + 1 => if ltO S w h (n + 1) q 4 = 0 ∧ 2 ≤ n + 1 then n + 1 else if n = 0 then 1 else gmO S w h q n
theorem gm_spec {S w h : Nat} {q : jBd} (hV : VB q) (hT : ST S w h) : ∀ n g b, 1 ≤ g → g < b → b ≤ n + 1 → (g = 1 ∨ ltO S w h g q 4 = 0) → (∀ m, b ≤ m → m ≤ n → ltO S w h m q 4 ≠ 0) → b = g + 1 → gmO S w h q n = g := by
  intro n
  induction n with
  | zero => intro g b h1 h2 h3; omega
  | succ n ih =>
    intro g b h1 h2 h3 h4 h5 h6
    show (if ltO S w h (n + 1) q 4 = 0 ∧ 2 ≤ n + 1 then n + 1 else if n = 0 then 1 else gmO S w h q n) = g
    by_cases c : g = n + 1
    · subst c
      by_cases d : n = 0
      · subst d
        rw [if_neg (by omega), if_pos rfl]
      · rw [if_pos ⟨h4.resolve_left (by omega), by omega⟩]
    · rw [if_neg (fun z => h5 (n + 1) (by omega) (by omega) z.1)]
      rw [if_neg (by omega)]
      exact ih g b h1 h2 (by omega) h4 (fun m a1 a2 => h5 m a1 (by omega)) h6
theorem s_greatest {N S w h : Nat} {m : jm_M} {q : jBd} (hN : 20000 ≤ N) (hF : CF m) (hR : ∀ r ∈ rrL, RR m r) (hB : CB m 2 q) (hV : VB q) (hT : ST S w h) (s0 : q.1 0 = (S : Int)) (s1 : q.1 1 = (w : Int)) (s3 : q.1 3 = (h : Int)) :
    ∃ M, f_X9_greatestMiss N shC 190 m = some ((if gmO S w h q 20 < 2 then -6 else (gmO S w h q 20 : Int)), M) ∧ CF M ∧ (∀ r ∈ rrL, RR M r) ∧ (∀ a, a ≤ 64 → ∀ j, M a j = m a j) := by
  have key : ∀ (i n g b : Nat) (M : jm_M), i ≤ 20 → 21 ≤ i + n → 1 ≤ g → g < b → b ≤ 21 → b + i ≤ 21 + g + i → (b - g) * 2 ^ i ≤ 40 * 2 ^ i → b - g + i ≤ 21 → (g = 1 ∨ ltO S w h g q 4 = 0) → (∀ x, b ≤ x → x ≤ 20 → ltO S w h x q 4 ≠ 0) → CF M → (∀ r ∈ rrL, RR M r) → (∀ a, a ≤ 64 → ∀ j, M a j = m a j) → ∃ M', f_X9_greatestMiss_l7 N shC n 190 (g : Int) (b : Int) (i : Int) M = some ((if gmO S w h q 20 < 2 then -6 else (gmO S w h q 20 : Int)), M') ∧ CF M' ∧ (∀ r ∈ rrL, RR M' r) ∧ (∀ a, a ≤ 64 → ∀ j, M' a j = m a j) := by
    intro i n
    induction n generalizing i with
    | zero => intro g b M h1 h2; intros; omega
    | succ n ih =>
      intro g b M hi hn hg hgb hb _ _ hbi hG hL hFM hRM hsM
      have fin : b = g + 1 → ∃ M', f_X9_greatestMiss_b55 N shC (g : Int) M = some ((if gmO S w h q 20 < 2 then -6 else (gmO S w h q 20 : Int)), M') ∧ CF M' ∧ (∀ r ∈ rrL, RR M' r) ∧ (∀ a, a ≤ 64 → ∀ j, M' a j = m a j) := by
        intro hbg
        have e := gm_spec hV hT 20 g b hg hgb (by omega) hG hL hbg
        rw [e]
        refine ⟨M, ?_, hFM, hRM, hsM⟩
        unfold f_X9_greatestMiss_b55
        by_cases c : g < 2
        · rw [if_pos (by omega), if_pos c]
        · rw [if_neg (by omega), if_neg c]
      show ∃ M', f_X9_greatestMiss_b7 N shC (f_X9_greatestMiss_l7 N shC n) 190 (g : Int) (b : Int) (i : Int) M = _ ∧ _
      unfold f_X9_greatestMiss_b7 f_X9_greatestMiss_b49
      by_cases c20 : i < 20
      · rw [if_pos (by omega), jw_eq (x := (b : Int) - (g : Int)) (by omega) (by omega)]
        by_cases cb : 1 < b - g
        · have hBM : CB M 2 q := hB.same (fun a h1 h2 j => hsM a (by omega) j) (hsM 2 (by decide) 0)
          have emid : jdiv (jw ((g : Int) + (b : Int))) 2 = (((g + b) / 2 : Nat) : Int) := by
            rw [jw_eq (by omega) (by omega), show (g : Int) + (b : Int) = ((g + b : Nat) : Int) by omega]
            exact jdiv_nat (b := 2) (by omega)
          have hmid : g < (g + b) / 2 ∧ (g + b) / 2 < b := by omega
          obtain ⟨M1, e1, gt, rr, f⟩ := s_weigh (N := N) (ms := (g + b) / 2) (by omega) hFM hRM hBM hV hT (by omega) s0 s1 s3
          have el := s_lateOnes hN gt hV hT (by omega) s0 s3
          have fs : ∀ a, a ≤ 64 → ∀ j, M1 a j = m a j := fun a ha j => (f a ha j).trans (hsM a ha j)
          rw [if_pos (by omega), emid, jck_ok sC190, Option.bind_some, e1, Option.bind_some, Option.bind_some, el, Option.bind_some, jw_succ (by omega)]
          by_cases cl : ltO S w h ((g + b) / 2) q 4 = 0
          · rw [if_pos (by omega)]
            exact ih (i + 1) ((g + b) / 2) b M1 (by omega) (by omega) (by omega) (by omega) hb (by omega) (Nat.mul_le_mul_right _ (by omega)) (by omega) (Or.inr cl) hL gt.1 rr fs
          · rw [if_neg (by omega)]
            refine ih (i + 1) g ((g + b) / 2) M1 (by omega) (by omega) hg (by omega) (by omega) (by omega) (Nat.mul_le_mul_right _ (by omega)) (by omega) hG (fun x a1 a2 z => ?_) gt.1 rr fs
            exact cl (ltO_mono hV hT a1 (by omega) z)
        · rw [if_neg (by omega)]
          exact fin (by omega)
      · rw [if_neg (by omega)]
        exact fin (by omega)
  exact key 0 N 1 21 m (by omega) (by omega) (Nat.le_refl 1) (by omega) (Nat.le_refl _) (by omega) (by decide) (by omega) (Or.inl rfl) (fun x a1 a2 => by omega) hF hR (fun _ _ _ => rfl)
