/-! bounds of tables -/
def TB (K B : Nat) (T : Tb) : Prop := ∀ k, k < K → T k ≤ (B : Int)
theorem TB.mono {K B C : Nat} {T : Tb} (h : TB K B T) (hc : B ≤ C) : TB K C T := fun k hk => by have := h k hk; omega
theorem TB.jn {K B : Nat} {W : Bool} {T U : Tb} (h : TB K B T) (g : TB K B U) : TB K B (jn W T U) := by
  intro k hk
  have h1 := h k hk
  have h2 := g k hk
  show (if btr W (U k) (T k) then U k else T k) ≤ _
  split <;> assumption
theorem TB.fa {B S w h ms l : Nat} {W : Bool} {T : Tb} (hT : TB (KN S) B T) : ∀ n, n ≤ KN S → TB (KN S) (B + (ms + 1)) (fAn W S w h ms l T n) := by
  intro n
  induction n with
  | zero => intro _ k hk; show (-1 : Int) ≤ _; omega
  | succ n ih =>
    intro hn k hk
    have h1 := ih (by omega) k hk
    have h2 := hT n (by omega)
    have h3 : cs S h ms n l ≤ ms + 1 := by unfold cs; split <;> omega
    show (if T n < 0 then fAn W S w h ms l T n else fun k => if k = fK S w h n l then (if btr W (T n + (cs S h ms n l : Int)) (fAn W S w h ms l T n k) then T n + (cs S h ms n l : Int) else fAn W S w h ms l T n k) else fAn W S w h ms l T n k) k ≤ _
    by_cases c : T n < 0
    · rw [if_pos c]; exact h1
    · rw [if_neg c]
      split
      · split
        · omega
        · exact h1
      · exact h1
def okF (fs : List Nat) : Prop := ∀ x ∈ fs, x ≤ 4
/-- what bounds a step -/
def BdW (K X : Nat) (f : WS → WS) : Prop := ∀ (B : Nat) (q : WS), okF q.2.1 → TB K B q.1 → TB K (B + X) (f q).1 ∧ okF (f q).2.1 ∧ (f q).2.1.length ≤ q.2.1.length
theorem itw_bd {K X : Nat} {f : WS → WS} (hf : BdW K X f) : ∀ (n B : Nat) (q : WS), okF q.2.1 → TB K B q.1 → TB K (B + n * X) (itw f n q).1 ∧ okF (itw f n q).2.1 ∧ (itw f n q).2.1.length ≤ q.2.1.length := by
  intro n
  induction n with
  | zero => intro B q h1 h2; exact ⟨by rw [Nat.zero_mul]; exact h2, h1, Nat.le_refl _⟩
  | succ n ih =>
    intro B q h1 h2
    obtain ⟨a1, a2, a3⟩ := hf B q h1 h2
    obtain ⟨b1, b2, b3⟩ := ih (B + X) (f q) a2 a1
    exact ⟨b1.mono (by rw [Nat.succ_mul]; omega), b2, Nat.le_trans b3 a3⟩
theorem lpw_bd {K X : Nat} {W : Bool} {f : WS → WS} (hf : BdW K X f) : ∀ (n B : Nat) (q : WS) (U : Tb), okF q.2.1 → TB K B q.1 → TB K B U → TB K (B + n * X) (lpw W f n q U).1 ∧ okF (lpw W f n q U).2.1 ∧ (lpw W f n q U).2.1.length ≤ q.2.1.length := by
  intro n
  induction n with
  | zero => intro B q U h1 h2 h3; exact ⟨by rw [Nat.zero_mul]; exact h3, h1, Nat.le_refl _⟩
  | succ n ih =>
    intro B q U h1 h2 h3
    obtain ⟨a1, a2, a3⟩ := hf B q h1 h2
    obtain ⟨b1, b2, b3⟩ := ih (B + X) (f q) (jn W (f q).1 U) a2 a1 (a1.jn (h3.mono (by omega)))
    exact ⟨b1.mono (by rw [Nat.succ_mul]; omega), b2, Nat.le_trans b3 a3⟩
theorem okF_nil : okF [] := fun x hx => by cases hx
theorem okF.tl {x : Nat} {r : List Nat} (h : okF (x :: r)) : okF r := fun y hy => h y (List.mem_cons_of_mem _ hy)
theorem wk_bd {W : Bool} {S w h ms : Nat} {sg : Nat → Int} : ∀ d, d ≤ 4 → ∀ i, wf sg d i = true → BdW (KN S) ((ms + 1) * 4 ^ d) (wk W S w h ms sg d i) := by
  refine wf_ind sg (fun d i => BdW (KN S) ((ms + 1) * 4 ^ d) (wk W S w h ms sg d i)) ?_ ?_ ?_
  · intro d i hd hl hz B q h1 h2
    have p1 : 1 ≤ 4 ^ d := Nat.pow_pos (by decide)
    have p3 : (ms + 1) * 1 ≤ (ms + 1) * 4 ^ d := Nat.mul_le_mul_left _ p1
    rw [wk_leaf hl]
    unfold wkL
    split
    · exact ⟨(h2.fa (KN S) (Nat.le_refl _)).mono (by omega), h1, Nat.le_refl _⟩
    · exact ⟨h2.mono (by omega), h1, Nat.le_refl _⟩
  · intro d i hd hs hz hw ih B q h1 h2
    have e1 : 4 ^ (d + 1) = 4 * 4 ^ d := by rw [Nat.pow_succ, Nat.mul_comm]
    have e3 : (ms + 1) * 4 ^ (d + 1) = 4 * ((ms + 1) * 4 ^ d) := by rw [e1, Nat.mul_left_comm]
    have ht := tm_le hs
    rw [wk_loop hs, e3]
    obtain ⟨T, fs, fm⟩ := q
    cases fs with
    | nil =>
      obtain ⟨b1, b2, b3⟩ := lpw_bd (W := W) ih (tmO (sg i)) B (T, [], dgF ((tmO (sg i) + 1 : Nat) : Int) fm) T okF_nil h2 h2
      have h3 : tmO (sg i) * ((ms + 1) * 4 ^ d) ≤ 4 * ((ms + 1) * 4 ^ d) := Nat.mul_le_mul_right _ ht.2
      exact ⟨b1.mono (by omega), b2, b3⟩
    | cons x r =>
      have hx : x ≤ 4 := h1 x List.mem_cons_self
      obtain ⟨b1, b2, b3⟩ := itw_bd ih x B (T, r, fm) (okF.tl h1) h2
      have h3 : x * ((ms + 1) * 4 ^ d) ≤ 4 * ((ms + 1) * 4 ^ d) := Nat.mul_le_mul_right _ hx
      exact ⟨b1.mono (by omega), b2, Nat.le_trans b3 (Nat.le_succ _)⟩
  · intro d i hd hs hz hw hw2 ih ih2 B q h1 h2
    have e1 : 4 ^ (d + 1) = 4 * 4 ^ d := by rw [Nat.pow_succ, Nat.mul_comm]
    have e3 : (ms + 1) * 4 ^ (d + 1) = 4 * ((ms + 1) * 4 ^ d) := by rw [e1, Nat.mul_left_comm]
    rw [e3]
    rcases hs with hs | hs
    · rw [wk_seq hs]
      obtain ⟨a1, a2, a3⟩ := ih B q h1 h2
      obtain ⟨b1, b2, b3⟩ := ih2 _ _ a2 a1
      exact ⟨b1.mono (by omega), b2, Nat.le_trans b3 a3⟩
    · rw [wk_cho hs]
      obtain ⟨T, fs, fm⟩ := q
      cases fs with
      | nil =>
        obtain ⟨a1, a2, a3⟩ := ih B (T, [], dgF 2 fm) okF_nil h2
        obtain ⟨b1, b2, b3⟩ := ih2 B (T, (wk W S w h ms sg d (i + 1) (T, [], dgF 2 fm)).2) a2 h2
        exact ⟨(b1.jn a1).mono (by omega), b2, Nat.le_trans b3 a3⟩
      | cons x r =>
        show TB (KN S) _ (if x = 1 then wk W S w h ms sg d (nx sg i) (T, r, fm) else wk W S w h ms sg d (i + 1) (T, r, fm)).1 ∧ okF (if x = 1 then wk W S w h ms sg d (nx sg i) (T, r, fm) else wk W S w h ms sg d (i + 1) (T, r, fm)).2.1 ∧ (if x = 1 then wk W S w h ms sg d (nx sg i) (T, r, fm) else wk W S w h ms sg d (i + 1) (T, r, fm)).2.1.length ≤ _
        split
        · obtain ⟨a1, a2, a3⟩ := ih2 B (T, r, fm) (okF.tl h1) h2
          exact ⟨a1.mono (by omega), a2, Nat.le_trans a3 (Nat.le_succ _)⟩
        · obtain ⟨a1, a2, a3⟩ := ih B (T, r, fm) (okF.tl h1) h2
          exact ⟨a1.mono (by omega), a2, Nat.le_trans a3 (Nat.le_succ _)⟩
/-! the work's state in memory -/
def FSm (m : jm_M) : Nat → List Nat → Prop
  | _, [] => True
  | t, d :: r => m 16 t = (d : Int) ∧ FSm m (t + 1) r
theorem FSm.same {m M : jm_M} (hs : ∀ j, M 16 j = m 16 j) : ∀ (fs : List Nat) (t : Nat), FSm m t fs → FSm M t fs
  | [], _, _ => trivial
  | d :: r, t, h => ⟨by rw [hs]; exact h.1, FSm.same hs r (t + 1) h.2⟩
def WT (m : jm_M) (S : Nat) (q : WS) : Prop := (∀ k, k < KN S → m 10 k = q.1 k) ∧ m 1 23 = q.2.2 ∧ ∃ t : Nat, m 1 22 = (t : Int) ∧ m 1 20 = ((t + q.2.1.length : Nat) : Int) ∧ FSm m t q.2.1 ∧ t + q.2.1.length ≤ 21
theorem WT.tab {m M : jm_M} {S : Nat} {q : WS} {T : Tb} (h : WT m S q) (h10 : ∀ k, k < KN S → M 10 k = T k) (h1 : ∀ j, j = 20 ∨ j = 22 ∨ j = 23 → M 1 j = m 1 j) (h16 : ∀ j, M 16 j = m 16 j) : WT M S (T, q.2) := by
  obtain ⟨a, b, t, c, d, e, f⟩ := h
  exact ⟨h10, by rw [h1 23 (by omega)]; exact b, t, by rw [h1 22 (by omega)]; exact c, by rw [h1 20 (by omega)]; exact d, FSm.same h16 _ _ e, f⟩
theorem WT.same {m M : jm_M} {S : Nat} {q : WS} (h : WT m S q) (h10 : ∀ k, k < KN S → M 10 k = m 10 k) (h1 : ∀ j, j = 20 ∨ j = 22 ∨ j = 23 → M 1 j = m 1 j) (h16 : ∀ j, M 16 j = m 16 j) : WT M S q := h.tab (T := q.1) (fun k hk => (h10 k hk).trans (h.1 k hk)) h1 h16
theorem WT.f1 {m : jm_M} {S k : Nat} {v : Int} {q : WS} (h : WT m S q) (hk : k ≠ 20 ∧ k ≠ 22 ∧ k ≠ 23) : WT (jm_up m 1 k v) S q := h.same (fun j _ => up_ne (by decide)) (fun j hj => up_nk (by omega)) (fun j => up_ne (by decide))
theorem WT.row {m : jm_M} {S a k : Nat} {v : Int} {q : WS} (h : WT m S q) (ha : a ≠ 1 ∧ a ≠ 10 ∧ a ≠ 16) : WT (jm_up m a k v) S q := h.same (fun j _ => up_ne (by omega)) (fun j hj => up_ne (by omega)) (fun j => up_ne (by omega))
theorem sM_digit0 {m : jm_M} {S : Nat} {T : Tb} {fm may : Int} (h : WT m S (T, [], fm)) : f_X12_digit shM 1 may m = some (-6, jm_up m 1 23 (dgF may fm)) := by
  obtain ⟨a, b, t, c, d, e, f⟩ := h
  have b : m 1 23 = fm := b
  have d : m 1 20 = ((t + 0 : Nat) : Int) := d
  unfold f_X12_digit f_X12_digit_b49 dgF
  rw [jrf_ok sM1, Option.bind_some, jrf_ok sM1, Option.bind_some, c, d, if_neg (by omega), jrf_ok sM1, Option.bind_some, b]
  by_cases c1 : fm < 0
  · rw [if_pos c1, if_pos c1, jwf_ok sM1, Option.bind_some]
  · rw [if_neg c1, if_neg c1, Option.bind_some, jwf_ok sM1, Option.bind_some]
theorem sM_digit1 {m : jm_M} {S x : Nat} {r : List Nat} {T : Tb} {fm may : Int} (hF : MF m) (h : WT m S (T, x :: r, fm)) : ∃ M, f_X12_digit shM 1 may m = some ((x : Int), M) ∧ WT M S (T, r, fm) ∧ (∃ v, M = jm_up m 1 22 v) := by
  obtain ⟨a, b, t, c, d, e, f⟩ := h
  have b : m 1 23 = fm := b
  have d : m 1 20 = ((t + (r.length + 1) : Nat) : Int) := d
  have f : t + (r.length + 1) ≤ 21 := f
  have e1 : m 16 t = (x : Int) := e.1
  have hF1 : MF (jm_up m 1 22 ((t + 1 : Nat) : Int)) := hF.up n1M.2.2.2.2.2.2.1
  refine ⟨jm_up m 1 22 ((t + 1 : Nat) : Int), ?_, ⟨fun k hk => (up_ne (by decide)).trans (a k hk), (up_nk (by decide)).trans b, t + 1, up_eq, ?_, FSm.same (fun j => up_ne (by decide)) _ _ e.2, ?_⟩, _, rfl⟩
  · unfold f_X12_digit
    rw [jrf_ok sM1, Option.bind_some, jrf_ok sM1, Option.bind_some, c, d, if_pos (by omega), Option.bind_some, jw_succ (by omega), jwf_ok sM1, Option.bind_some, jrf_ok sM1, Option.bind_some, jrf_ok sM1, Option.bind_some, hF1.t21, up_eq, jw_eq (x := ((t + 1 : Nat) : Int) - 1) (by omega) (by omega), show ((t + 1 : Nat) : Int) - 1 = (t : Int) by omega, jra_ok sM16 (by omega) (by omega), Option.bind_some, Int.toNat_natCast, up_ne (by decide), e1]
  · show jm_up m 1 22 _ 1 20 = ((t + 1 + r.length : Nat) : Int)
    rw [up_nk (by decide), d]
    congr 1
    omega
  · show t + 1 + r.length ≤ 21
    omega
def wl (N n : Nat) (m : jm_M) : Option jm_M := f_X12_work_l68 N shM n 1 m
theorem wl_begin {N n at' : Nat} {m : jm_M} (h : m 1 25 = (at' : Int)) : wl N (n + 1) m = Option.bind (f_X12_begin N shM 1 m) (fun q => wl N n q) := by
  show f_X12_work_b68 N shM (f_X12_work_l68 N shM n) 1 m = _
  unfold f_X12_work_b68 f_X12_work_b82
  rw [jrf_ok sM1, Option.bind_some, h, if_neg (by omega), Option.bind_some, if_neg (by omega), jck_ok sM1, Option.bind_some]
  rfl
theorem wl_come {N n pl : Nat} {m : jm_M} (h : m 1 25 = -6) (h12 : m 1 12 = ((pl + 1 : Nat) : Int)) : wl N (n + 1) m = Option.bind (f_X12_come N shM 1 m) (fun q => wl N n q) := by
  show f_X12_work_b68 N shM (f_X12_work_l68 N shM n) 1 m = _
  unfold f_X12_work_b68 f_X12_work_b82
  rw [jrf_ok sM1, Option.bind_some, h, if_pos (by decide), jrf_ok sM1, Option.bind_some, h12, if_pos (by omega), Option.bind_some, if_pos (by decide), jck_ok sM1, Option.bind_some]
  rfl
theorem FrK.ko {m M : jm_M} {a1 pl : Nat} (ha : a1 = 14 ∨ a1 = 15) (hs : ∀ a, a ≠ a1 → ∀ j, M a j = m a j) (hlo : ∀ j, j < 625 * pl → M a1 j = m a1 j) : FrK m M pl := by
  refine ⟨fun a a1 a2 a3 a4 a5 a6 a7 a8 j => hs a (by omega) j, fun j _ _ _ _ _ => hs 1 (by omega) j, fun j _ => ⟨hs 11 (by omega) j, hs 12 (by omega) j, hs 13 (by omega) j⟩, fun j hj => ?_⟩
  rcases ha with rfl | rfl
  · exact ⟨hlo j hj, hs 15 (by decide) j⟩
  · exact ⟨hs 14 (by decide) j, hlo j hj⟩
theorem FrK.r10 {m M : jm_M} {pl : Nat} (hs : ∀ a, a ≠ 10 → ∀ j, M a j = m a j) : FrK m M pl := ⟨fun a a1 a2 a3 a4 a5 a6 a7 a8 j => hs a a2 j, fun j _ _ _ _ _ => hs 1 (by decide) j, fun j _ => ⟨hs 11 (by decide) j, hs 12 (by decide) j, hs 13 (by decide) j⟩, fun j _ => ⟨hs 14 (by decide) j, hs 15 (by decide) j⟩⟩
theorem FrK.pi {m : jm_M} {pl : Nat} {a b c : Int} : FrK m (piM m pl a b c) pl := by
  unfold piM
  exact ((((FrK.rf m pl).fr (Or.inl rfl) (Nat.le_refl _)).fr (Or.inr (Or.inl rfl)) (Nat.le_refl _)).fr (Or.inr (Or.inr rfl)) (Nat.le_refl _)).f1 (Or.inr (Or.inl rfl))
theorem WT.pi {m : jm_M} {S pl : Nat} {a b c : Int} {q : WS} (h : WT m S q) : WT (piM m pl a b c) S q := by
  unfold piM
  exact (((h.row (by decide)).row (by decide)).row (by decide)).f1 (by decide)
