/-! the reference's row -/
theorem okF_app {a b : List Nat} (ha : okF a) (hb : okF b) : okF (a ++ b) := fun x hx => by
  rcases List.mem_append.mp hx with z | z
  · exact ha x z
  · exact hb x z
theorem okF_cons {x : Nat} {r : List Nat} (hx : x ≤ 4) (hr : okF r) : okF (x :: r) := fun y hy => by
  rcases List.mem_cons.mp hy with z | z
  · rw [z]; exact hx
  · exact hr y z
theorem okF_gI {B : Bt → Bt} {g : GwX} (hg : ∀ β k, okF (g β k).2) : ∀ n β k, okF (gI B g n β k).2 := by
  intro n
  induction n with
  | zero => intro β k; exact okF_nil
  | succ n ih => intro β k; exact okF_app (hg _ _) (ih _ _)
theorem okF_gr {S w h ms : Nat} {sg : Nat → Int} : ∀ d, d ≤ 4 → ∀ i, wf sg d i = true → ∀ β k, okF (gr S w h ms sg d i β k).2 := by
  refine wf_ind sg (fun d i => ∀ β k, okF (gr S w h ms sg d i β k).2) ?_ ?_ ?_
  · intro d i hd hl hz β k
    rw [gr_leaf hl]; exact okF_nil
  · intro d i hd hs hz hw ih β k
    rw [gr_loop hs]
    have h2 := tm_le hs
    have h3 := amX_le (B := lk S w h ms sg d (i + 1)) (β := β) (k := k) (tmO (sg i))
    exact okF_cons (by omega) (okF_gI ih _ _ _)
  · intro d i hd hs hz hw hw2 ih ih2 β k
    rcases hs with hs | hs
    · rw [gr_seq hs]; exact okF_app (ih _ _) (ih2 _ _)
    · rw [gr_cho hs]
      unfold gCh
      split
      · exact okF_cons (by decide) (ih2 _ _)
      · exact okF_cons (by decide) (ih _ _)
def zB : Bt := fun _ => 0
/-- the row, and what it costs -/
def rwD (S w h ms : Nat) (sg : Nat → Int) : List Nat := (gr S w h ms sg 4 0 zB 0).2
def rwX (S w h ms : Nat) (sg : Nat → Int) : Nat := lk S w h ms sg 4 0 zB 0
theorem bst_MV {K X : Nat} {A : SX} {T : Tb} (h : BO true K A T) (hin : inK K A) (hm : MV A zB X) : bst true T K = (X : Int) := by
  obtain ⟨⟨k0, v0, a0, b0⟩, q⟩ := hm
  have b0 : v0 + 0 = X := b0
  rcases bst_spec h K (Nat.le_refl _) with ⟨e, z⟩ | ⟨k, v, hk, e, a, z⟩
  · exact absurd a0 (z k0 v0 (hin k0 v0 a0))
  · rw [e]
    have h1 : v + 0 ≤ X := q k v a
    have h2 : v0 ≤ v := z k0 v0 (hin k0 v0 a0) a0
    omega
theorem T0_one {K : Nat} : BO true K (sgX 0 0) T0 := BO_T0
/-- the work by what the row begins with, and by a lesser digit -/
theorem row_pre {S w h ms cn : Nat} {sg : Nat → Int} (hT : ST S w h) (hX : TX cn sg) {P Q : List Nat} (hD : rwD S w h ms sg = P ++ Q) : bst true (wk true S w h ms sg 4 0 (T0, P, -6)).1 (KN S) = (rwX S w h ms sg : Int) ∧ ((Q = [] → (wk true S w h ms sg 4 0 (T0, P, -6)).2.2 = -6) ∧ (Q ≠ [] → 0 < (wk true S w h ms sg 4 0 (T0, P, -6)).2.2)) := by
  have hK := KN_le hT.1
  obtain ⟨p1, p2, p3⟩ := (wk_all (ms := ms) hT 4 (Nat.le_refl 4) 0 hX.2.1).2 zB 0 0 T0 (by omega) T0_one
  cases Q with
  | nil =>
    rw [List.append_nil] at hD
    obtain ⟨v', a, b, c, d⟩ := p1 [] (-6)
    rw [List.append_nil] at a b
    have eP : (gr S w h ms sg 4 0 zB 0).2 = P := hD
    rw [eP] at a b
    refine ⟨?_, fun _ => by rw [b], fun z => absurd rfl z⟩
    refine bst_MV a (inK_one d) ⟨⟨_, v', ⟨rfl, rfl⟩, ?_⟩, fun k v ⟨z1, z2⟩ => ?_⟩
    · rw [c, Nat.zero_add]; rfl
    · rw [z1, z2, c, Nat.zero_add]; exact Nat.le_refl _
  | cons x Q =>
    obtain ⟨A, may, a1, a2, a3, a4, a5⟩ := p2 P x Q (-6) hD (by decide)
    rw [Nat.zero_add] at a5
    refine ⟨bst_MV a2 a1 a5, fun z => absurd z (List.cons_ne_nil _ _), fun _ => ?_⟩
    rw [a3]
    show 0 < may
    omega
theorem row_less {S w h ms cn : Nat} {sg : Nat → Int} (hT : ST S w h) (hX : TX cn sg) {P Q : List Nat} {x e : Nat} (hD : rwD S w h ms sg = P ++ x :: Q) (he : e < x) : bst true (wk true S w h ms sg 4 0 (T0, P ++ [e], -6)).1 (KN S) ≠ (rwX S w h ms sg : Int) := by
  have hK := KN_le hT.1
  obtain ⟨p1, p2, p3⟩ := (wk_all (ms := ms) hT 4 (Nat.le_refl 4) 0 hX.2.1).2 zB 0 0 T0 (by omega) T0_one
  obtain ⟨A, X, a1, a2, a3, a4, a5⟩ := p3 P x Q e (-6) hD he
  rw [bst_MV a2 a1 a4]
  rw [Nat.zero_add] at a5
  have a5 : X < rwX S w h ms sg := a5
  omega
def FrRw (m M : jm_M) : Prop := (∀ a, a ≠ 1 → (a < 10 ∨ 17 < a) → ∀ j, M a j = m a j) ∧ (∀ j, j ≠ 10 → j ≠ 12 → j ≠ 18 → j ≠ 19 → j ≠ 20 → j ≠ 22 → j ≠ 23 → j ≠ 25 → M 1 j = m 1 j)
theorem FrRw.MF {m M : jm_M} (hf : FrRw m M) (hF : MF m) : MF M := hF.same fun q hq => by
  have h1 : ∀ q ∈ rfM, q.1 = 1 ∧ q.2.1 ≠ 10 ∧ q.2.1 ≠ 12 ∧ q.2.1 ≠ 18 ∧ q.2.1 ≠ 19 ∧ q.2.1 ≠ 20 ∧ q.2.1 ≠ 22 ∧ q.2.1 ≠ 23 ∧ q.2.1 ≠ 25 := by decide
  obtain ⟨e, a1, a2, a3, a4, a5, a6, a7, a8⟩ := h1 q hq
  rw [e]
  exact hf.2 _ a1 a2 a3 a4 a5 a6 a7 a8
theorem FrRw.IM {m M : jm_M} {A : jAb} (hf : FrRw m M) (h : IM m A) : IM M A := h.keep (fun a ha j => hf.1 a (by omega) (by omega) j) (hf.2 1 (by decide) (by decide) (by decide) (by decide) (by decide) (by decide) (by decide) (by decide)) (hf.2 7 (by decide) (by decide) (by decide) (by decide) (by decide) (by decide) (by decide) (by decide)) (hf.MF h.1)
theorem FrRw.tr {m m1 m2 : jm_M} (h1 : FrRw m m1) (h2 : FrRw m1 m2) : FrRw m m2 := ⟨fun a a1 a2 j => (h2.1 a a1 a2 j).trans (h1.1 a a1 a2 j), fun j a1 a2 a3 a4 a5 a6 a7 a8 => (h2.2 j a1 a2 a3 a4 a5 a6 a7 a8).trans (h1.2 j a1 a2 a3 a4 a5 a6 a7 a8)⟩
theorem FrM.Rw {m M : jm_M} (h : FrM m M) : FrRw m M := ⟨fun a a1 a2 j => h.1 a a1 (by omega) (by omega) (by omega) (by omega) (by omega) (by omega) (by omega) j, fun j a1 a2 a3 a4 a5 a6 a7 a8 => h.2 j a1 a2 a3 a4 a6 a7 a8⟩
theorem FSm_app {m : jm_M} : ∀ (P : List Nat) (t d : Nat), FSm m t P → m 16 (t + P.length) = (d : Int) → FSm m t (P ++ [d])
  | [], t, d, _, h => ⟨h, trivial⟩
  | x :: P, t, d, hp, h => ⟨hp.1, FSm_app P (t + 1) d hp.2 (by rw [List.length_cons] at h; rw [show t + 1 + P.length = t + (P.length + 1) by omega]; exact h)⟩
theorem FSm_up {m M : jm_M} : ∀ (P : List Nat) (t : Nat), (∀ j, j < t + P.length → M 16 j = m 16 j) → FSm m t P → FSm M t P
  | [], _, _, _ => trivial
  | x :: P, t, hs, hp => ⟨by rw [hs t (by rw [List.length_cons]; omega)]; exact hp.1, FSm_up P (t + 1) (fun j hj => hs j (by rw [List.length_cons]; omega)) hp.2⟩
theorem FSm_at {m : jm_M} : ∀ (P : List Nat) (t i : Nat), i < P.length → FSm m t P → m 16 (t + i) = (P.getD i 0 : Int)
  | [], _, _, h, _ => absurd h (Nat.not_lt_zero _)
  | x :: P, t, 0, _, hp => hp.1
  | x :: P, t, i + 1, h, hp => by
    have := FSm_at P (t + 1) i (by rw [List.length_cons] at h; omega) hp.2
    rw [show t + (i + 1) = t + 1 + i by omega, this]
    rfl
theorem sM_layRow {p cn : Nat} {sg : Nat → Int} {S w h ms : Nat} {m : jm_M} (hF : MF m) (hp : p < 4) (hT : ST S w h) (hms : ms ≤ 20) (hX : TX cn sg) (hs : SMm m S w h) (h2 : m 2 2 = (ms : Int)) (htx : ∀ i, i < cn → m 5 (30 * p + i) = sg i ∧ m 6 (30 * p + i) = (zs sg 4 i : Int)) :
    ∃ M, f_X12_layRow jN shM 1 (p : Int) m = some (if (rwD S w h ms sg).length ≤ 20 then ((rwD S w h ms sg).length : Int) else -6, M) ∧ FrRw m M ∧ ((rwD S w h ms sg).length ≤ 20 → FSm M 0 (rwD S w h ms sg)) := by
  have hJ := jN_huge
  have hK := KN_le hT.1
  have hokD : okF (rwD S w h ms sg) := okF_gr 4 (Nat.le_refl 4) 0 hX.2.1 zB 0
  -- a work by forced digits
  have work : ∀ (M : jm_M) (fs : List Nat), FrRw m M → M 1 20 = (fs.length : Int) → FSm M 0 fs → fs.length ≤ 21 → okF fs → ∃ M', f_X12_work jN shM 1 (p : Int) 1 M = some M' ∧ f_X12_bestOf jN shM 1 M' = some (bst true (wk true S w h ms sg 4 0 (T0, fs, -6)).1 (KN S)) ∧ FrRw m M' ∧ (∀ j, M' 16 j = M 16 j) ∧ M' 1 23 = (wk true S w h ms sg 4 0 (T0, fs, -6)).2.2 := fun M fs hfr h20 hfs hlen hok => by
    obtain ⟨M', e, g, wt, f⟩ := sM_work (N := jN) (W := true) (fs := fs) (m := M) (by omega) (hfr.MF hF) hp hT hms hX (hs.same (fun i => hfr.1 2 (by decide) (by omega) i)) (by rw [hfr.1 2 (by decide) (by omega)]; exact h2) (fun i hi => by rw [hfr.1 5 (by decide) (by omega), hfr.1 6 (by decide) (by omega)]; exact htx i hi) h20 hfs hlen hok
    refine ⟨M', e, ?_, hfr.tr f.Rw, fun j => f.1 16 (by decide) (by decide) (by decide) (by decide) (by decide) (by decide) (by decide) (by decide) j, wt.2.1⟩
    rw [sM_bestOf (W := true) (by omega) g.1 g.2.2.2.2.1 hK.1 g.2.2.2.2.2, bst_congr (KN S) (fun k hk => wt.1 k hk)]
  -- digit by digit
  have outer : ∀ (Q P : List Nat) (n : Nat) (M : jm_M) (x4 : Int), rwD S w h ms sg = P ++ Q → 20 - P.length < n → P.length ≤ 20 → FrRw m M → FSm M 0 P → (Q = [] → x4 = -6) → (Q ≠ [] → 0 < x4) → ∃ M', f_X12_layRow_l14 jN shM n 1 (p : Int) (rwX S w h ms sg : Int) (P.length : Int) x4 M = some (if (rwD S w h ms sg).length ≤ 20 then ((rwD S w h ms sg).length : Int) else -6, M') ∧ FrRw m M' ∧ ((rwD S w h ms sg).length ≤ 20 → FSm M' 0 (rwD S w h ms sg)) := by
    intro Q
    induction Q with
    | nil =>
      intro P n M x4 hD hn hP hfr hfs q1 q2
      obtain ⟨n, rfl⟩ : ∃ n', n = n' + 1 := ⟨n - 1, by omega⟩
      rw [List.append_nil] at hD
      refine ⟨M, ?_, hfr, fun _ => by rw [hD]; exact hfs⟩
      show f_X12_layRow_b14 jN shM (f_X12_layRow_l14 jN shM n) 1 (p : Int) (rwX S w h ms sg : Int) (P.length : Int) x4 M = _
      unfold f_X12_layRow_b14
      rw [q1 rfl, if_neg (by decide), hD, if_pos hP]
    | cons x Q ih =>
      intro P n M x4 hD hn hP hfr hfs q1 q2
      obtain ⟨n, rfl⟩ : ∃ n', n = n' + 1 := ⟨n - 1, by omega⟩
      have hlen : (rwD S w h ms sg).length = P.length + (Q.length + 1) := by rw [hD, List.length_append, List.length_cons]
      show ∃ M', f_X12_layRow_b14 jN shM (f_X12_layRow_l14 jN shM n) 1 (p : Int) (rwX S w h ms sg : Int) (P.length : Int) x4 M = _ ∧ _
      unfold f_X12_layRow_b14
      rw [if_pos (q2 (fun z => by cases z))]
      by_cases c : P.length = 20
      · refine ⟨M, ?_, hfr, fun z => by omega⟩
        rw [if_pos (by omega), if_neg (by omega)]
      · rw [if_neg (by omega)]
        have hx4 : x ≤ 4 := hokD x (by rw [hD]; exact List.mem_append_right _ (List.mem_cons_self ..))
        have hokP : okF P := fun y hy => hokD y (by rw [hD]; exact List.mem_append_left _ hy)
        have hD' : rwD S w h ms sg = (P ++ [x]) ++ Q := by rw [hD, List.append_assoc]; rfl
        -- the digits, from 0 on
        have inner : ∀ (r d n2 : Nat) (M1 : jm_M), d + r = x → r + 1 < n2 → FrRw m M1 → FSm M1 0 P → ∃ M', f_X12_layRow_l34 jN shM (f_X12_layRow_l14 jN shM n) n2 1 (p : Int) (rwX S w h ms sg : Int) (P.length : Int) (d : Int) 0 M1 = some (if (rwD S w h ms sg).length ≤ 20 then ((rwD S w h ms sg).length : Int) else -6, M') ∧ FrRw m M' ∧ ((rwD S w h ms sg).length ≤ 20 → FSm M' 0 (rwD S w h ms sg)) := by
          intro r
          induction r with
          | zero =>
            intro d n2 M1 hd hn2 hf1 hs1
            obtain rfl : d = x := by omega
            obtain ⟨n2, rfl⟩ : ∃ n', n2 = n' + 1 + 1 := ⟨n2 - 2, by omega⟩
            generalize hM2 : jm_up (jm_up M1 16 P.length (d : Int)) 1 20 ((P.length + 1 : Nat) : Int) = M2
            have f12 : FrRw M1 M2 := ⟨fun a a1 a2 j => by rw [← hM2, up_ne a1, up_ne (by omega)], fun j _ _ _ _ a5 _ _ _ => by rw [← hM2, up_nk a5, up_ne (by decide)]⟩
            have s2 : FSm M2 0 (P ++ [d]) := FSm_app P 0 d (FSm_up P 0 (fun j hj => by rw [← hM2, up_ne (by decide), up_nk (by omega)]) hs1) (by rw [Nat.zero_add, ← hM2, up_ne (by decide)]; exact up_eq)
            have l2 : (P ++ [d]).length = P.length + 1 := by rw [List.length_append]; rfl
            obtain ⟨M3, e3, b3, f3, r3, t3⟩ := work M2 (P ++ [d]) (hf1.tr f12) (by rw [l2, ← hM2]; exact up_eq) s2 (by omega) (okF_app hokP (okF_cons hx4 okF_nil))
            obtain ⟨p1, p2, p3⟩ := row_pre hT hX hD'
            rw [p1] at b3
            obtain ⟨M', e', f', s'⟩ := ih (P ++ [d]) n M3 (M3 1 23) hD' (by omega) (by omega) f3 (s2.same (fun j => r3 j)) (fun z => by rw [t3]; exact p2 z) (fun z => by rw [t3]; exact p3 z)
            refine ⟨M', ?_, f', s'⟩
            show f_X12_layRow_b34 jN shM (f_X12_layRow_l14 jN shM n) (f_X12_layRow_l34 jN shM (f_X12_layRow_l14 jN shM n) (n2 + 1)) 1 (p : Int) (rwX S w h ms sg : Int) (P.length : Int) (d : Int) 0 M1 = _
            unfold f_X12_layRow_b34 f_X12_layRow_b73
            rw [if_pos rfl, jrf_ok sM1, Option.bind_some, (hf1.MF hF).t21, jwa_ok sM16 (by omega) (by omega), Option.bind_some, Int.toNat_natCast, jw_succ (by omega), jwf_ok sM1, Option.bind_some, hM2, jck_ok sM1, Option.bind_some, e3, Option.bind_some, Option.bind_some, b3, Option.bind_some, if_pos rfl]
            show f_X12_layRow_b34 jN shM (f_X12_layRow_l14 jN shM n) (f_X12_layRow_l34 jN shM (f_X12_layRow_l14 jN shM n) n2) 1 (p : Int) (rwX S w h ms sg : Int) (P.length : Int) (jw ((d : Int) + 1)) 1 M3 = _
            unfold f_X12_layRow_b34
            rw [if_neg (by decide), jrf_ok sM1, Option.bind_some, jw_succ (by omega), ← l2]
            exact e'
          | succ r ihr =>
            intro d n2 M1 hd hn2 hf1 hs1
            obtain ⟨n2, rfl⟩ : ∃ n', n2 = n' + 1 := ⟨n2 - 1, by omega⟩
            generalize hM2 : jm_up (jm_up M1 16 P.length (d : Int)) 1 20 ((P.length + 1 : Nat) : Int) = M2
            have f12 : FrRw M1 M2 := ⟨fun a a1 a2 j => by rw [← hM2, up_ne a1, up_ne (by omega)], fun j _ _ _ _ a5 _ _ _ => by rw [← hM2, up_nk a5, up_ne (by decide)]⟩
            have sp : FSm M2 0 P := FSm_up P 0 (fun j hj => by rw [← hM2, up_ne (by decide), up_nk (by omega)]) hs1
            have s2 : FSm M2 0 (P ++ [d]) := FSm_app P 0 d sp (by rw [Nat.zero_add, ← hM2, up_ne (by decide)]; exact up_eq)
            have l2 : (P ++ [d]).length = P.length + 1 := by rw [List.length_append]; rfl
            obtain ⟨M3, e3, b3, f3, r3, t3⟩ := work M2 (P ++ [d]) (hf1.tr f12) (by rw [l2, ← hM2]; exact up_eq) s2 (by omega) (okF_app hokP (okF_cons (by omega) okF_nil))
            have ne := row_less hT hX hD (show d < x by omega)
            obtain ⟨M', e', f', s'⟩ := ihr (d + 1) n2 M3 (by omega) (by omega) f3 (sp.same (fun j => r3 j))
            refine ⟨M', ?_, f', s'⟩
            show f_X12_layRow_b34 jN shM (f_X12_layRow_l14 jN shM n) (f_X12_layRow_l34 jN shM (f_X12_layRow_l14 jN shM n) n2) 1 (p : Int) (rwX S w h ms sg : Int) (P.length : Int) (d : Int) 0 M1 = _
            unfold f_X12_layRow_b34 f_X12_layRow_b73
            rw [if_pos rfl, jrf_ok sM1, Option.bind_some, (hf1.MF hF).t21, jwa_ok sM16 (by omega) (by omega), Option.bind_some, Int.toNat_natCast, jw_succ (n := P.length) (by omega), jwf_ok sM1, Option.bind_some, hM2, jck_ok sM1, Option.bind_some, e3, Option.bind_some, Option.bind_some, b3, Option.bind_some, if_neg ne, jw_succ (by omega)]
            exact e'
        exact inner x 0 jN M (by omega) (by omega) hfr hfs
  -- the first work, free
  have f0 : FrRw m (jm_up m 1 20 0) := ⟨fun a a1 a2 j => up_ne a1, fun j _ _ _ _ a5 _ _ _ => up_nk a5⟩
  obtain ⟨M0, e0, b0, fr0, r0, t0⟩ := work (jm_up m 1 20 0) [] f0 up_eq trivial (by decide) okF_nil
  obtain ⟨p1, p2, p3⟩ := row_pre (ms := ms) (P := []) (Q := rwD S w h ms sg) hT hX rfl
  rw [p1] at b0
  obtain ⟨M', e', f', s'⟩ := outer (rwD S w h ms sg) [] jN M0 (M0 1 23) rfl (by omega) (by decide) fr0 trivial (fun z => by rw [t0]; exact p2 z) (fun z => by rw [t0]; exact p3 z)
  refine ⟨M', ?_, f', s'⟩
  have ew : f_X12_worstOf jN shM 1 (p : Int) m = some ((rwX S w h ms sg : Int), M0) := by
    unfold f_X12_worstOf
    rw [jwf_ok sM1, Option.bind_some, jck_ok sM1, Option.bind_some, e0, Option.bind_some, Option.bind_some, b0, Option.bind_some]
  unfold f_X12_layRow
  rw [jck_ok sM1, Option.bind_some, ew, Option.bind_some, jrf_ok sM1, Option.bind_some]
  exact e'
