def bfW (fr x j : Nat) : Nat := if j = 0 then fr else 122 + 4 * x + (j - 1)
theorem walk_loop {N t cn : Nat} {sg : Nat → Int} {S w h ms cr : Nat} (hN : 1000 ≤ N) (ht : t ∈ tL) (hT : ST S w h) (hms : ms ≤ 20) (hX : TX cn sg) (hcr : cr = lr sg 0 cn) {d i : Nat} (hd : d + 1 ≤ 4) (hs : 98 ≤ sg i ∧ sg i ≤ 100) (hz : zs sg 4 i = 1 + zs sg 4 (i + 1)) (hw : wf sg d (i + 1) = true) (ih : WlP N t cn sg S w h ms cr d (i + 1)) : WlP N t cn sg S w h ms cr (d + 1) i := by
  intro D x fr B k β ds m hD hx hfr hfx hi hG hA hAB hB hq
  have hzp := zs_pos sg 4 (i + 1)
  have hcn := hX.1
  have hic : i < cn := by omega
  have htm := tm_le hs
  rw [mul4] at hB
  obtain ⟨D, rfl⟩ : ∃ D', D = D' + 1 := ⟨D - 1, by omega⟩
  have hfr12 : fr ≠ 112 ∧ fr ≠ 113 := by unfold isW at hfr; omega
  by_cases c20 : ds.length ≤ 20
  · have hh := walk_head (N := N) (D := D) (x := x) (fr := fr) ht hX (show x ≤ 4 by omega) hic c20 hG hq
    rw [hh, if_neg (by omega), if_neg (by omega), if_neg (by omega), if_pos hs, gr_loop hs]
    have ht1 := (tC hG.1 t ht).1
    have hWj : ∀ j, j < 4 → isW (122 + 4 * x + j) := fun j hj => by unfold isW; omega
    have hbj : ∀ j, j ≤ 3 → ∀ k, itB (lk S w h ms sg d (i + 1)) β j k ≤ B + 3 * ((ms + 1) * 4 ^ d) := fun j hj k => by
      have := itB_B (ms := ms) hT (show d ≤ 4 by omega) hw hAB j k
      have h3 : j * ((ms + 1) * 4 ^ d) ≤ 3 * ((ms + 1) * 4 ^ d) := Nat.mul_le_mul_right _ hj
      omega
    -- the tables of all numbers of times
    have look : ∀ (r j n : Nat) (M : jm_M), j + r = tmO (sg i) → r < n → FrC m M x → QW M S w h cr k ds → TBc M S w h cr fr β → (∀ j', j' < j → TBc M S w h cr (122 + 4 * x + j') (itB (lk S w h ms sg d (i + 1)) β (j' + 1))) → ∃ M' n', f_X5_walkLoop_l36 N shC (f_X5_walk N shC D) n 112 (x : Int) fr ((i + 1 : Nat) : Int) (tmO (sg i) : Int) (amX (lk S w h ms sg d (i + 1)) β k j : Int) (itB (lk S w h ms sg d (i + 1)) β (amX (lk S w h ms sg d (i + 1)) β k j) k : Int) (bfW fr x j) (j : Int) M = f_X5_walkLoop_l36 N shC (f_X5_walk N shC D) (n' + 1) 112 (x : Int) fr ((i + 1 : Nat) : Int) (tmO (sg i) : Int) (amX (lk S w h ms sg d (i + 1)) β k (tmO (sg i)) : Int) (itB (lk S w h ms sg d (i + 1)) β (amX (lk S w h ms sg d (i + 1)) β k (tmO (sg i))) k : Int) (bfW fr x (tmO (sg i))) (tmO (sg i) : Int) M' ∧ FrC m M' x ∧ QW M' S w h cr k ds ∧ TBc M' S w h cr fr β ∧ (∀ j', j' < tmO (sg i) → TBc M' S w h cr (122 + 4 * x + j') (itB (lk S w h ms sg d (i + 1)) β (j' + 1))) := by
      intro r
      induction r with
      | zero =>
        intro j n M hj hn f q a b
        obtain rfl : j = tmO (sg i) := by omega
        obtain ⟨n, rfl⟩ : ∃ n', n = n' + 1 := ⟨n - 1, by omega⟩
        exact ⟨M, n, rfl, f, q, a, b⟩
      | succ r ihr =>
        intro j n M hj hn f q a b
        obtain ⟨n, rfl⟩ : ∃ n', n = n' + 1 := ⟨n - 1, by omega⟩
        have hGM := f.G hG ht
        have hWb : isW (bfW fr x j) := by
          unfold bfW
          split
          · exact hfr
          · exact hWj _ (by omega)
        have hbne : bfW fr x j ≠ 122 + 4 * x + j := by unfold bfW; split <;> omega
        have hbx : bfW fr x j < 116 + (x + 1) ∨ 120 < bfW fr x j := by unfold bfW; split <;> omega
        have hTb : TBc M S w h cr (bfW fr x j) (itB (lk S w h ms sg d (i + 1)) β j) := by
          unfold bfW
          by_cases c : j = 0
          · rw [if_pos c, c]; exact a
          · rw [if_neg c]
            have := b (j - 1) (by omega)
            rw [show j - 1 + 1 = j by omega] at this
            exact this
        obtain ⟨M2, e2, t2, f2⟩ := look_all (N := N) (ms := ms) hN ht hT hms hX hcr d (by omega) (i + 1) hw 8 (x + 1) (bfW fr x j) (122 + 4 * x + j) (B + 3 * ((ms + 1) * 4 ^ d)) (itB (lk S w h ms sg d (i + 1)) β j) M (by omega) (by omega) hWb (hWj j (by omega)) hbne hbx (by omega) (by omega) hGM hTb (hbj j (by omega)) (by omega)
        have t2 : TBc M2 S w h cr (122 + 4 * x + j) (itB (lk S w h ms sg d (i + 1)) β (j + 1)) := t2
        have q2 := f2.Q (hWj j (by omega)) q
        obtain ⟨⟨c, rk, e1⟩, -, -⟩ := q2.1 c20
        have h1 := s_here hT (hWj j (by omega)) t2 rk e1
        have fC2 : FrC m M2 x := f.tr (f2.C (x := x) (by omega) (by omega)) (Nat.le_refl _)
        have nxt := ihr (j + 1) n M2 (by omega) (by omega) fC2 q2 (a.same (fun jj => f2 fr (by omega) (by omega) jj)) (fun j' hj' => by
          by_cases cj : j' = j
          · rw [cj]; exact t2
          · exact (b j' (by omega)).same (fun jj => f2 _ (by omega) (by omega) jj))
        have ebf : bfW fr x (j + 1) = 122 + 4 * x + j := if_neg (by omega)
        have eam : amX (lk S w h ms sg d (i + 1)) β k (j + 1) = if itB (lk S w h ms sg d (i + 1)) β (amX (lk S w h ms sg d (i + 1)) β k j) k < itB (lk S w h ms sg d (i + 1)) β (j + 1) k then j + 1 else amX (lk S w h ms sg d (i + 1)) β k j := rfl
        rw [ebf] at nxt
        show ∃ M' n', f_X5_walkLoop_b36 N shC (f_X5_walk N shC D) (f_X5_walkLoop_l36 N shC (f_X5_walk N shC D) n) 112 (x : Int) fr ((i + 1 : Nat) : Int) (tmO (sg i) : Int) (amX (lk S w h ms sg d (i + 1)) β k j : Int) (itB (lk S w h ms sg d (i + 1)) β (amX (lk S w h ms sg d (i + 1)) β k j) k : Int) (bfW fr x j) (j : Int) M = _ ∧ _
        unfold f_X5_walkLoop_b36 f_X5_walkLoop_b91
        rw [if_pos (by omega), jck_ok sC112, Option.bind_some, s_ahead hGM.1 (by omega) (by omega), Option.bind_some, Option.bind_some, jw_succ (by omega), e2, Option.bind_some, Option.bind_some, h1, Option.bind_some, jw_succ (by omega)]
        by_cases cc : itB (lk S w h ms sg d (i + 1)) β (amX (lk S w h ms sg d (i + 1)) β k j) k < itB (lk S w h ms sg d (i + 1)) β (j + 1) k
        · rw [if_pos cc] at eam
          rw [eam] at nxt
          rw [if_pos (by omega), Option.bind_some, Option.bind_some]
          exact nxt
        · rw [if_neg cc] at eam
          rw [eam] at nxt
          rw [if_neg (by omega)]
          exact nxt
    obtain ⟨M1, n1, e1, f1, q1, a1, b1⟩ := look (tmO (sg i)) 0 N m (by omega) (by omega) (FrC.rf m x) hq hA (fun j' hj' => by omega)
    have hG1 := f1.G hG ht
    have hle := amX_le (B := lk S w h ms sg d (i + 1)) (β := β) (k := k) (tmO (sg i))
    obtain ⟨M2, p1, p2, p3, -⟩ := s_put (d := amX (lk S w h ms sg d (i + 1)) β k (tmO (sg i))) (x := x + 1) hG1.1 c20 q1
    -- the walks within
    have walk : ∀ (n k ds2 fu : Nat) (ds : List Nat) (M : jm_M), n ≤ tmO (sg i) → n < fu → GRr M t cn sg S w h ms cr → TBc M S w h cr fr β → (∀ j', j' < tmO (sg i) → TBc M S w h cr (122 + 4 * x + j') (itB (lk S w h ms sg d (i + 1)) β (j' + 1))) → QW M S w h cr k ds → ∃ M', f_X5_walkLoop_l113 N shC (f_X5_walk N shC D) fu 112 (x : Int) fr ((i + 1 : Nat) : Int) ((n : Int) - 1) M = some M' ∧ QW M' S w h cr (gI (lk S w h ms sg d (i + 1)) (gr S w h ms sg d (i + 1)) n β k).1 (ds ++ (gI (lk S w h ms sg d (i + 1)) (gr S w h ms sg d (i + 1)) n β k).2) ∧ FrC M M' (x + 1) := by
      intro n
      induction n with
      | zero =>
        intro k ds2 fu ds M hn hf hGM aM bM qM
        obtain ⟨fu, rfl⟩ : ∃ n', fu = n' + 1 := ⟨fu - 1, by omega⟩
        refine ⟨M, ?_, ?_, FrC.rf M (x + 1)⟩
        · show f_X5_walkLoop_b113 N shC (f_X5_walk N shC D) (f_X5_walkLoop_l113 N shC (f_X5_walk N shC D) fu) 112 (x : Int) fr ((i + 1 : Nat) : Int) (((0 : Nat) : Int) - 1) M = _
          unfold f_X5_walkLoop_b113
          rw [if_pos (by decide)]
        · show QW M S w h cr k (ds ++ [])
          rw [List.append_nil]; exact qM
      | succ n ihn =>
        intro k ds2 fu ds M hn hf hGM aM bM qM
        obtain ⟨fu, rfl⟩ : ∃ n', fu = n' + 1 := ⟨fu - 1, by omega⟩
        have hWb : isW (bfW fr x n) := by
          unfold bfW
          split
          · exact hfr
          · exact hWj _ (by omega)
        have hbx : bfW fr x n < 116 ∨ (120 < bfW fr x n ∧ bfW fr x n < 122 + 4 * (x + 1)) := by unfold bfW; split <;> omega
        have hTb : TBc M S w h cr (bfW fr x n) (itB (lk S w h ms sg d (i + 1)) β n) := by
          unfold bfW
          by_cases c : n = 0
          · rw [if_pos c, c]; exact aM
          · rw [if_neg c]
            have := bM (n - 1) (by omega)
            rw [show n - 1 + 1 = n by omega] at this
            exact this
        obtain ⟨M3, e3, q3, f3⟩ := ih D (x + 1) (bfW fr x n) (B + 3 * ((ms + 1) * 4 ^ d)) k (itB (lk S w h ms sg d (i + 1)) β n) ds M (by omega) (by omega) hWb hbx (by omega) hGM hTb (hbj n (by omega)) (by omega) qM
        obtain ⟨M4, e4, q4, f4⟩ := ihn _ ds2 fu _ M3 (by omega) (by omega) (f3.G hGM ht) (aM.same (fun jj => f3.1 fr hfr12.1 hfr12.2 (by omega) (by omega) jj)) (fun j' hj' => (bM j' hj').same (fun jj => f3.1 _ (by omega) (by omega) (by omega) (by omega) jj)) q3
        refine ⟨M4, ?_, ?_, f3.tr f4 (Nat.le_refl _)⟩
        · have en : ((n + 1 : Nat) : Int) - 1 = (n : Int) := by omega
          rw [en]
          show f_X5_walkLoop_b113 N shC (f_X5_walk N shC D) (f_X5_walkLoop_l113 N shC (f_X5_walk N shC D) fu) 112 (x : Int) fr ((i + 1 : Nat) : Int) (n : Int) M = _
          unfold f_X5_walkLoop_b113 f_X5_walkLoop_b143
          have ej : jw ((n : Int) + (-1)) = (n : Int) - 1 := by rw [jw_eq (by omega) (by omega)]; rfl
          rw [if_neg (by omega), jck_ok sC112, Option.bind_some, jw_succ (n := x) (by omega), ej]
          by_cases c : n = 0
          · have eb : bfW fr x n = fr := if_pos c
            rw [eb] at e3
            rw [if_pos (by omega), e3, Option.bind_some]
            exact e4
          · have eb : bfW fr x n = 122 + 4 * x + (n - 1) := if_neg c
            rw [eb] at e3
            have en1 : jw ((n : Int) - 1) = ((n - 1 : Nat) : Int) := by rw [jw_eq (by omega) (by omega)]; omega
            rw [if_neg (by omega), en1, s_ahead hGM.1 (by omega) (by omega)]
            simp only [Option.bind_some]
            rw [e3, Option.bind_some]
            exact e4
        · rw [List.append_assoc] at q4
          exact q4
    obtain ⟨M5, e5, q5, f5⟩ := walk (amX (lk S w h ms sg d (i + 1)) β k (tmO (sg i))) k 0 N _ M2 hle (by omega) (p3.G hG1 ht) (a1.same (fun jj => p3.1 fr hfr12.1 hfr12.2 (by omega) (by omega) jj)) (fun j' hj' => (b1 j' hj').same (fun jj => p3.1 _ (by omega) (by omega) (by omega) (by omega) jj)) p2
    refine ⟨M5, ?_, ?_, (f1.tr p3 (by omega)).tr f5 (by omega)⟩
    · obtain ⟨⟨c, rk, ec⟩, -, -⟩ := hq.1 c20
      unfold f_X5_walkLoop
      have h0 := s_here hT hfr hA rk ec
      have e1 : f_X5_walkLoop_l36 N shC (f_X5_walk N shC D) N 112 (x : Int) fr ((i + 1 : Nat) : Int) (tmO (sg i) : Int) 0 (β k : Int) fr 0 m = f_X5_walkLoop_l36 N shC (f_X5_walk N shC D) (n1 + 1) 112 (x : Int) fr ((i + 1 : Nat) : Int) (tmO (sg i) : Int) (amX (lk S w h ms sg d (i + 1)) β k (tmO (sg i)) : Int) (itB (lk S w h ms sg d (i + 1)) β (amX (lk S w h ms sg d (i + 1)) β k (tmO (sg i))) k : Int) (bfW fr x (tmO (sg i))) (tmO (sg i) : Int) M1 := e1
      rw [jrf_ok sC112, Option.bind_some, hG.2.2.2.1, Int.toNat_natCast, jck_ok ht1, Option.bind_some, s_first (by omega), Option.bind_some, Option.bind_some, Int.toNat_natCast, jck_ok ht1, Option.bind_some, s_times hG.1 ht hG.2.1 hcn hic hs, Option.bind_some, jck_ok sC112, Option.bind_some, h0, Option.bind_some, e1]
      have e2 : f_X5_walkLoop_l36 N shC (f_X5_walk N shC D) (n1 + 1) 112 (x : Int) fr ((i + 1 : Nat) : Int) (tmO (sg i) : Int) (amX (lk S w h ms sg d (i + 1)) β k (tmO (sg i)) : Int) (itB (lk S w h ms sg d (i + 1)) β (amX (lk S w h ms sg d (i + 1)) β k (tmO (sg i))) k : Int) (bfW fr x (tmO (sg i))) (tmO (sg i) : Int) M1 = some M5 := by
        show f_X5_walkLoop_b36 N shC (f_X5_walk N shC D) (f_X5_walkLoop_l36 N shC (f_X5_walk N shC D) n1) 112 (x : Int) fr ((i + 1 : Nat) : Int) (tmO (sg i) : Int) (amX (lk S w h ms sg d (i + 1)) β k (tmO (sg i)) : Int) (itB (lk S w h ms sg d (i + 1)) β (amX (lk S w h ms sg d (i + 1)) β k (tmO (sg i))) k : Int) (bfW fr x (tmO (sg i))) (tmO (sg i) : Int) M1 = _
        unfold f_X5_walkLoop_b36
        rw [if_neg (by omega), jck_ok sC112, Option.bind_some, p1, Option.bind_some, jw_eq (by omega) (by omega)]
        exact e5
      rw [e2, Option.bind_some]
    · rw [List.append_assoc] at q5
      exact q5
  · exact walk_stop (t := t) (cn := cn) (by omega) (by omega) hq
theorem walk_all {N t cn : Nat} {sg : Nat → Int} {S w h ms cr : Nat} (hN : 1000 ≤ N) (ht : t ∈ tL) (hT : ST S w h) (hms : ms ≤ 20) (hX : TX cn sg) (hcr : cr = lr sg 0 cn) : ∀ d, d ≤ 4 → ∀ i, wf sg d i = true → WlP N t cn sg S w h ms cr d i := by
  refine wf_ind sg (WlP N t cn sg S w h ms cr) ?_ ?_ ?_
  · intro d i hd hl hz
    exact walk_leaf ht hT hX hcr hl hz
  · intro d i hd hs hz hw ih
    exact walk_loop hN ht hT hms hX hcr hd hs hz hw ih
  · intro d i hd hs hz hw hw2 ih ih2
    rcases hs with hs | hs
    · exact walk_seq hN ht hT hms hX hcr hd hs hz hw2 ih ih2
    · exact walk_cho hN ht hT hms hX hcr hd hs hz hw hw2 ih ih2
