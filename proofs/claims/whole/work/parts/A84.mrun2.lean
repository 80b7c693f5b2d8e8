theorem itr_in (f : RS → RS) : ∀ n q, itr f (n + 1) q = itr f n (f q) := by
  intro n
  induction n with
  | zero => intro q; rfl
  | succ n ih => intro q; show f (itr f (n + 1) q) = f (itr f n (f q)); rw [ih]
def RunP (N : Nat) (p cn : Nat) (sg : Nat → Int) (S w h ms : Nat) (bd : jBd) (d i : Nat) : Prop := ∀ (pl n : Nat) (x2 : Int) (q : RS) (m : jm_M), pl + d ≤ 5 → i + zs sg 4 i ≤ cn → BD d ms q → GM m p cn sg S w h ms bd → m 1 12 = (pl : Int) → m 1 26 = (q.2.2.2.2 : Int) → q.1 < KN S → stp d < n →
    ∃ M n', rl N n x2 q ((30 * p + i : Nat) : Int) m = rl N n' x2 (ex S w h ms (dgO bd) sg d i q) (-6) M ∧ n ≤ n' + stp d ∧ GM M p cn sg S w h ms bd ∧ M 1 12 = (pl : Int) ∧ M 1 26 = ((ex S w h ms (dgO bd) sg d i q).2.2.2.2 : Int) ∧ (ex S w h ms (dgO bd) sg d i q).1 < KN S ∧ FrP m M pl
theorem run_all {N p cn : Nat} {sg : Nat → Int} {S w h ms : Nat} {bd : jBd} (hN : 100 ≤ N) (hp : p < 4) (hT : ST S w h) (hms : ms ≤ 20) (hX : TX cn sg) (hV : VB bd) :
    ∀ d, d ≤ 4 → ∀ i, wf sg d i = true → RunP N p cn sg S w h ms bd d i := by
  have hcn := hX.1
  refine wf_ind sg (RunP N p cn sg S w h ms bd) ?_ ?_ ?_
  · intro d i hd hl hz pl n x2 q m hpl hi hB hG h12 h26 hk hn
    have hic : i < cn := by omega
    have hsp := stp_pos d
    obtain ⟨n, rfl⟩ : ∃ n', n = n' + 1 := ⟨n - 1, by omega⟩
    obtain ⟨g1, g2, g3, g4, g5, g6⟩ := id hG
    rw [ex_leaf hl, rl_begin (by omega)]
    have p1 : 1 ≤ 4 ^ d := Nat.pow_pos (by decide)
    have p3 : (ms + 1) * 1 ≤ (ms + 1) * 4 ^ d := Nat.mul_le_mul_left _ p1
    obtain ⟨b1, b2, b3, b4⟩ := hB
    unfold f_X12_run_b60
    rw [if_neg (by omega), jrf_ok sM1, Option.bind_some, g1.t4, jra_ok sM5 (by omega) (by omega), Option.bind_some, Int.toNat_natCast, (g4 i hic).1, sM_in, Option.bind_some, ifb]
    by_cases c : 48 ≤ sg i ∧ sg i ≤ 55
    · have hl8 := ln_lt c
      have eL : exL S w h ms (sg i) q = (fK S w h q.1 (lnO (sg i)), q.2.1 + (if tK S h q.1 (lnO (sg i)) then 1 else ms), q.2.2.1 + 1, q.2.2.2.1 + (if tK S h q.1 (lnO (sg i)) then 0 else 1), q.2.2.2.2) := if_pos c
      have eln : jw (sg i - 48) = (lnO (sg i) : Int) := by rw [jw_eq (by omega) (by omega)]; unfold lnO; omega
      rw [if_pos c, jck_ok sM1, Option.bind_some, eln, sM_fetch hN g1 hT g2 hk hl8, Option.bind_some]
      dsimp only
      rw [jrf_ok sM1, Option.bind_some, up_eq, eL]
      generalize hM : jm_up m 1 10 (if tK S h q.1 (lnO (sg i)) = true then 1 else 0) = M
      have hfr : FrP m M pl := by rw [← hM]; exact (FrP.rf m pl).f1 (Or.inl rfl)
      have hGM := hG.frP hfr
      have e10 : M 1 10 = (if tK S h q.1 (lnO (sg i)) = true then 1 else 0) := by rw [← hM]; exact up_eq
      have e12 : M 1 12 = (pl : Int) := by rw [← hM, up_nk (by decide)]; exact h12
      have e26 : M 1 26 = (q.2.2.2.2 : Int) := by rw [← hM, up_nk (by decide)]; exact h26
      have hkl := fK_lt (w := w) hT hl8 hk
      refine ⟨M, n, ?_, by omega, hGM, e12, e26, hkl, hfr⟩
      cases ht : tK S h q.1 (lnO (sg i)) with
      | true =>
        rw [ht] at e10
        have e10 : M 1 10 = 1 := e10
        rw [if_pos rfl, if_neg (by decide)]
        unfold f_X12_run_b227 f_X12_run_b249 f_X12_run_b348
        rw [jrf_ok sM1, Option.bind_some, e10, if_neg (by decide), jw_succ (by omega), jw_succ (by omega), jw_eq (by omega) (by omega), show (q.2.2.2.1 : Int) + 0 = ((q.2.2.2.1 + 0 : Nat) : Int) by omega]
        rfl
      | false =>
        rw [ht] at e10
        have e10 : M 1 10 = 0 := e10
        rw [if_pos (show (if false = true then (1 : Int) else 0) = 0 from rfl)]
        unfold f_X12_run_b227 f_X12_run_b249 f_X12_run_b348
        rw [jrf_ok sM1, Option.bind_some, e10, if_pos rfl, jrf_ok sM1, Option.bind_some, hGM.1.t0, jra_ok sM2 (by decide) (by decide), Option.bind_some, show (2 : Int).toNat = 2 from rfl, hGM.2.2.1, jw_succ (by omega), jw_succ (by omega), jw_eq (x := (q.2.1 : Int) + (ms : Int)) (by omega) (by omega), show (q.2.1 : Int) + (ms : Int) = ((q.2.1 + ms : Nat) : Int) by omega]
        rfl
    · have h45 : sg i = 45 := by rw [isLf_iff] at hl; omega
      have eL : exL S w h ms (sg i) q = q := if_neg c
      rw [if_neg c, if_neg (by omega), if_neg (by omega), eL]
      unfold f_X12_isLoop
      rw [sM_in, Option.bind_some, if_neg (by omega), jzb_0, Option.bind_some, Option.bind_some, if_pos rfl]
      exact ⟨m, n, rfl, by omega, hG, h12, h26, hk, FrP.rf m pl⟩
  · intro d i hd hs hz hw ih pl n x2 q m hpl hi hB hG h12 h26 hk hn
    have hic : i < cn := by omega
    have hzp := zs_pos sg 4 (i + 1)
    have hn : 6 + 5 * stp d < n := hn
    obtain ⟨n, rfl⟩ : ∃ n', n = n' + 1 := ⟨n - 1, by omega⟩
    obtain ⟨g1, g2, g3, g4, g5, g6⟩ := id hG
    have htm := tm_le hs
    have hK : dgO bd q.2.2.2.2 % (tmO (sg i) + 1) ≤ 4 := by
      have := Nat.mod_lt (dgO bd q.2.2.2.2) (show 0 < tmO (sg i) + 1 by omega)
      omega
    have hta : q.2.2.2.2 ≤ 100000 := Nat.le_trans (Nat.le_add_right _ _) hB.2.2.2
    have hf1 : FrP m (jm_up m 1 26 ((q.2.2.2.2 + 1 : Nat) : Int)) pl := (FrP.rf m pl).f1 (Or.inr (Or.inr rfl))
    have hG1 := hG.frP hf1
    obtain ⟨a1, a2, a3, a4, a5⟩ := piM_at (m := jm_up m 1 26 ((q.2.2.2.2 + 1 : Nat) : Int)) (pl := pl) (at' := ((30 * p + i : Nat) : Int)) (st := 0) (lf := ((dgO bd q.2.2.2.2 % (tmO (sg i) + 1) : Nat) : Int))
    have e26 : piM (jm_up m 1 26 ((q.2.2.2.2 + 1 : Nat) : Int)) pl ((30 * p + i : Nat) : Int) 0 ((dgO bd q.2.2.2.2 % (tmO (sg i) + 1) : Nat) : Int) 1 26 = ((tkd q).2.2.2.2 : Int) := by
      unfold piM
      rw [up_nk (by decide), up_ne (by decide), up_ne (by decide), up_ne (by decide), up_eq]; rfl
    have e0 : rl N (n + 1) x2 q ((30 * p + i : Nat) : Int) m = rl N n x2 (tkd q) (-6) (piM (jm_up m 1 26 ((q.2.2.2.2 + 1 : Nat) : Int)) pl ((30 * p + i : Nat) : Int) 0 ((dgO bd q.2.2.2.2 % (tmO (sg i) + 1) : Nat) : Int)) := by
      rw [rl_begin (by omega)]
      unfold f_X12_run_b60
      rw [if_neg (by omega), jrf_ok sM1, Option.bind_some, g1.t4, jra_ok sM5 (by omega) (by omega), Option.bind_some, Int.toNat_natCast, (g4 i hic).1, sM_in, Option.bind_some, ifb, if_neg (by omega), if_neg (by omega), if_neg (by omega)]
      unfold f_X12_isLoop f_X12_timesOf
      rw [sM_in, Option.bind_some, if_pos hs, jzb_1, Option.bind_some, Option.bind_some, if_neg (by decide), jck_ok sM1, Option.bind_some, sM_nextDigit hG hV h26 hta, Option.bind_some, Option.bind_some]
      dsimp only
      have etm : jw (jw (sg i - 98) + 2) = (tmO (sg i) : Int) := by rw [jw_eq (x := sg i - 98) (by omega) (by omega), jw_eq (by omega) (by omega)]; unfold tmO; omega
      rw [etm, jw_succ (by omega), if_neg (by omega), Option.bind_some, jrem_nat, sM_pile hG1.1 (by rw [up_nk (by decide)]; exact h12) (by omega), Option.bind_some]
      unfold f_X12_run_b348
      rfl
    rw [e0, ex_loop hs]
    generalize dgO bd q.2.2.2.2 % (tmO (sg i) + 1) = K at *
    have hf2 : FrP m (piM (jm_up m 1 26 ((q.2.2.2.2 + 1 : Nat) : Int)) pl ((30 * p + i : Nat) : Int) 0 (K : Int)) pl := hf1.tr a5 (Nat.le_refl _)
    have hG2 := hG1.frP a5
    -- j times more
    have loop : ∀ (j k n : Nat) (M : jm_M), k + j = K → j * (stp d + 1) + 1 < n → GM M p cn sg S w h ms bd → M 1 12 = ((pl + 1 : Nat) : Int) → M 11 pl = ((30 * p + i : Nat) : Int) → M 13 pl = (j : Int) → M 1 26 = ((itr (ex S w h ms (dgO bd) sg d (i + 1)) k (tkd q)).2.2.2.2 : Int) → (itr (ex S w h ms (dgO bd) sg d (i + 1)) k (tkd q)).1 < KN S → FrP m M pl →
        ∃ M' n', rl N n x2 (itr (ex S w h ms (dgO bd) sg d (i + 1)) k (tkd q)) (-6) M = rl N n' x2 (itr (ex S w h ms (dgO bd) sg d (i + 1)) K (tkd q)) (-6) M' ∧ n ≤ n' + (j * (stp d + 1) + 1) ∧ GM M' p cn sg S w h ms bd ∧ M' 1 12 = (pl : Int) ∧ M' 1 26 = ((itr (ex S w h ms (dgO bd) sg d (i + 1)) K (tkd q)).2.2.2.2 : Int) ∧ (itr (ex S w h ms (dgO bd) sg d (i + 1)) K (tkd q)).1 < KN S ∧ FrP m M' pl := by
      intro j
      induction j with
      | zero =>
        intro k n M hkj hn hGM m12 m11 m13 m26 mk hfM
        obtain ⟨n, rfl⟩ : ∃ n', n = n' + 1 := ⟨n - 1, by omega⟩
        have et := rl_top (N := N) (n := n) (x2 := x2) (q := itr (ex S w h ms (dgO bd) sg d (i + 1)) k (tkd q)) hGM hp hX hic (by omega) m12 m11 m13 (by omega) (fun e => by omega)
        rw [if_pos rfl] at et
        have hfr : FrP M (jm_up (jm_up M 13 pl (-1)) 1 12 (pl : Int)) pl := ((FrP.rf M pl).fr (Or.inr (Or.inr rfl)) (Nat.le_refl _)).f1 (Or.inr (Or.inl rfl))
        have ekK : k = K := by omega
        subst ekK
        refine ⟨_, n, et, by omega, hGM.frP hfr, up_eq, ?_, mk, hfM.tr hfr (Nat.le_refl _)⟩
        rw [up_nk (by decide), up_ne (by decide)]; exact m26
      | succ j ihj =>
        intro k n M hkj hn hGM m12 m11 m13 m26 mk hfM
        obtain ⟨n, rfl⟩ : ∃ n', n = n' + 1 := ⟨n - 1, by omega⟩
        have et := rl_top (N := N) (n := n) (x2 := x2) (q := itr (ex S w h ms (dgO bd) sg d (i + 1)) k (tkd q)) hGM hp hX hic (by omega) m12 m11 m13 (by omega) (fun e => by omega)
        rw [if_neg (by omega), if_neg (by omega), Nat.add_sub_cancel] at et
        have hfr : FrP M (jm_up (jm_up M 13 pl (j : Int)) 1 12 ((pl + 1 : Nat) : Int)) pl := ((FrP.rf M pl).fr (Or.inr (Or.inr rfl)) (Nat.le_refl _)).f1 (Or.inr (Or.inl rfl))
        have hsm : (j + 1) * (stp d + 1) = j * (stp d + 1) + (stp d + 1) := Nat.succ_mul _ _
        obtain ⟨M1, n1, r1, r2, r3, r4, r5, r6, r7⟩ := ih (pl + 1) n x2 (itr (ex S w h ms (dgO bd) sg d (i + 1)) k (tkd q)) (jm_up (jm_up M 13 pl (j : Int)) 1 12 ((pl + 1 : Nat) : Int)) (by omega) (by omega) (BD.it1 (fun q => ex_leq d (i + 1) q) (by omega) hB) (hGM.frP hfr) up_eq (by rw [up_nk (by decide), up_ne (by decide)]; exact m26) mk (by omega)
        have hfr1 : FrP M M1 pl := hfr.tr r7 (by omega)
        have s13 : M1 13 pl = (j : Int) := by rw [(r7.2.2 pl (by omega)).2.2, up_ne (by decide), up_eq]
        have s11 : M1 11 pl = ((30 * p + i : Nat) : Int) := by rw [(r7.2.2 pl (by omega)).1, up_ne (by decide), up_ne (by decide)]; exact m11
        obtain ⟨M2, n2, t1, t2, t3⟩ := ihj (k + 1) n1 M1 (by omega) (by omega) r3 r4 s11 s13 r5 r6 (hfM.tr hfr1 (Nat.le_refl _))
        exact ⟨M2, n2, (et.trans r1).trans t1, by omega, t3⟩
    have h5 : K * (stp d + 1) ≤ 4 * (stp d + 1) := Nat.mul_le_mul_right _ hK
    obtain ⟨M2, n2, t1, t2, t3⟩ := loop K 0 n (piM (jm_up m 1 26 ((q.2.2.2.2 + 1 : Nat) : Int)) pl ((30 * p + i : Nat) : Int) 0 (K : Int)) (by omega) (by omega) hG2 a4 a1 a3 e26 hk hf2
    exact ⟨M2, n2, t1, by show n + 1 ≤ n2 + (6 + 5 * stp d); omega, t3⟩
  · intro d i hd hs hz hw hw2 ih ih2 pl n x2 q m hpl hi hB hG h12 h26 hk hn
    have hic : i < cn := by omega
    have hzp := zs_pos sg 4 (i + 1)
    have hzp2 := zs_pos sg 4 (nx sg i)
    have hnx : nx sg i = i + 1 + zs sg 4 (i + 1) := rfl
    have hn : 6 + 5 * stp d < n := hn
    obtain ⟨n, rfl⟩ : ∃ n', n = n' + 1 := ⟨n - 1, by omega⟩
    obtain ⟨g1, g2, g3, g4, g5, g6⟩ := id hG
    have hta : q.2.2.2.2 ≤ 100000 := Nat.le_trans (Nat.le_add_right _ _) hB.2.2.2
    rcases hs with hs | hs
    · rw [ex_seq hs]
      obtain ⟨a1, a2, a3, a4, a5⟩ := piM_at (m := m) (pl := pl) (at' := ((30 * p + i : Nat) : Int)) (st := 0) (lf := ((1 : Nat) : Int))
      have e0 : rl N (n + 1) x2 q ((30 * p + i : Nat) : Int) m = rl N n x2 q ((30 * p + (i + 1) : Nat) : Int) (piM m pl ((30 * p + i : Nat) : Int) 0 ((1 : Nat) : Int)) := by
        rw [rl_begin (by omega)]
        unfold f_X12_run_b60
        rw [if_neg (by omega), jrf_ok sM1, Option.bind_some, g1.t4, jra_ok sM5 (by omega) (by omega), Option.bind_some, Int.toNat_natCast, (g4 i hic).1, sM_in, Option.bind_some, ifb, if_neg (by omega), if_pos hs, jck_ok sM1, Option.bind_some, (show f_X12_pile shM 1 ((30 * p + i : Nat) : Int) 0 1 m = some (piM m pl ((30 * p + i : Nat) : Int) 0 ((1 : Nat) : Int)) from sM_pile g1 h12 (by omega)), Option.bind_some]
        unfold f_X12_run_b348
        rw [jw_succ (by omega)]
        rfl
      rw [e0]
      obtain ⟨M1, n1, r1, r2, r3, r4, r5, r6, r7⟩ := ih (pl + 1) n x2 q (piM m pl ((30 * p + i : Nat) : Int) 0 ((1 : Nat) : Int)) (by omega) (by omega) hB.same (hG.frP a5) a4 (by unfold piM; rw [up_nk (by decide), up_ne (by decide), up_ne (by decide), up_ne (by decide)]; exact h26) hk (by omega)
      obtain ⟨n1, rfl⟩ : ∃ n', n1 = n' + 1 := ⟨n1 - 1, by omega⟩
      have et := rl_top (N := N) (n := n1) (x2 := x2) (q := ex S w h ms (dgO bd) sg d (i + 1) q) r3 hp hX hic (by omega) r4 ((r7.2.2 pl (by omega)).1.trans a1) ((r7.2.2 pl (by omega)).2.2.trans a3) (by decide) (fun _ => by omega)
      rw [if_neg (by decide), if_pos hs] at et
      have hfr : FrP M1 (jm_up (jm_up M1 13 pl ((1 - 1 : Nat) : Int)) 1 12 ((pl + 1 : Nat) : Int)) pl := ((FrP.rf M1 pl).fr (Or.inr (Or.inr rfl)) (Nat.le_refl _)).f1 (Or.inr (Or.inl rfl))
      obtain ⟨M2, n2, t1, t2, t3, t4, t5, t6, t7⟩ := ih2 (pl + 1) n1 x2 (ex S w h ms (dgO bd) sg d (i + 1) q) (jm_up (jm_up M1 13 pl ((1 - 1 : Nat) : Int)) 1 12 ((pl + 1 : Nat) : Int)) (by omega) (by omega) (hB.ex1 (ex_leq d (i + 1) q)) (r3.frP hfr) up_eq (by rw [up_nk (by decide), up_ne (by decide)]; exact r5) r6 (by omega)
      obtain ⟨n2, rfl⟩ : ∃ n', n2 = n' + 1 := ⟨n2 - 1, by omega⟩
      have et2 := rl_top (N := N) (n := n2) (x2 := x2) (lf := 0) (q := ex S w h ms (dgO bd) sg d (nx sg i) (ex S w h ms (dgO bd) sg d (i + 1) q)) t3 hp hX hic (by omega) t4 (by rw [(t7.2.2 pl (by omega)).1, up_ne (by decide), up_ne (by decide)]; exact (r7.2.2 pl (by omega)).1.trans a1) (by rw [(t7.2.2 pl (by omega)).2.2, up_ne (by decide), up_eq]) (by decide) (fun _ => by omega)
      rw [if_pos rfl] at et2
      have hfr2 : FrP M2 (jm_up (jm_up M2 13 pl (-1)) 1 12 (pl : Int)) pl := ((FrP.rf M2 pl).fr (Or.inr (Or.inr rfl)) (Nat.le_refl _)).f1 (Or.inr (Or.inl rfl))
      refine ⟨_, n2, ((r1.trans et).trans t1).trans et2, by show n + 1 ≤ n2 + (6 + 5 * stp d); omega, t3.frP hfr2, up_eq, ?_, t6, ?_⟩
      · rw [up_nk (by decide), up_ne (by decide)]; exact t5
      · exact (((a5.tr r7 (by omega)).tr hfr (by omega)).tr t7 (by omega)).tr hfr2 (by omega)
    · rw [ex_cho hs]
      have hf1 : FrP m (jm_up m 1 26 ((q.2.2.2.2 + 1 : Nat) : Int)) pl := (FrP.rf m pl).f1 (Or.inr (Or.inr rfl))
      have hG1 := hG.frP hf1
      have e0 : rl N (n + 1) x2 q ((30 * p + i : Nat) : Int) m = (if dgO bd q.2.2.2.2 % 2 = 0 then rl N n x2 (tkd q) ((30 * p + (i + 1) : Nat) : Int) (jm_up m 1 26 ((q.2.2.2.2 + 1 : Nat) : Int)) else rl N n x2 (tkd q) ((30 * p + nx sg i : Nat) : Int) (jm_up m 1 26 ((q.2.2.2.2 + 1 : Nat) : Int))) := by
        rw [rl_begin (by omega)]
        unfold f_X12_run_b60
        rw [if_neg (by omega), jrf_ok sM1, Option.bind_some, g1.t4, jra_ok sM5 (by omega) (by omega), Option.bind_some, Int.toNat_natCast, (g4 i hic).1, sM_in, Option.bind_some, ifb, if_neg (by omega), if_neg (by omega), if_pos hs, jck_ok sM1, Option.bind_some, sM_nextDigit hG hV h26 hta, Option.bind_some]
        dsimp only
        rw [(show jrem (dgO bd q.2.2.2.2 : Int) 2 = ((dgO bd q.2.2.2.2 % 2 : Nat) : Int) from jrem_nat _ 2)]
        have hz1 := (hX.node (show i + 1 < cn by omega)).2
        by_cases c : dgO bd q.2.2.2.2 % 2 = 0
        · rw [if_pos (by omega), if_pos c]
          unfold f_X12_run_b316 f_X12_run_b348
          rw [jw_succ (by omega)]
          rfl
        · rw [if_neg (by omega), if_neg c, jrf_ok sM1, Option.bind_some, hG1.1.t5, jw_eq (x := ((30 * p + i : Nat) : Int) + 1) (by omega) (by omega), show ((30 * p + i : Nat) : Int) + 1 = ((30 * p + (i + 1) : Nat) : Int) by omega, jra_ok sM6 (by omega) (by omega), Option.bind_some, Int.toNat_natCast, (hG1.2.2.2.1 (i + 1) (by omega)).2]
          unfold f_X12_run_b316 f_X12_run_b348
          rw [jw_eq (by omega) (by omega), show ((30 * p + (i + 1) : Nat) : Int) + (zs sg 4 (i + 1) : Int) = ((30 * p + nx sg i : Nat) : Int) by omega]
          rfl
      rw [e0]
      have e26 : jm_up m 1 26 ((q.2.2.2.2 + 1 : Nat) : Int) 1 26 = ((tkd q).2.2.2.2 : Int) := up_eq
      have e12 : jm_up m 1 26 ((q.2.2.2.2 + 1 : Nat) : Int) 1 12 = (pl : Int) := by rw [up_nk (by decide)]; exact h12
      by_cases c : dgO bd q.2.2.2.2 % 2 = 0
      · rw [if_pos c, if_pos c]
        obtain ⟨M1, n1, r1, r2, r3, r4, r5, r6, r7⟩ := ih pl n x2 (tkd q) (jm_up m 1 26 ((q.2.2.2.2 + 1 : Nat) : Int)) (by omega) (by omega) hB.tk1 hG1 e12 e26 hk (by omega)
        exact ⟨M1, n1, r1, by show n + 1 ≤ n1 + (6 + 5 * stp d); omega, r3, r4, r5, r6, hf1.tr r7 (Nat.le_refl _)⟩
      · rw [if_neg c, if_neg c]
        obtain ⟨M1, n1, r1, r2, r3, r4, r5, r6, r7⟩ := ih2 pl n x2 (tkd q) (jm_up m 1 26 ((q.2.2.2.2 + 1 : Nat) : Int)) (by omega) (by omega) hB.tk1 hG1 e12 e26 hk (by omega)
        exact ⟨M1, n1, r1, by show n + 1 ≤ n1 + (6 + 5 * stp d); omega, r3, r4, r5, r6, hf1.tr r7 (Nat.le_refl _)⟩
