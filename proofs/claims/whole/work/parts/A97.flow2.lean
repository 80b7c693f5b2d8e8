/-- frames of a flow at a depth -/
def FrX (m M : jm_M) (to x : Nat) : Prop := ∀ a, (a < to ∨ to + 3 < a) → (a < 92 + 4 * x ∨ 111 < a) → ∀ j, M a j = m a j
def FlP (N t cn : Nat) (sg : Nat → Int) (S w h ms cr : Nat) (W : Bool) (d i : Nat) : Prop := ∀ (D x fr to n B : Nat) (A : SX) (m : jm_M), d + 1 ≤ D → x + d ≤ 4 → fr ∈ rrL → to ∈ rrL → fr ≠ to → fr < 92 + 4 * x → to < 92 + 4 * x → i + zs sg 4 i ≤ cn → GF m t cn sg S w h ms cr W → RB m fr n S w h cr W A → (∀ k v, A k v → v ≤ B) → B + (ms + 1) * 4 ^ d ≤ 100000 →
    ∃ M n', f_X8_flow N shC D 82 (i : Int) (x : Int) fr to m = some M ∧ GF M t cn sg S w h ms cr W ∧ RB M to n' S w h cr W (cmp A (Rx S w h ms sg d i)) ∧ FrX m M to x
theorem cmp_le {A : SX} {R : RX} {B C : Nat} (hA : ∀ k v, A k v → v ≤ B) (hR : ∀ k k' c, R k k' c → c ≤ C) : ∀ k v, cmp A R k v → v ≤ B + C := fun k v ⟨k1, v1, c, a, b, e⟩ => by
  have := hA k1 v1 a
  have := hR k1 k c b
  omega
theorem flow_all {N t cn : Nat} {sg : Nat → Int} {S w h ms cr : Nat} {W : Bool} (hN : 1000 ≤ N) (ht : t ∈ tL) (hT : ST S w h) (hms : ms ≤ 20) (hX : TX cn sg) (hcr : cr = lr sg 0 cn) : ∀ d, d ≤ 4 → ∀ i, wf sg d i = true → FlP N t cn sg S w h ms cr W d i := by
  have hcn := hX.1
  -- the head of a flow: clear, and the sign
  have head : ∀ (D x fr to i : Nat) (m : jm_M), x ≤ 4 → to ∈ rrL → i < cn → GF m t cn sg S w h ms cr W → ∃ M v, RB M to 0 S w h cr W (fun _ _ => False) ∧ FrR m M to ∧ GF M t cn sg S w h ms cr W ∧ (i + 1 < cn → v = nx sg i) ∧ f_X8_flow N shC (D + 1) 82 (i : Int) (x : Int) fr to m = (if sg i = 45 then Option.bind (f_X4_addAll N shC to fr (if W then 1 else 0) M) (fun q => some q) else if sg i = 59 then Option.bind (f_X8_flow N shC D 82 ((i + 1 : Nat) : Int) ((x + 1 : Nat) : Int) fr (92 + 4 * x) M) (fun q => Option.bind (f_X8_flow N shC D 82 (v : Int) ((x + 1 : Nat) : Int) (92 + 4 * x) to q) (fun q => some q)) else if sg i = 63 then Option.bind (f_X8_flow N shC D 82 ((i + 1 : Nat) : Int) ((x + 1 : Nat) : Int) fr to M) (fun q37 => Option.bind (f_X8_flow N shC D 82 (v : Int) ((x + 1 : Nat) : Int) fr (92 + 4 * x) q37) (fun q40 => Option.bind (jrf shC q40 82 8 10 2) (fun v42 => Option.bind (f_X4_addAll N shC to (92 + 4 * x) v42 q40) (fun q => some q)))) else if 98 ≤ sg i ∧ sg i ≤ 100 then Option.bind (f_X8_repeat N shC (f_X8_flow N shC D) 82 (i : Int) (x : Int) fr to M) (fun q => some q) else Option.bind (f_X10_lineAt shC t (i : Int) M) (fun q51 => Option.bind (f_X8_fetch N shC 82 q51 fr to M) (fun q => some q))) := by
    intro D x fr to i m hx hto hi hG
    obtain ⟨g1, g2, g3, g4, g5, g6, g7⟩ := id hG
    obtain ⟨v, e2, ev⟩ := s_second g1 ht hX g2 hi
    obtain ⟨M, c1, c2, c3⟩ := s_clear (N := N) (S := S) (w := w) (h := h) (cr := cr) (W := W) hN hto g1 (g7 to hto)
    have hGM := hG.r ht hto c3 c2
    obtain ⟨k1, k2, k3, k4, k5, k6, k7⟩ := id hGM
    have ht1 := (tC g1 t ht).1
    have st0 := (rr_sh g1 to hto).1
    have hbt := s_between g1 hx
    refine ⟨M, v, c2, c3, hGM, ev, ?_⟩
    have hsg := hX.sign hi
    rw [isLf_iff] at hsg
    show f_X8_flow_e N shC (f_X8_flow N shC D) 82 (i : Int) (x : Int) fr to m = _
    unfold f_X8_flow_e
    rw [if_neg (by omega), jrf_ok sC82, Option.bind_some, g4, Int.toNat_natCast, jck_ok ht1, Option.bind_some, s_first (by omega), Option.bind_some, Option.bind_some, Int.toNat_natCast, jck_ok ht1, Option.bind_some, e2, Option.bind_some, jck_ok sC82, Option.bind_some, hbt.1, Option.bind_some, jck_ok st0, Option.bind_some, c1, Option.bind_some, jrf_ok sC82, Option.bind_some, k4, Int.toNat_natCast, jck_ok ht1, Option.bind_some, s_sg k1 ht k2 hcn hi, Option.bind_some]
    by_cases c45 : sg i = 45
    · rw [if_pos c45.symm, if_pos c45, jrf_ok sC82, Option.bind_some, k6, Option.bind_some]
    · rw [if_neg (fun q => c45 q.symm), if_neg c45]
      by_cases c59 : sg i = 59
      · rw [if_pos c59.symm, if_pos c59, jw_succ (by omega)]
        simp only [Option.bind_some]
      · rw [if_neg (fun q => c59 q.symm), if_neg c59]
        by_cases c63 : sg i = 63
        · rw [if_pos c63.symm, if_pos c63, jw_succ (by omega)]
          simp only [Option.bind_some]
        · rw [if_neg (fun q => c63 q.symm), if_neg c63]
          by_cases cl : 98 ≤ sg i ∧ sg i ≤ 100
          · rw [if_pos cl]
            unfold f_X8_flow_b183
            rw [jck_ok sC82, Option.bind_some]
            by_cases q1 : (98 : Int) = sg i
            · rw [if_pos q1]
            · rw [if_neg q1]
              by_cases q2 : (99 : Int) = sg i
              · rw [if_pos q2]
              · rw [if_neg q2, if_pos (by omega)]
          · rw [if_neg (by omega), if_neg (by omega), if_neg (by omega), if_neg cl, Option.bind_some, Int.toNat_natCast]
            simp only [jck_ok ht1, Option.bind_some, jck_ok sC82]
  refine wf_ind sg (FlP N t cn sg S w h ms cr W) ?_ ?_ ?_
  · intro d i hd hl hz D x fr to n B A m hD hx hfr hto hne hfx htx hi hG hA hAB hB
    have hic : i < cn := by omega
    obtain ⟨D, rfl⟩ : ∃ D', D = D' + 1 := ⟨D - 1, by omega⟩
    obtain ⟨M, v, a1, a2, a3, a4, a5⟩ := head D x fr to i m (by omega) hto hic hG
    have far := rr_far hfr hto hne
    have hA' : RB M fr n S w h cr W A := hA.same (fun a h1 h2 j => a2.1 a (by omega) j)
    have fx : ∀ M', FrR M M' to → FrX m M' to x := fun M' hf a h1 _ j => (hf.1 a h1 j).trans (a2.1 a h1 j)
    rw [isLf_iff] at hl
    rw [a5, Rx_leaf (isLf_iff.mpr hl)]
    by_cases c45 : sg i = 45
    · rw [if_pos c45]
      obtain ⟨M', n', b1, b2, b3⟩ := s_addAll (N := N) (B := B) hN hto hfr (fun q => hne q.symm) a3.1 hT a1 hA' hAB (by omega)
      refine ⟨M', n', ?_, a3.r ht hto b3 b2, b2.ext fun k v => ⟨?_, ?_⟩, fx M' b3⟩
      · rw [b1, Option.bind_some]
      · rintro (q | q)
        · exact q.elim
        · refine ⟨k, v, 0, q, ?_, rfl⟩
          unfold LfX
          rw [if_neg (by omega)]
          exact ⟨rfl, rfl⟩
      · rintro ⟨k1, v1, c, q, q2, e⟩
        unfold LfX at q2
        rw [if_neg (by omega)] at q2
        rw [q2.1, e, q2.2]; exact Or.inr q
    · have hs : 48 ≤ sg i ∧ sg i ≤ 55 := by omega
      rw [if_neg c45, if_neg (by omega), if_neg (by omega), if_neg (by omega), s_line a3.1 ht a3.2.1 hcn hic hs, Option.bind_some]
      obtain ⟨M', n', b1, b2, b3⟩ := s_ffetch (N := N) (B := B) hN ht hto hfr (fun q => hne q.symm) a3 hT hms (ln_lt hs) (by rw [hcr]; exact lr_bit cn i hic hs) a1 hA' hAB (by omega)
      refine ⟨M', n', ?_, a3.r ht hto b3 b2, b2.ext fun k v => ⟨?_, ?_⟩, fx M' b3⟩
      · rw [b1, Option.bind_some]
      · rintro ⟨k1, v1, q, q1, q2⟩
        refine ⟨k1, v1, cs S h ms k1 (lnO (sg i)), q, ?_, q2⟩
        unfold LfX
        rw [if_pos hs]
        exact ⟨q1, rfl⟩
      · rintro ⟨k1, v1, c, q, q2, e⟩
        unfold LfX at q2
        rw [if_pos hs] at q2
        exact ⟨k1, v1, q, q2.1, by rw [e, q2.2]⟩
  · intro d i hd hs hz hw ih D x fr to n B A m hD hx hfr hto hne hfx htx hi hG hA hAB hB
    have hic : i < cn := by omega
    have hzp := zs_pos sg 4 (i + 1)
    rw [mul4] at hB
    have htm := tm_le hs
    obtain ⟨D, rfl⟩ : ∃ D', D = D' + 1 := ⟨D - 1, by omega⟩
    obtain ⟨M, v, a1, a2, a3, a4, a5⟩ := head D x fr to i m (by omega) hto hic hG
    have far := rr_far hfr hto hne
    have hA' : RB M fr n S w h cr W A := hA.same (fun a h1 h2 j => a2.1 a (by omega) j)
    have hbt := s_between a3.1 (show x ≤ 4 by omega)
    have hmid := hbt.2
    have hmt : to ≠ 92 + 4 * x := by omega
    have farm := rr_far hto hmid hmt
    rw [a5, Rx_loop hs, if_neg (by omega), if_neg (by omega), if_neg (by omega), if_pos hs]
    obtain ⟨M1, n1, b1, b2, b3⟩ := s_addAll (N := N) (B := B) hN hto hfr (fun q => hne q.symm) a3.1 hT a1 hA' hAB (by omega)
    have g1 := a3.r ht hto b3 b2
    have b2' : RB M1 to n1 S w h cr W (upTo A (Rx S w h ms sg d (i + 1)) 0) := b2.ext fun k v => ⟨fun q => ⟨0, Nat.le_refl _, cmp_it0.mpr (q.elim (fun e => e.elim) id)⟩, fun ⟨j, hj, q⟩ => by
      obtain rfl : j = 0 := by omega
      exact Or.inr (cmp_it0.mp q)⟩
    have hR := fun k k' c => Rx_le (S := S) (w := w) (h := h) (ms := ms) (sg := sg) d (i + 1) k k' c
    obtain ⟨M2, n2, e2, ⟨nn, i1⟩, i2, i3⟩ := loopN (fun g y m => f_X8_repeat_l30 N shC (f_X8_flow N shC D) g 82 (i : Int) (x : Int) to (92 + 4 * x) (tmO (sg i) : Int) y m) (tmO (sg i)) (fun j M' => (∃ nn, RB M' to nn S w h cr W (upTo A (Rx S w h ms sg d (i + 1)) j)) ∧ GF M' t cn sg S w h ms cr W ∧ FrX m M' to x) (by
      intro g j M' hj ⟨⟨nn, k1⟩, k2, k3⟩
      have hbj : ∀ k v, upTo A (Rx S w h ms sg d (i + 1)) j k v → v ≤ B + 3 * ((ms + 1) * 4 ^ d) := fun k v ⟨j', hj', k0, v0, c, q, q2, e⟩ => by
        have h1 := hAB k0 v0 q
        have h2 := ItX_le hR j' k0 k c q2
        have h3 : j' * ((ms + 1) * 4 ^ d) ≤ 3 * ((ms + 1) * 4 ^ d) := Nat.mul_le_mul_right _ (by omega)
        omega
      obtain ⟨M3, n3, c1, c2, c3, c4⟩ := ih D (x + 1) to (92 + 4 * x) nn (B + 3 * ((ms + 1) * 4 ^ d)) (upTo A (Rx S w h ms sg d (i + 1)) j) M' (by omega) (by omega) hto hmid hmt (by omega) (by omega) (by omega) k2 k1 hbj (by omega)
      have k1' : RB M3 to nn S w h cr W (upTo A (Rx S w h ms sg d (i + 1)) j) := k1.same (fun a h1 h2 jj => c4 a (by omega) (by omega) jj)
      obtain ⟨M4, n4, d1, d2, d3⟩ := s_addAll (N := N) (B := B + 3 * ((ms + 1) * 4 ^ d) + (ms + 1) * 4 ^ d) hN hto hmid hmt c2.1 hT k1' c3 (cmp_le hbj hR) (by omega)
      refine ⟨M4, ?_, ⟨n4, d2.ext fun k v => upTo_c.symm⟩, c2.r ht hto d3 d2, fun a h1 h2 jj => ?_⟩
      · show f_X8_repeat_b30 N shC (f_X8_flow N shC D) (f_X8_repeat_l30 N shC (f_X8_flow N shC D) g) 82 (i : Int) (x : Int) to (92 + 4 * x) (tmO (sg i) : Int) j M' = _
        unfold f_X8_repeat_b30
        rw [if_pos (by omega), jrf_ok sC82, Option.bind_some, k2.2.2.2.1, Int.toNat_natCast, jck_ok (tC k2.1 t ht).1, Option.bind_some, s_first (by omega), Option.bind_some, jck_ok sC82, Option.bind_some, jw_succ (by omega), c1, Option.bind_some, jrf_ok sC82, Option.bind_some, c2.2.2.2.2.2.1, jck_ok (rr_sh c2.1 to hto).1, Option.bind_some, d1, Option.bind_some, jw_succ (by omega)]
      · rw [d3.1 a h1, c4 a (by omega) (by omega)]; exact k3 a h1 h2 jj) 0 N M1 (Nat.zero_le _) (by omega) ⟨⟨n1, b2'⟩, g1, fun a h1 h2 j => (b3.1 a h1 j).trans (a2.1 a h1 j)⟩
    refine ⟨M2, nn, ?_, i2, i1.ext fun k v => cmp_loop.symm, i3⟩
    unfold f_X8_repeat
    rw [jck_ok sC82, Option.bind_some, hbt.1, Option.bind_some, jrf_ok sC82, Option.bind_some, a3.2.2.2.1, Int.toNat_natCast, jck_ok (tC a3.1 t ht).1, Option.bind_some, s_times a3.1 ht a3.2.1 hcn hic hs, Option.bind_some, jrf_ok sC82, Option.bind_some, a3.2.2.2.2.2.1, jck_ok (rr_sh a3.1 to hto).1, Option.bind_some, b1, Option.bind_some]
    have e2 : f_X8_repeat_l30 N shC (f_X8_flow N shC D) N 82 (i : Int) (x : Int) to (92 + 4 * x) (tmO (sg i) : Int) 0 M1 = f_X8_repeat_l30 N shC (f_X8_flow N shC D) (n2 + 1) 82 (i : Int) (x : Int) to (92 + 4 * x) (tmO (sg i) : Int) (tmO (sg i) : Int) M2 := e2
    rw [e2]
    have e3 : f_X8_repeat_l30 N shC (f_X8_flow N shC D) (n2 + 1) 82 (i : Int) (x : Int) to (92 + 4 * x) (tmO (sg i) : Int) (tmO (sg i) : Int) M2 = some M2 := by
      show f_X8_repeat_b30 N shC (f_X8_flow N shC D) (f_X8_repeat_l30 N shC (f_X8_flow N shC D) n2) 82 (i : Int) (x : Int) to (92 + 4 * x) (tmO (sg i) : Int) (tmO (sg i) : Int) M2 = _
      unfold f_X8_repeat_b30
      rw [if_neg (by omega)]
    rw [e3, Option.bind_some]
  · intro d i hd hs hz hw hw2 ih ih2 D x fr to n B A m hD hx hfr hto hne hfx htx hi hG hA hAB hB
    have hic : i < cn := by omega
    have hzp := zs_pos sg 4 (i + 1)
    have hzp2 := zs_pos sg 4 (nx sg i)
    have hnx : nx sg i = i + 1 + zs sg 4 (i + 1) := rfl
    rw [mul4] at hB
    obtain ⟨D, rfl⟩ : ∃ D', D = D' + 1 := ⟨D - 1, by omega⟩
    obtain ⟨M, v, a1, a2, a3, a4, a5⟩ := head D x fr to i m (by omega) hto hic hG
    have far := rr_far hfr hto hne
    have hA' : RB M fr n S w h cr W A := hA.same (fun a h1 h2 j => a2.1 a (by omega) j)
    have hmid := (s_between a3.1 (show x ≤ 4 by omega)).2
    have hmt : to ≠ 92 + 4 * x := by omega
    have hmf : fr ≠ 92 + 4 * x := by omega
    have farm := rr_far hto hmid hmt
    have farf := rr_far hfr hmid hmf
    have hR := fun k k' c => Rx_le (S := S) (w := w) (h := h) (ms := ms) (sg := sg) d (i + 1) k k' c
    have hR2 := fun k k' c => Rx_le (S := S) (w := w) (h := h) (ms := ms) (sg := sg) d (nx sg i) k k' c
    have hv := a4 (by omega)
    subst hv
    rcases hs with hs | hs
    · rw [a5, Rx_seq hs, if_neg (by omega), if_pos hs]
      obtain ⟨M1, n1, b1, b2, b3, b4⟩ := ih D (x + 1) fr (92 + 4 * x) n B A M (by omega) (by omega) hfr hmid hmf (by omega) (by omega) (by omega) a3 hA' hAB (by omega)
      obtain ⟨M2, n2, c1, c2, c3, c4⟩ := ih2 D (x + 1) (92 + 4 * x) to n1 (B + (ms + 1) * 4 ^ d) (cmp A (Rx S w h ms sg d (i + 1))) M1 (by omega) (by omega) hmid hto (fun q => hmt q.symm) (by omega) (by omega) (by omega) b2 b3 (cmp_le hAB hR) (by omega)
      refine ⟨M2, n2, ?_, c2, c3.ext fun k v => ⟨?_, ?_⟩, fun a h1 h2 j => ?_⟩
      · rw [b1, Option.bind_some, c1, Option.bind_some]
      · rintro ⟨k2, v2, c2, ⟨k1, v1, c1, a, b, e1⟩, b2, e2⟩
        exact ⟨k1, v1, c1 + c2, a, ⟨k2, c1, c2, b, b2, rfl⟩, by omega⟩
      · rintro ⟨k1, v1, c, a, ⟨k2, c1, c2, b, b2, e1⟩, e2⟩
        exact ⟨k2, v1 + c1, c2, ⟨k1, v1, c1, a, b, rfl⟩, b2, by omega⟩
      · rw [c4 a (by omega) (by omega), b4 a (by omega) (by omega)]; exact a2.1 a h1 j
    · rw [a5, Rx_cho hs, if_neg (by omega), if_neg (by omega), if_pos hs]
      obtain ⟨M1, n1, b1, b2, b3, b4⟩ := ih D (x + 1) fr to n B A M (by omega) (by omega) hfr hto hne (by omega) (by omega) (by omega) a3 hA' hAB (by omega)
      have hA1 : RB M1 fr n S w h cr W A := hA'.same (fun a h1 h2 j => b4 a (by omega) (by omega) j)
      obtain ⟨M2, n2, c1, c2, c3, c4⟩ := ih2 D (x + 1) fr (92 + 4 * x) n B A M1 (by omega) (by omega) hfr hmid hmf (by omega) (by omega) (by omega) b2 hA1 hAB (by omega)
      have b3' : RB M2 to n1 S w h cr W (cmp A (Rx S w h ms sg d (i + 1))) := b3.same (fun a h1 h2 j => c4 a (by omega) (by omega) j)
      obtain ⟨M3, n3, d1, d2, d3⟩ := s_addAll (N := N) (B := B + (ms + 1) * 4 ^ d) hN hto hmid hmt c2.1 hT b3' c3 (cmp_le hAB hR2) (by omega)
      refine ⟨M3, n3, ?_, c2.r ht hto d3 d2, d2.ext fun k v => ⟨?_, ?_⟩, fun a h1 h2 j => ?_⟩
      · rw [b1, Option.bind_some, c1, Option.bind_some, jrf_ok sC82, Option.bind_some, c2.2.2.2.2.2.1, d1, Option.bind_some]
      · rintro (⟨k1, v1, c, a, b, e⟩ | ⟨k1, v1, c, a, b, e⟩)
        · exact ⟨k1, v1, c, a, Or.inl b, e⟩
        · exact ⟨k1, v1, c, a, Or.inr b, e⟩
      · rintro ⟨k1, v1, c, a, b | b, e⟩
        · exact Or.inl ⟨k1, v1, c, a, b, e⟩
        · exact Or.inr ⟨k1, v1, c, a, b, e⟩
      · rw [d3.1 a h1, c4 a (by omega) (by omega), b4 a (by omega) (by omega)]; exact a2.1 a h1 j
