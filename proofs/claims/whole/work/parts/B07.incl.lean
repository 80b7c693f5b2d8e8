/-! fast: a held line that no node names never helps (inclusion) -/
theorem fK_enc {S w h l : Nat} {e : Nat → Nat} (hS : isS S) (hl : l < 8) (hh : ¬ hb h l = true) (he : ∀ s, s < 4 → e s < LK S s) : fK S w h (enc (LK S) e) l = enc (LK S) (udd e (l % S) (dgD (nS S) (rmS S w h (l % S)) (l / S) (e (l % S)))) ∧ tK S h (enc (LK S) e) l = htD (nS S) (l / S) (e (l % S)) := by
  obtain ⟨l1, l2, l3⟩ := line_S hS hl
  have hs4 : l % S < 4 := by have := hS.le; omega
  have dk : enc (LK S) e / sd (LK S) (l % S) % LK S (l % S) = e (l % S) := enc_dig he hs4
  have ek := enc_upd (LK S) e (dgD (nS S) (rmS S w h (l % S)) (l / S) (e (l % S))) hs4
  have lk := enc_le (LK S) e hs4
  refine ⟨?_, ?_⟩
  · unfold fK
    rw [if_neg hh, dk]
    omega
  · unfold tK
    rw [dk]
    simp [hh]
def Sb (S w h k' k : Nat) : Prop := ∃ e' e : Nat → Nat, (∀ s, s < 4 → e' s < LK S s ∧ e s < LK S s) ∧ k' = enc (LK S) e' ∧ k = enc (LK S) e ∧ ∀ s, s < S → nwD (nS S) (e s) = (if rmS S w h s = 0 then 0 else nwD (nS S) (e' s)) ∧ odD (nS S) (e s) = (if rmS S w h s = 2 then odD (nS S) (e' s) else 0)
theorem Sb.fetch {S w h' h k' k l : Nat} (hS : isS S) (hw : w ≤ 2) (hl : l < 8) (hle : ∀ s, s < S → rmS S w h s ≤ rmS S w h' s) (hq : hb h' l = hb h l) (hR : Sb S w h k' k) : Sb S w h (fK S w h' k' l) (fK S w h k l) ∧ (tK S h k l = true → tK S h' k' l = true) := by
  by_cases hh : hb h l = true
  · have hh' := hq.trans hh
    unfold fK tK
    rw [if_pos hh, if_pos hh', hh, hh']
    exact ⟨hR, fun _ => rfl⟩
  · have hh' : ¬ hb h' l = true := by rw [hq]; exact hh
    obtain ⟨l1, l2, l3⟩ := line_S hS hl
    have hs4 : l % S < 4 := by have := hS.le; omega
    obtain ⟨e', e, v, rfl, rfl, r⟩ := hR
    obtain ⟨a1, a2⟩ := fK_enc (w := w) hS hl hh (fun s hs => (v s hs).2)
    obtain ⟨b1, b2⟩ := fK_enc (w := w) hS hl hh' (fun s hs => (v s hs).1)
    have hv := v (l % S) hs4
    have hLK : LK S (l % S) = bsD (nS S) := if_pos l2
    rw [hLK] at hv
    have ds := dg_spec (r := rmS S w h (l % S)) hS.n (rm_le hw) l1 hv.2
    have ds' := dg_spec (r := rmS S w h' (l % S)) hS.n (rm_le hw) l1 hv.1
    have hr := r (l % S) l2
    have hl' := hle (l % S) l2
    have hr2 := rm_le (S := S) (h := h) (s := l % S) hw
    have hr2' := rm_le (S := S) (h := h') (s := l % S) hw
    refine ⟨⟨_, _, fun s hs => ?_, b1, a1, fun s hs => ?_⟩, ?_⟩
    · unfold udd
      by_cases q : s = l % S
      · rw [if_pos q, if_pos q, q, hLK]
        exact ⟨ds'.2.2, ds.2.2⟩
      · rw [if_neg q, if_neg q]
        exact v s hs
    · unfold udd
      by_cases q : s = l % S
      · rw [if_pos q, if_pos q, q, ds.1, ds.2.1, ds'.1, ds'.2.1]
        generalize rmS S w h (l % S) = R at *
        generalize rmS S w h' (l % S) = R' at *
        rw [hr.1, hr.2]
        unfold stX stY
        rcases (show R = 0 ∨ R = 1 ∨ R = 2 by omega) with rfl | rfl | rfl
        · exact ⟨rfl, rfl⟩
        · rw [if_neg (by decide), if_neg (by decide), if_neg (by omega)]
          exact ⟨rfl, rfl⟩
        · obtain rfl : R' = 2 := by omega
          exact ⟨rfl, rfl⟩
      · rw [if_neg q, if_neg q]
        exact r s hs
    · rw [a2, b2]
      unfold htD
      rw [hr.1, hr.2, Bool.or_eq_true, Bool.or_eq_true, decide_eq_true_iff, decide_eq_true_iff, decide_eq_true_iff, decide_eq_true_iff]
      rintro (q | q)
      · split at q
        · exact absurd q.symm (Nat.succ_ne_zero _)
        · exact Or.inl q
      · split at q
        · exact Or.inr q
        · exact absurd q.symm (Nat.succ_ne_zero _)
theorem Rx_Sb {S w h' h ms cn : Nat} {sg : Nat → Int} (hS : isS S) (hw : w ≤ 2) (hle : ∀ s, s < S → rmS S w h s ≤ rmS S w h' s) (hq : ∀ l, l < 8 → hb (lr sg 0 cn) l = true → hb h' l = hb h l) (h1 : 1 ≤ ms) : ∀ d, d ≤ 4 → ∀ i, wf sg d i = true → i + zs sg 4 i ≤ cn → ∀ k' k j' c', Sb S w h k' k → Rx S w h' ms sg d i k' j' c' → ∃ j c, Rx S w h ms sg d i k j c ∧ Sb S w h j' j ∧ c' ≤ c := by
  refine wf_ind sg (fun d i => i + zs sg 4 i ≤ cn → ∀ k' k j' c', Sb S w h k' k → Rx S w h' ms sg d i k' j' c' → ∃ j c, Rx S w h ms sg d i k j c ∧ Sb S w h j' j ∧ c' ≤ c) ?_ ?_ ?_
  · intro d i _ hf hz hi k' k j' c' hR hr
    rw [Rx_leaf hf] at hr ⊢
    unfold LfX at hr ⊢
    by_cases q : 48 ≤ sg i ∧ sg i ≤ 55
    · simp only [if_pos q] at hr ⊢
      have hb := hR.fetch hS hw (ln_lt q) hle (hq _ (ln_lt q) (lr_bit cn i (by omega) q))
      refine ⟨_, _, ⟨rfl, rfl⟩, by rw [hr.1]; exact hb.1, ?_⟩
      rw [hr.2]
      unfold cs
      by_cases c : tK S h k (lnO (sg i)) = true
      · rw [if_pos c, if_pos (hb.2 c)]; exact Nat.le_refl _
      · rw [if_neg c]; split <;> omega
    · simp only [if_neg q] at hr ⊢
      exact ⟨k, 0, ⟨rfl, rfl⟩, by rw [hr.1]; exact hR, by rw [hr.2]; exact Nat.le_refl _⟩
  · intro d i _ hs hz _ ih hi k' k j' c' hR hr
    rw [Rx_loop hs] at hr ⊢
    obtain ⟨n, hn, hr⟩ := hr
    have hI : ∀ n k' k j' c', Sb S w h k' k → ItX (Rx S w h' ms sg d (i + 1)) n k' j' c' → ∃ j c, ItX (Rx S w h ms sg d (i + 1)) n k j c ∧ Sb S w h j' j ∧ c' ≤ c := by
      intro n
      induction n with
      | zero => intro k' k j' c' hR ⟨a, b⟩; exact ⟨k, 0, ⟨rfl, rfl⟩, by rw [a]; exact hR, by omega⟩
      | succ n ihn =>
        intro k' k j' c' hR ⟨k1, v1, v2, a, b, e⟩
        obtain ⟨j1, u1, a1, a2, a3⟩ := ihn _ _ _ _ hR a
        obtain ⟨j2, u2, b1, b2, b3⟩ := ih (by omega) _ _ _ _ a2 b
        exact ⟨j2, u1 + u2, ⟨j1, u1, u2, a1, b1, rfl⟩, b2, by omega⟩
    obtain ⟨j, c, a, b, e⟩ := hI n k' k j' c' hR hr
    exact ⟨j, c, ⟨n, hn, a⟩, b, e⟩
  · intro d i _ hs hz _ _ ih1 ih2 hi k' k j' c' hR hr
    have hx : nx sg i = i + 1 + zs sg 4 (i + 1) := rfl
    rcases hs with hs | hs
    · rw [Rx_seq hs] at hr ⊢
      obtain ⟨k1, v1, v2, a, b, e⟩ := hr
      obtain ⟨j1, u1, a1, a2, a3⟩ := ih1 (by omega) _ _ _ _ hR a
      obtain ⟨j2, u2, b1, b2, b3⟩ := ih2 (by omega) _ _ _ _ a2 b
      exact ⟨j2, u1 + u2, ⟨j1, u1, u2, a1, b1, rfl⟩, b2, by omega⟩
    · rw [Rx_cho hs] at hr ⊢
      rcases hr with hr | hr
      · obtain ⟨j, c, a, b, e⟩ := ih1 (by omega) _ _ _ _ hR hr
        exact ⟨j, c, Or.inl a, b, e⟩
      · obtain ⟨j, c, a, b, e⟩ := ih2 (by omega) _ _ _ _ hR hr
        exact ⟨j, c, Or.inr a, b, e⟩
theorem cnt_imp {f g : Nat → Bool} (h : ∀ i, f i = true → g i = true) : ∀ n, cnt f n ≤ cnt g n := by
  intro n
  induction n with
  | zero => exact Nat.le_refl _
  | succ n ih =>
    show cnt f n + (if f n then 1 else 0) ≤ cnt g n + (if g n then 1 else 0)
    by_cases c : f n = true
    · rw [if_pos c, if_pos (h n c)]; omega
    · rw [if_neg c]; omega
theorem wst_sub {S w h ms cn : Nat} {sg : Nat → Int} (hT : ST S w h) (hX : TX cn sg) (h1 : 1 ≤ ms) : ST S w (h &&& lr sg 0 cn) ∧ wst S w (h &&& lr sg 0 cn) ms sg ≤ wst S w h ms sg := by
  have hbit : ∀ l, hb (h &&& lr sg 0 cn) l = (hb h l && hb (lr sg 0 cn) l) := fun l => Nat.testBit_and _ _ _
  have hcl : ∀ s, hc S (h &&& lr sg 0 cn) s ≤ hc S h s := fun s => cnt_imp (fun i q => by rw [hbit] at q; exact (Bool.and_eq_true_iff.mp q).1) _
  have hT' : ST S w (h &&& lr sg 0 cn) := ⟨hT.1, hT.2.1, Nat.lt_of_le_of_lt Nat.and_le_left hT.2.2.1, fun s hs => Nat.le_trans (hcl s) (hT.2.2.2 s hs)⟩
  refine ⟨hT', ?_⟩
  obtain ⟨k, a⟩ := (wst_BV (ms := ms) hT' hX).1
  have z : Sb S w h 0 0 := ⟨fun _ => 0, fun _ => 0, fun s hs => by
    have : 0 < LK S s := by unfold LK bsD; split <;> omega
    exact ⟨this, this⟩, (enc_congr (L := LK S) (d := fun _ => 0) (d' := fun _ => 0) (fun _ _ => rfl)).symm ▸ (by unfold enc; simp), by unfold enc; simp, fun s hs => by
    have e1 : nwD (nS S) 0 = 0 := if_pos rfl
    have e2 : odD (nS S) 0 = 0 := if_pos (Nat.zero_le _)
    rw [e1, e2]
    refine ⟨?_, ?_⟩ <;> split <;> rfl⟩
  obtain ⟨j, c, b1, _, b2⟩ := Rx_Sb hT.1 hT.2.1.2 (fun s _ => by unfold rmS; have := hcl s; omega) (fun l hl q => by rw [hbit, q, Bool.and_true]) h1 4 (Nat.le_refl 4) 0 hX.2.1 (by rw [hX.2.2]; omega) 0 0 k _ z a
  have := (wst_BV (ms := ms) hT hX).2 j c b1
  unfold gd at this
  rw [if_pos rfl] at this
  omega
