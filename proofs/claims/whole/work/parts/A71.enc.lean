/-! numbers of four digits, each with a base of its own -/
def enc (L d : Nat → Nat) : Nat := d 0 + L 0 * (d 1 + L 1 * (d 2 + L 2 * d 3))
def sd (L : Nat → Nat) (s : Nat) : Nat := if s = 0 then 1 else if s = 1 then L 0 else if s = 2 then L 0 * L 1 else L 0 * L 1 * L 2
def udd (d : Nat → Nat) (s v : Nat) : Nat → Nat := fun t => if t = s then v else d t
theorem four {P : Nat → Prop} (h0 : P 0) (h1 : P 1) (h2 : P 2) (h3 : P 3) {s : Nat} (hs : s < 4) : P s := by
  rcases (show s = 0 ∨ s = 1 ∨ s = 2 ∨ s = 3 by omega) with rfl | rfl | rfl | rfl
  · exact h0
  · exact h1
  · exact h2
  · exact h3
theorem enc_dig {L d : Nat → Nat} (h : ∀ s, s < 4 → d s < L s) {s : Nat} (hs : s < 4) : enc L d / sd L s % L s = d s := by
  have h0 := h 0 (by decide)
  have h1 := h 1 (by decide)
  have h2 := h 2 (by decide)
  have h3 := h 3 (by decide)
  have a0 : enc L d % L 0 = d 0 := by unfold enc; rw [Nat.add_mul_mod_self_left, Nat.mod_eq_of_lt h0]
  have b0 : enc L d / L 0 = d 1 + L 1 * (d 2 + L 2 * d 3) := by unfold enc; rw [Nat.add_mul_div_left _ _ (by omega), Nat.div_eq_of_lt h0, Nat.zero_add]
  have a1 : enc L d / L 0 % L 1 = d 1 := by rw [b0, Nat.add_mul_mod_self_left, Nat.mod_eq_of_lt h1]
  have b1 : enc L d / L 0 / L 1 = d 2 + L 2 * d 3 := by rw [b0, Nat.add_mul_div_left _ _ (by omega), Nat.div_eq_of_lt h1, Nat.zero_add]
  have a2 : enc L d / L 0 / L 1 % L 2 = d 2 := by rw [b1, Nat.add_mul_mod_self_left, Nat.mod_eq_of_lt h2]
  have b2 : enc L d / L 0 / L 1 / L 2 = d 3 := by rw [b1, Nat.add_mul_div_left _ _ (by omega), Nat.div_eq_of_lt h2, Nat.zero_add]
  refine four (P := fun s => enc L d / sd L s % L s = d s) ?_ ?_ ?_ ?_ hs
  · show enc L d / 1 % L 0 = d 0
    rw [Nat.div_one]; exact a0
  · exact a1
  · show enc L d / (L 0 * L 1) % L 2 = d 2
    rw [← Nat.div_div_eq_div_mul]; exact a2
  · show enc L d / (L 0 * L 1 * L 2) % L 3 = d 3
    rw [← Nat.div_div_eq_div_mul, ← Nat.div_div_eq_div_mul, b2, Nat.mod_eq_of_lt h3]
theorem enc_sum (L d : Nat → Nat) : enc L d = d 0 * sd L 0 + d 1 * sd L 1 + d 2 * sd L 2 + d 3 * sd L 3 := by
  show d 0 + L 0 * (d 1 + L 1 * (d 2 + L 2 * d 3)) = d 0 * 1 + d 1 * L 0 + d 2 * (L 0 * L 1) + d 3 * (L 0 * L 1 * L 2)
  rw [Nat.mul_add, Nat.mul_add, Nat.mul_add, Nat.mul_one, Nat.mul_comm (d 1), Nat.mul_comm (d 2), Nat.mul_comm (d 3), ← Nat.mul_assoc, ← Nat.mul_assoc, ← Nat.mul_assoc]
  omega
theorem enc_upd (L d : Nat → Nat) {s : Nat} (v : Nat) (hs : s < 4) : enc L (udd d s v) + d s * sd L s = enc L d + v * sd L s := by
  rw [enc_sum, enc_sum]
  refine four (P := fun s => udd d s v 0 * sd L 0 + udd d s v 1 * sd L 1 + udd d s v 2 * sd L 2 + udd d s v 3 * sd L 3 + d s * sd L s = d 0 * sd L 0 + d 1 * sd L 1 + d 2 * sd L 2 + d 3 * sd L 3 + v * sd L s) ?_ ?_ ?_ ?_ hs
  · show v * sd L 0 + d 1 * sd L 1 + d 2 * sd L 2 + d 3 * sd L 3 + d 0 * sd L 0 = _; omega
  · show d 0 * sd L 0 + v * sd L 1 + d 2 * sd L 2 + d 3 * sd L 3 + d 1 * sd L 1 = _; omega
  · show d 0 * sd L 0 + d 1 * sd L 1 + v * sd L 2 + d 3 * sd L 3 + d 2 * sd L 2 = _; omega
  · show d 0 * sd L 0 + d 1 * sd L 1 + d 2 * sd L 2 + v * sd L 3 + d 3 * sd L 3 = _; omega
theorem enc_le (L d : Nat → Nat) {s : Nat} (hs : s < 4) : d s * sd L s ≤ enc L d := by
  rw [enc_sum]
  refine four (P := fun s => d s * sd L s ≤ d 0 * sd L 0 + d 1 * sd L 1 + d 2 * sd L 2 + d 3 * sd L 3) ?_ ?_ ?_ ?_ hs <;> omega
theorem enc_lt {L d : Nat → Nat} (h : ∀ s, s < 4 → d s < L s) : enc L d < L 0 * (L 1 * (L 2 * L 3)) := by
  have step : ∀ {a A b B : Nat}, a < A → b < B → a + A * b < A * B := fun {a A b B} ha hb => by
    have : A * (b + 1) ≤ A * B := Nat.mul_le_mul_left _ hb
    rw [Nat.mul_add, Nat.mul_one] at this
    omega
  exact step (h 0 (by decide)) (step (h 1 (by decide)) (step (h 2 (by decide)) (h 3 (by decide))))
theorem enc_inj {L d d' : Nat → Nat} (h : ∀ s, s < 4 → d s < L s) (h' : ∀ s, s < 4 → d' s < L s) (e : enc L d = enc L d') : ∀ s, s < 4 → d s = d' s := by
  intro s hs
  rw [← enc_dig h hs, ← enc_dig h' hs, e]
theorem enc_congr {L d d' : Nat → Nat} (h : ∀ s, s < 4 → d s = d' s) : enc L d = enc L d' := by
  unfold enc
  rw [h 0 (by decide), h 1 (by decide), h 2 (by decide), h 3 (by decide)]
/-! the shelf: S sets, w ways, h held, cr crowd -/
def isS (S : Nat) : Prop := S = 1 ∨ S = 2 ∨ S = 4
def nS (S : Nat) : Nat := 8 / S
def hc (S h s : Nat) : Nat := cnt (fun a => hb h (a * S + s)) (nS S)
def rmS (S w h s : Nat) : Nat := w - hc S h s
def mbS (S h cr s a : Nat) : Bool := hb cr (a * S + s) && !hb h (a * S + s)
/-- the reference's bases, the class's -/
def LK (S s : Nat) : Nat := if s < S then bsD (nS S) else 1
def LC (S w h cr s : Nat) : Nat := if s < S then lkD (rmS S w h s) (cnt (mbS S h cr s) (nS S)) else 1
def VD (S w h cr s e : Nat) : Prop := if s < S then e < bsD (nS S) ∧ vdD (nS S) (mbS S h cr s) (rmS S w h s) (nwD (nS S) e) (odD (nS S) e) else e = 0
def CD (S w h cr s e : Nat) : Nat := if s < S then cdD (nS S) (mbS S h cr s) (rmS S w h s) (nwD (nS S) e) (odD (nS S) e) else 0
def Rk (S w h cr k c : Nat) : Prop := ∃ e : Nat → Nat, (∀ s, s < 4 → VD S w h cr s (e s)) ∧ k = enc (LK S) e ∧ c = enc (LC S w h cr) (fun s => CD S w h cr s (e s))
theorem isS.n {S : Nat} (h : isS S) : isN (nS S) := by
  rcases h with rfl | rfl | rfl
  · exact Or.inr (Or.inr rfl)
  · exact Or.inr (Or.inl rfl)
  · exact Or.inl rfl
theorem isS.le {S : Nat} (h : isS S) : 1 ≤ S ∧ S ≤ 4 ∧ S * nS S = 8 ∧ nS S ≤ 8 := by
  rcases h with rfl | rfl | rfl <;> decide
theorem rm_le {S w h s : Nat} (hw : w ≤ 2) : rmS S w h s ≤ 2 := by unfold rmS; omega
theorem VD.ltK {S w h cr s e : Nat} (hv : VD S w h cr s e) : e < LK S s := by
  unfold VD at hv
  unfold LK
  split at hv
  · rename_i hs
    rw [if_pos hs]; exact hv.1
  · rename_i hs
    rw [if_neg hs]; omega
theorem VD.ltC {S w h cr s e : Nat} (hw : w ≤ 2) (hv : VD S w h cr s e) : CD S w h cr s e < LC S w h cr s := by
  unfold VD at hv
  unfold LC CD
  split at hv
  · rename_i hs
    rw [if_pos hs, if_pos hs]; exact cd_lt hv.2 (rm_le hw)
  · rename_i hs
    rw [if_neg hs, if_neg hs]; omega
theorem Rk.k_inj {S w h cr k c c' : Nat} (h1 : Rk S w h cr k c) (h2 : Rk S w h cr k c') : c = c' := by
  obtain ⟨e, v, hk, hc⟩ := h1
  obtain ⟨e', v', hk', hc'⟩ := h2
  have := enc_inj (fun s hs => (v s hs).ltK) (fun s hs => (v' s hs).ltK) (hk.symm.trans hk')
  rw [hc, hc']
  exact enc_congr fun s hs => by rw [this s hs]
theorem Rk.c_inj {S w h cr k k' c : Nat} (hS : isS S) (hw : w ≤ 2) (h1 : Rk S w h cr k c) (h2 : Rk S w h cr k' c) : k = k' := by
  obtain ⟨e, v, hk, hc⟩ := h1
  obtain ⟨e', v', hk', hc'⟩ := h2
  have := enc_inj (fun s hs => (v s hs).ltC hw) (fun s hs => (v' s hs).ltC hw) (hc.symm.trans hc')
  rw [hk, hk']
  refine enc_congr fun s hs => ?_
  have q : CD S w h cr s (e s) = CD S w h cr s (e' s) := this s hs
  have a := v s hs
  have b := v' s hs
  unfold CD at q
  unfold VD at a b
  split at a
  · rename_i c
    rw [if_pos c] at b
    rw [if_pos c, if_pos c] at q
    have r := cd_inj a.2 b.2 (rm_le hw) q
    exact xy_inj hS.n a.1 b.1 r.1 r.2
  · rename_i c
    rw [if_neg c] at b
    rw [a, b]
def KN (S : Nat) : Nat := LK S 0 * (LK S 1 * (LK S 2 * LK S 3))
def CN (S w h cr : Nat) : Nat := LC S w h cr 0 * (LC S w h cr 1 * (LC S w h cr 2 * LC S w h cr 3))
theorem Rk.lt {S w h cr k c : Nat} (hw : w ≤ 2) (h1 : Rk S w h cr k c) : k < KN S ∧ c < CN S w h cr := by
  obtain ⟨e, v, hk, hc⟩ := h1
  rw [hk, hc]
  exact ⟨enc_lt fun s hs => (v s hs).ltK, enc_lt fun s hs => (v s hs).ltC hw⟩
theorem KN_val : KN 1 = 65 ∧ KN 2 = 289 ∧ KN 4 = 625 := by decide
theorem KN_le {S : Nat} (hS : isS S) : KN S ≤ 625 ∧ 1 ≤ KN S := by
  rcases hS with rfl | rfl | rfl <;> decide
theorem lk_le {r M n : Nat} (h : M ≤ n) (hn : 1 ≤ n) : lkD r M ≤ bsD n := by
  unfold lkD bsD
  have h1 : M * M ≤ n * n := Nat.mul_le_mul h h
  have h2 : n * n = n + n * (n - 1) := by
    obtain ⟨q, rfl⟩ : ∃ q, n = q + 1 := ⟨n - 1, by omega⟩
    rw [Nat.add_sub_cancel, Nat.mul_add, Nat.mul_one, Nat.add_comm]
  split
  · have : 0 ≤ n * (n - 1) := Nat.zero_le _
    omega
  · split <;> omega
theorem LC_le {S w h cr s : Nat} (hS : isS S) : LC S w h cr s ≤ LK S s := by
  unfold LC LK
  split
  · exact lk_le (cnt_le _ _) (by have := hS.n; unfold isN at this; omega)
  · exact Nat.le_refl _
theorem CN_le {S w h cr : Nat} (hS : isS S) : CN S w h cr ≤ 625 := by
  have : CN S w h cr ≤ KN S := Nat.mul_le_mul (LC_le hS) (Nat.mul_le_mul (LC_le hS) (Nat.mul_le_mul (LC_le hS) (LC_le hS)))
  have := KN_le hS
  omega
/-- a fetch, by the reference's number -/
def fK (S w h k l : Nat) : Nat := if hb h l then k else k - k / sd (LK S) (l % S) % LK S (l % S) * sd (LK S) (l % S) + dgD (nS S) (rmS S w h (l % S)) (l / S) (k / sd (LK S) (l % S) % LK S (l % S)) * sd (LK S) (l % S)
def tK (S h k l : Nat) : Bool := hb h l || htD (nS S) (l / S) (k / sd (LK S) (l % S) % LK S (l % S))
/-- a fetch, by the class's number -/
def fC (S w h cr c l : Nat) : Nat := if hb h l then c else c - c / sd (LC S w h cr) (l % S) % LC S w h cr (l % S) * sd (LC S w h cr) (l % S) + nlD (cnt (mbS S h cr (l % S)) (nS S)) (rmS S w h (l % S)) (cnt (mbS S h cr (l % S)) (l / S)) (c / sd (LC S w h cr) (l % S) % LC S w h cr (l % S)) * sd (LC S w h cr) (l % S)
def tC' (S w h cr c l : Nat) : Bool := hb h l || lyD (cnt (mbS S h cr (l % S)) (nS S)) (rmS S w h (l % S)) (cnt (mbS S h cr (l % S)) (l / S)) (c / sd (LC S w h cr) (l % S) % LC S w h cr (l % S))
theorem line_S {S l : Nat} (hS : isS S) (hl : l < 8) : l / S < nS S ∧ l % S < S ∧ l / S * S + l % S = l := by
  have h1 := hS.le
  refine ⟨?_, Nat.mod_lt _ (by omega), ?_⟩
  · rcases hS with rfl | rfl | rfl
    · show l / 1 < 8; omega
    · show l / 2 < 4; omega
    · show l / 4 < 2; omega
  · rw [Nat.mul_comm]; exact Nat.div_add_mod l S
theorem Rk.fetch {S w h cr k c l : Nat} (hS : isS S) (hw : w ≤ 2) (hl : l < 8) (hcr : hb cr l = true) (hR : Rk S w h cr k c) : Rk S w h cr (fK S w h k l) (fC S w h cr c l) ∧ tK S h k l = tC' S w h cr c l := by
  by_cases hh : hb h l = true
  · unfold fK fC tK tC'
    rw [if_pos hh, if_pos hh, hh]
    exact ⟨hR, rfl⟩
  · obtain ⟨l1, l2, l3⟩ := line_S hS hl
    have hf : mbS S h cr (l % S) (l / S) = true := by
      unfold mbS
      rw [l3, hcr]
      simp [hh]
    obtain ⟨e, v, hk, hc⟩ := hR
    have hs4 : l % S < 4 := by have := hS.le; omega
    have dk : k / sd (LK S) (l % S) % LK S (l % S) = e (l % S) := by rw [hk]; exact enc_dig (fun s hs => (v s hs).ltK) hs4
    have dc : c / sd (LC S w h cr) (l % S) % LC S w h cr (l % S) = CD S w h cr (l % S) (e (l % S)) := by rw [hc]; exact enc_dig (d := fun s => CD S w h cr s (e s)) (fun s hs => (v s hs).ltC hw) hs4
    have hv := v (l % S) hs4
    unfold VD at hv
    rw [if_pos l2] at hv
    have hr2 := rm_le (S := S) (h := h) (s := l % S) hw
    have ds := dg_spec (r := rmS S w h (l % S)) hS.n hr2 l1 hv.1
    have vs := vd_step hv.2 hr2 l1 hf
    have ns := nl_spec hv.2 hr2 l1 hf
    have ls := ly_spec (a := l / S) hv.2 hr2 hf
    have cde : CD S w h cr (l % S) (e (l % S)) = cdD (nS S) (mbS S h cr (l % S)) (rmS S w h (l % S)) (nwD (nS S) (e (l % S))) (odD (nS S) (e (l % S))) := if_pos l2
    have ek := enc_upd (LK S) e (dgD (nS S) (rmS S w h (l % S)) (l / S) (e (l % S))) hs4
    have ec := enc_upd (LC S w h cr) (fun s => CD S w h cr s (e s)) (nlD (cnt (mbS S h cr (l % S)) (nS S)) (rmS S w h (l % S)) (cnt (mbS S h cr (l % S)) (l / S)) (CD S w h cr (l % S) (e (l % S)))) hs4
    have lk := enc_le (LK S) e hs4
    have lc := enc_le (LC S w h cr) (fun s => CD S w h cr s (e s)) hs4
    refine ⟨⟨udd e (l % S) (dgD (nS S) (rmS S w h (l % S)) (l / S) (e (l % S))), fun s hs => ?_, ?_, ?_⟩, ?_⟩
    · unfold udd
      split
      · rename_i q
        subst q
        unfold VD
        rw [if_pos l2, ds.1, ds.2.1]
        exact ⟨ds.2.2, vs⟩
      · exact v s hs
    · unfold fK
      rw [if_neg hh, dk]
      rw [← hk] at ek lk
      omega
    · unfold fC
      rw [if_neg hh, dc]
      have e2 : enc (LC S w h cr) (fun s => CD S w h cr s (udd e (l % S) (dgD (nS S) (rmS S w h (l % S)) (l / S) (e (l % S))) s)) = enc (LC S w h cr) (udd (fun s => CD S w h cr s (e s)) (l % S) (nlD (cnt (mbS S h cr (l % S)) (nS S)) (rmS S w h (l % S)) (cnt (mbS S h cr (l % S)) (l / S)) (CD S w h cr (l % S) (e (l % S))))) := by
        refine enc_congr fun s hs => ?_
        unfold udd
        split
        · rename_i q
          subst q
          rw [cde, ← ns]
          unfold CD
          rw [if_pos l2, ds.1, ds.2.1]
        · rfl
      rw [e2]
      rw [← hc] at ec lc
      omega
    · unfold tK tC'
      rw [dk, dc, cde, ls]
      rfl
theorem Rk.zero {S w h cr : Nat} (hw : w ≤ 2) (hS : isS S) : Rk S w h cr 0 0 := by
  refine ⟨fun _ => 0, fun s hs => ?_, rfl, ?_⟩
  · unfold VD
    split
    · refine ⟨(show 0 < bsD (nS S) by unfold bsD; omega), Nat.zero_le _, Nat.zero_le _, fun h => absurd rfl h, fun h => absurd rfl h, fun _ => rfl, fun _ => rfl⟩
    · rfl
  · have : ∀ s, CD S w h cr s 0 = 0 := fun s => by
      unfold CD
      split
      · exact cd_0 (Or.inl rfl)
      · rfl
    simp [enc, this]
