def MV (A : SX) (β : Bt) (X : Nat) : Prop := (∃ k v, A k v ∧ v + β k = X) ∧ ∀ k v, A k v → v + β k ≤ X
theorem MV.cmp {A : SX} {R : RX} {F : Bt → Bt} {β : Bt} {X : Nat} (h : MV A (F β) X) (hR : LKS R F) : MV (cmp A R) β X := by
  obtain ⟨⟨k, v, a, b⟩, q⟩ := h
  refine ⟨?_, ?_⟩
  · obtain ⟨⟨k', c, a2, b2⟩, -⟩ := hR β k
    exact ⟨k', v + c, ⟨k, v, c, a, a2, rfl⟩, by omega⟩
  · rintro k' v' ⟨k, v, c, a, a2, e⟩
    have := q k v a
    have := (hR β k).2 k' c a2
    omega
def sgX (k v : Nat) : SX := fun k' v' => k' = k ∧ v' = v
theorem MV.one {k v : Nat} {β : Bt} : MV (sgX k v) β (v + β k) := ⟨⟨k, v, ⟨rfl, rfl⟩, rfl⟩, fun k' v' ⟨a, b⟩ => by rw [a, b]; exact Nat.le_refl _⟩
theorem inK_one {K k v : Nat} (h : k < K) : inK K (sgX k v) := fun k' v' ⟨a, _⟩ => by rw [a]; exact h
/-- what a free step keeps -/
def FreeW (K : Nat) (R : RX) (F : Bt → Bt) (f : WS → WS) : Prop := FrW true K R f ∧ rK K R ∧ LKS R F ∧ ∀ T fm, 0 ≤ fm → (f (T, [], fm)).2 = ([], fm)
theorem FreeW.ext {K : Nat} {R R' : RX} {F F' : Bt → Bt} {f f' : WS → WS} (h : FreeW K R F f) (he : ∀ k k' c, R k k' c ↔ R' k k' c) (hF : ∀ β, F β = F' β) (hf : ∀ s, f s = f' s) : FreeW K R' F' f' := by
  obtain rfl : R = R' := funext fun k => funext fun k' => funext fun c => propext (he k k' c)
  obtain rfl : F = F' := funext hF
  obtain rfl : f = f' := funext hf
  exact h
theorem FreeW.sq {K : Nat} {R1 R2 : RX} {F1 F2 : Bt → Bt} {f1 f2 : WS → WS} (h1 : FreeW K R1 F1 f1) (h2 : FreeW K R2 F2 f2) : FreeW K (sqX R1 R2) (fun β => F1 (F2 β)) (fun s => f2 (f1 s)) := by
  refine ⟨fun A T fm hin hA => ?_, fun k k' c hk ⟨k1, c1, c2, a, b, _⟩ => h2.2.1 k1 k' c2 (h1.2.1 k k1 c1 hk a) b, h1.2.2.1.sq h2.2.2.1, fun T fm hfm => ?_⟩
  · obtain ⟨a1, b1⟩ := h1.1 A T fm hin hA
    obtain ⟨a2, b2⟩ := h2.1 _ _ (f1 (T, [], fm)).2.2 (inK_cmp hin h1.2.1) a1
    rw [← ws_eq _ b1] at a2 b2
    refine ⟨a2.ext fun k v _ => ⟨?_, ?_⟩, b2⟩
    · rintro ⟨k2, v2, c2, ⟨k1, v1, c1, a, b, e1⟩, b2, e2⟩
      exact ⟨k1, v1, c1 + c2, a, ⟨k2, c1, c2, b, b2, rfl⟩, by omega⟩
    · rintro ⟨k1, v1, c, a, ⟨k2, c1, c2, b, b2, e1⟩, e2⟩
      exact ⟨k2, v1 + c1, c2, ⟨k1, v1, c1, a, b, rfl⟩, b2, by omega⟩
  · have e := h1.2.2.2 T fm hfm
    have e2 : f1 (T, [], fm) = ((f1 (T, [], fm)).1, [], fm) := Prod.ext rfl e
    show (f2 (f1 (T, [], fm))).2 = _
    rw [e2]
    exact h2.2.2.2 _ fm hfm
theorem FreeW.id {K : Nat} : FreeW K (fun k k' c => k' = k ∧ c = 0) (fun β => β) (fun s => s) := by
  refine ⟨fun A T fm hin hA => ⟨hA.ext fun k v _ => ⟨fun a => ⟨k, v, 0, a, ⟨rfl, rfl⟩, rfl⟩, fun ⟨k1, v1, c, a, ⟨b1, b2⟩, e⟩ => by rw [b1, e, b2]; exact a⟩, rfl⟩, fun k k' c hk ⟨a, _⟩ => by rw [a]; exact hk, fun β k => ⟨⟨k, 0, ⟨rfl, rfl⟩, Nat.zero_add _⟩, fun k' c ⟨a, b⟩ => by rw [a, b]; exact Nat.le_of_eq (Nat.zero_add _)⟩, fun T fm _ => rfl⟩
theorem FreeW.it {K : Nat} {R : RX} {F : Bt → Bt} {f : WS → WS} (h : FreeW K R F f) : ∀ n, FreeW K (ItX R n) (fun β => itB F β n) (itw f n) := by
  intro n
  induction n with
  | zero => exact FreeW.id
  | succ n ih => exact (h.sq ih).ext (fun k k' c => (ItX_front n k k' c).symm) (fun β => rfl) (fun s => rfl)
/-- forced steps: by the first row that costs the most, by what it begins with, by a lesser digit -/
def GdP (K : Nat) (f : WS → WS) (F : Bt → Bt) (g : GwX) : Prop := ∀ (β : Bt) (k v : Nat) (T : Tb), k < K → BO true K (sgX k v) T →
  (∀ (rest : List Nat) (fm : Int), ∃ v', BO true K (sgX (g β k).1 v') (f (T, (g β k).2 ++ rest, fm)).1 ∧ (f (T, (g β k).2 ++ rest, fm)).2 = (rest, fm) ∧ v' + β (g β k).1 = v + F β k ∧ (g β k).1 < K) ∧
  (∀ (P : List Nat) (x : Nat) (Q : List Nat) (fm : Int), (g β k).2 = P ++ x :: Q → fm < 0 → ∃ (A : SX) (may : Int), inK K A ∧ BO true K A (f (T, P, fm)).1 ∧ (f (T, P, fm)).2 = ([], may) ∧ (x : Int) < may ∧ MV A β (v + F β k)) ∧
  (∀ (P : List Nat) (x : Nat) (Q : List Nat) (e : Nat) (fm : Int), (g β k).2 = P ++ x :: Q → e < x → ∃ (A : SX) (X : Nat), inK K A ∧ BO true K A (f (T, P ++ [e], fm)).1 ∧ (f (T, P ++ [e], fm)).2.1 = [] ∧ MV A β X ∧ X < v + F β k)
theorem split_app {D1 D2 P Q : List Nat} {x : Nat} (h : D1 ++ D2 = P ++ x :: Q) : (∃ P2, P = D1 ++ P2 ∧ D2 = P2 ++ x :: Q) ∨ ∃ Q2, D1 = P ++ x :: Q2 := by
  rcases List.append_eq_append_iff.mp h with ⟨a, h1, h2⟩ | ⟨c, h1, h2⟩
  · exact Or.inl ⟨a, h1, h2⟩
  · cases c with
    | nil => exact Or.inl ⟨[], by rw [h1, List.append_nil, List.append_nil], by rw [List.nil_append] at h2; rw [List.nil_append]; exact h2.symm⟩
    | cons y c =>
      rw [List.cons_append] at h2
      injection h2 with h3 h4
      exact Or.inr ⟨c, by rw [h1, h3]⟩
theorem GdP.sq {K : Nat} {f1 f2 : WS → WS} {F1 F2 : Bt → Bt} {g1 g2 : GwX} {R2 : RX} (h1 : GdP K f1 F1 g1) (h2 : GdP K f2 F2 g2) (w2 : FreeW K R2 F2 f2) : GdP K (fun s => f2 (f1 s)) (fun β => F1 (F2 β)) (gSq F2 g1 g2) := by
  intro β k v T hk hT
  obtain ⟨p1, p2, p3⟩ := h1 (F2 β) k v T hk hT
  -- the first part goes as the row says
  have go : ∀ rest fm, ∃ v' T', f1 (T, (g1 (F2 β) k).2 ++ rest, fm) = (T', rest, fm) ∧ BO true K (sgX (g1 (F2 β) k).1 v') T' ∧ v' + F2 β (g1 (F2 β) k).1 = v + F1 (F2 β) k ∧ (g1 (F2 β) k).1 < K := fun rest fm => by
    obtain ⟨v', a, b, c, d⟩ := p1 rest fm
    exact ⟨v', (f1 (T, (g1 (F2 β) k).2 ++ rest, fm)).1, Prod.ext rfl b, a, c, d⟩
  have eD : (gSq F2 g1 g2 β k).2 = (g1 (F2 β) k).2 ++ (g2 β (g1 (F2 β) k).1).2 := rfl
  have eK : (gSq F2 g1 g2 β k).1 = (g2 β (g1 (F2 β) k).1).1 := rfl
  refine ⟨fun rest fm => ?_, fun P x Q fm hD hfm => ?_, fun P x Q e fm hD he => ?_⟩
  · obtain ⟨v', T', e, a, b, c⟩ := go ((g2 β (g1 (F2 β) k).1).2 ++ rest) fm
    obtain ⟨v2, a2, b2, c2, d2⟩ := (h2 β _ v' T' c a).1 rest fm
    refine ⟨v2, ?_, ?_, ?_, d2⟩
    · rw [eD, eK, List.append_assoc]
      show BO true K _ (f2 (f1 (T, (g1 (F2 β) k).2 ++ ((g2 β (g1 (F2 β) k).1).2 ++ rest), fm))).1
      rw [e]; exact a2
    · rw [eD, List.append_assoc]
      show (f2 (f1 (T, (g1 (F2 β) k).2 ++ ((g2 β (g1 (F2 β) k).1).2 ++ rest), fm))).2 = _
      rw [e]; exact b2
    · rw [eK]
      show v2 + _ = v + F1 (F2 β) k
      omega
  · rw [eD] at hD
    rcases split_app hD with ⟨P2, rfl, hD2⟩ | ⟨Q2, hD1⟩
    · obtain ⟨v', T', e, a, b, c⟩ := go P2 fm
      obtain ⟨A, may, a2, b2, c2, d2, e2⟩ := (h2 β _ v' T' c a).2.1 P2 x Q fm hD2 hfm
      refine ⟨A, may, a2, ?_, ?_, d2, ?_⟩
      · show BO true K A (f2 (f1 (T, (g1 (F2 β) k).2 ++ P2, fm))).1
        rw [e]; exact b2
      · show (f2 (f1 (T, (g1 (F2 β) k).2 ++ P2, fm))).2 = _
        rw [e]; exact c2
      · show MV A β (v + F1 (F2 β) k)
        rw [← b]; exact e2
    · obtain ⟨A, may, a2, b2, c2, d2, e2⟩ := p2 P x Q2 fm hD1 hfm
      have es : f1 (T, P, fm) = ((f1 (T, P, fm)).1, [], may) := Prod.ext rfl c2
      obtain ⟨a3, -⟩ := w2.1 A _ may a2 b2
      refine ⟨cmp A R2, may, inK_cmp a2 w2.2.1, ?_, ?_, d2, e2.cmp w2.2.2.1⟩
      · show BO true K _ (f2 (f1 (T, P, fm))).1
        rw [es]; exact a3
      · show (f2 (f1 (T, P, fm))).2 = _
        rw [es]; exact w2.2.2.2 _ may (by omega)
  · rw [eD] at hD
    rcases split_app hD with ⟨P2, rfl, hD2⟩ | ⟨Q2, hD1⟩
    · obtain ⟨v', T', e1, a, b, c⟩ := go (P2 ++ [e]) fm
      obtain ⟨A, X, a2, b2, c2, d2, e2⟩ := (h2 β _ v' T' c a).2.2 P2 x Q e fm hD2 he
      refine ⟨A, X, a2, ?_, ?_, d2, ?_⟩
      · rw [List.append_assoc]
        show BO true K A (f2 (f1 (T, (g1 (F2 β) k).2 ++ (P2 ++ [e]), fm))).1
        rw [e1]; exact b2
      · rw [List.append_assoc]
        show (f2 (f1 (T, (g1 (F2 β) k).2 ++ (P2 ++ [e]), fm))).2.1 = _
        rw [e1]; exact c2
      · show X < v + F1 (F2 β) k
        omega
    · obtain ⟨A, X, a2, b2, c2, d2, e2⟩ := p3 P x Q2 e fm hD1 he
      have es := ws_eq _ c2
      obtain ⟨a3, b3⟩ := w2.1 A _ (f1 (T, P ++ [e], fm)).2.2 a2 b2
      rw [← es] at a3 b3
      exact ⟨cmp A R2, X, inK_cmp a2 w2.2.1, a3, b3, d2.cmp w2.2.2.1, e2⟩
theorem GdP.ext {K : Nat} {f f' : WS → WS} {F F' : Bt → Bt} {g g' : GwX} (h : GdP K f F g) (hf : ∀ s, f s = f' s) (hF : ∀ β, F β = F' β) (hg : ∀ β k, g β k = g' β k) : GdP K f' F' g' := by
  obtain rfl : f = f' := funext hf
  obtain rfl : F = F' := funext hF
  obtain rfl : g = g' := funext fun β => funext fun k => hg β k
  exact h
theorem app_ne {P Q : List Nat} {x : Nat} : ¬ [] = P ++ x :: Q := by
  intro h
  have := congrArg List.length h
  rw [List.length_append, List.length_cons, List.length_nil] at this
  omega
theorem GdP.it {K : Nat} {R : RX} {F : Bt → Bt} {f : WS → WS} {g : GwX} (h : GdP K f F g) (w : FreeW K R F f) : ∀ n, GdP K (itw f n) (fun β => itB F β n) (gI F g n) := by
  intro n
  induction n with
  | zero =>
    intro β k v T hk hT
    refine ⟨fun rest fm => ⟨v, hT, rfl, rfl, hk⟩, fun P x Q fm hD _ => absurd hD app_ne, fun P x Q e fm hD _ => absurd hD app_ne⟩
  | succ n ih => exact (h.sq ih (w.it n)).ext (fun s => rfl) (fun β => rfl) (fun β k => rfl)
