/-! ===== what stands between two calls ===== -/
def hRf : List (Int × Int) := [(1, 1), (2, 2), (3, 3), (4, 4), (5, 5), (6, 6), (7, 7), (8, 8), (11, 9), (14, 10), (15, 11)]
/-- a house's shape -/
def HS0 (M : MM) (h : Int) : Prop := 0 ≤ h ∧ h + 12 ≤ mN M ∧ (∀ i : Int, 0 ≤ i → i < 12 → mT M (h + i) = shp (1 + i)) ∧ ∀ p ∈ hRf, rd M h p.1 = h + p.2
/-- a cell of an image -/
def inZ (M : MM) (a : Int) : Prop := ∃ k : Int, (k = 0 ∨ k = 1) ∧ rd M 13 k ≠ -1 ∧ rd M 13 k ≤ a ∧ a < rd M 13 k + 12
/-- a law's cells lie in no image -/
def LwO (M : MM) (ob : Int) : Prop := okO M ob 4 ∧ 94 ≤ ob ∧ ¬ inZ M ob ∧ ∀ i : Int, 1 ≤ i → i ≤ 3 → 94 ≤ rd M ob i ∧ rd M ob i < mN M ∧ ¬ inZ M (rd M ob i)
def AllL (M : MM) (a : Int) : Prop := ∀ q : Int, 0 ≤ q → q < 6 → rd M a q = -1 ∨ LwO M (rd M a q)
def HP (M : MM) : Prop := AllL M 9 ∧ (∀ k : Int, (k = 0 ∨ k = 1) → rd M 13 k = -1 ∨ (94 ≤ rd M 13 k ∧ HS0 M (rd M 13 k) ∧ AllL M (rd M 13 k + 8))) ∧ (rd M 13 0 ≠ -1 → rd M 13 1 ≠ -1 → rd M 13 0 + 12 ≤ rd M 13 1 ∨ rd M 13 1 + 12 ≤ rd M 13 0)
/-- the images -/
def IM (s : Int → Int) (ri : Int → Int → Int) (si : Int → Int → LSm) (M : MM) : Prop := ∀ k : Int, (k = 0 ∨ k = 1) → (s (20 + k) = 0 ∧ rd M 13 k = -1) ∨ (s (20 + k) = 1 ∧ rd M 13 k ≠ -1 ∧ HRg M (rd M 13 k) (ri k) ∧ ∀ l : Int, 0 ≤ l → l < ri k 1 → CLaw M (rd M (rd M 13 k + 8) l) (si k l))
/-- the class's side: r the row, sm its laws, s numbers (3 bytes, 4 cut, 5 fault, 7 status, 10-14 refusals, 20-21 images), tx the tape, L the latest evening, ri si the images -/
def CI (q : Int) (r : Int → Int) (sm : Int → LSm) (s tx : Int → Int) (L : List (Int × Int × Int)) (ri : Int → Int → Int) (si : Int → Int → LSm) (M : MM) : Prop :=
  PL r sm M ∧ ((∀ j, rd M 14 j = tx j) ∧ rd M 0 3 = s 3 ∧ rd M 0 4 = s 4 ∧ rd M 0 5 = s 5 ∧ rd M 0 7 = s 7 ∧ (∀ i : Int, 0 ≤ i → i < 5 → rd M 15 i = s (10 + i)) ∧ rd M 20 0 = 0) ∧ (rd M 32 9 ≤ 1 + 200 * q ∧ rd M 44 9 ≤ 1 + 200 * q) ∧ WDs M 59 L ∧ HP M ∧ IM s ri si M
def Z0 (r : Int → Int) : Prop := ∀ j : Int, (j < 0 ∨ 5460 ≤ j) → r j = 0
def RNm (M : MM) (L : List (Int × Int × Int)) : Prop := ((rd M 67 52 = -1 ∧ L = []) ∨ rd M 67 52 = L.length) ∧ L.length ≤ 5 ∧ ∀ i : Nat, i < L.length → rd M 93 (3 * (i : Int)) = (L.getD i (0, 0, 0)).1 ∧ rd M 93 (3 * (i : Int) + 1) = (L.getD i (0, 0, 0)).2.1 ∧ rd M 93 (3 * (i : Int) + 2) = (L.getD i (0, 0, 0)).2.2
/-- the model's side -/
def MI (r : Int → Int) (sm : Int → LSm) (s tx : Int → Int) (L : List (Int × Int × Int)) (ri : Int → Int → Int) (si : Int → Int → LSm) (M : MM) : Prop :=
  Sh M ∧ rd M 69 = r ∧ (RS r ∧ MLaws r sm) ∧ ((∀ j, rd M 72 j = tx j) ∧ rd M 67 8 = s 3 ∧ rd M 67 6 = s 4 ∧ rd M 67 13 = s 5 ∧ rd M 67 1 = s 7 ∧ (rd M 68 1 = s 10 ∧ rd M 68 2 = s 11 ∧ rd M 68 3 = s 12 ∧ rd M 68 5 = s 13 ∧ rd M 68 6 = s 14)) ∧
  (rd M 67 39 = -1 ∧ ∀ k : Int, 0 ≤ k → k < 7 → rd M 78 k = gt wcdL (k + 6)) ∧ RNm M L ∧
  (∀ k : Int, (k = 0 ∨ k = 1) → rd M 71 k = s (20 + k) ∧ (s (20 + k) = 1 → (∀ i : Int, 0 ≤ i → i < 5460 → rd M 70 (5460 * k + i) = ri k i) ∧ RS (ri k) ∧ MLaws (ri k) (si k) ∧ Z0 (ri k))) ∧
  (Z0 r ∧ (0 ≤ s 3 ∧ s 3 ≤ 400) ∧ (∀ i, 0 ≤ tx i ∧ tx i ≤ 255) ∧ (∀ k : Int, (k = 0 ∨ k = 1) → s (20 + k) = 0 ∨ s (20 + k) = 1))
/-- what holds between two calls, q of them done -/
def INV (q : Int) (M : MM) : Prop := ∃ (r : Int → Int) (sm : Int → LSm) (s tx : Int → Int) (L : List (Int × Int × Int)) (ri : Int → Int → Int) (si : Int → Int → LSm), CI q r sm s tx L ri si M ∧ MI r sm s tx L ri si M
/-- the cells of the heap's own part are as they were -/
def Kp (M M' : MM) : Prop := mN M' = mN M ∧ (∀ b, mT M' b = mT M b) ∧ ∀ a j, (a = 9 ∨ a = 13 ∨ 94 ≤ a) → rd M' a j = rd M a j
section FI
variable {M M' : MM} {r r' : Int → Int} {sm : Int → LSm} {s s' tx : Int → Int} {L : List (Int × Int × Int)} {ri : Int → Int → Int} {si : Int → Int → LSm} {q q' : Int}
theorem Fr.kp {K : Int → Int → Prop} (f : Fr K M M') (hK : ∀ a j, K a j → a < 94 ∧ a ≠ 9 ∧ a ≠ 13) : Kp M M' := ⟨f.1, f.2.1, fun a j w => f.2.2 a j (fun z => by have := hK a j z; omega)⟩
theorem inZ.kp (h : Kp M M') {a : Int} : inZ M' a ↔ inZ M a := by
  unfold inZ
  constructor
  · rintro ⟨k, a1, a2, a3, a4⟩
    have e := h.2.2 13 k (by omega)
    exact ⟨k, a1, by rw [← e]; exact a2, by rw [← e]; exact a3, by rw [← e]; exact a4⟩
  · rintro ⟨k, a1, a2, a3, a4⟩
    have e := h.2.2 13 k (by omega)
    exact ⟨k, a1, by rw [e]; exact a2, by rw [e]; exact a3, by rw [e]; exact a4⟩
theorem LwO.kp (h : Kp M M') {ob : Int} (g : LwO M ob) : LwO M' ob := by
  obtain ⟨g1, g2, g3, g4⟩ := g
  refine ⟨⟨g1.1, by rw [h.1]; exact g1.2.1, by rw [h.2.1]; exact g1.2.2⟩, g2, fun w => g3 ((inZ.kp h).mp w), fun i i0 i1 => ?_⟩
  rw [h.2.2 ob i (Or.inr (Or.inr g2)), h.1]
  exact ⟨(g4 i i0 i1).1, (g4 i i0 i1).2.1, fun w => (g4 i i0 i1).2.2 ((inZ.kp h).mp w)⟩
theorem AllL.kp (h : Kp M M') {a : Int} (ha : a = 9 ∨ 94 ≤ a) (g : AllL M a) : AllL M' a := fun i i0 i1 => by
  rw [h.2.2 a i (by omega)]
  exact (g i i0 i1).imp id (fun w => w.kp h)
theorem HS0.kp (h : Kp M M') {a : Int} (ha : 94 ≤ a) (g : HS0 M a) : HS0 M' a := ⟨g.1, by rw [h.1]; exact g.2.1, fun i i0 i1 => by rw [h.2.1]; exact g.2.2.1 i i0 i1, fun p hp => by rw [h.2.2 a _ (Or.inr (Or.inr ha))]; exact g.2.2.2 p hp⟩
theorem HP.kp (h : Kp M M') (g : HP M) : HP M' := by
  refine ⟨g.1.kp h (Or.inl rfl), fun k hk => ?_, fun a b => ?_⟩
  · rw [h.2.2 13 k (by omega)]
    rcases g.2.1 k hk with w | ⟨w1, w2, w3⟩
    · exact Or.inl w
    · exact Or.inr ⟨w1, w2.kp h w1, w3.kp h (Or.inr (by omega))⟩
  · rw [h.2.2 13 0 (by omega)] at a ⊢
    rw [h.2.2 13 1 (by omega)] at b ⊢
    exact g.2.2 a b
theorem HRg.cp {h : Int} (g : HRg M h r) (e : ∀ i j, 0 ≤ i → i < 12 → rd M' (h + i) j = rd M (h + i) j) : HRg M' h r := by
  have e0 : ∀ j, rd M' h j = rd M h j := fun j => by have := e 0 j (by decide) (by decide); rwa [Int.add_zero] at this
  obtain ⟨h1, h2, h3, h4, h5, h6, h7, h8, h9, h10, h11, h12⟩ := g
  refine ⟨?_, fun s a b => ?_, fun s a b => ?_, fun s a b => ?_, ?_, ?_, ?_, fun s a b => ?_, ?_, ?_, fun a => ?_, fun s a b => ?_⟩
  · rw [e0]; exact h1
  · rw [e 1 _ (by decide) (by decide), e 2 _ (by decide) (by decide), e 3 _ (by decide) (by decide)]; exact h2 s a b
  · rw [e 4 _ (by decide) (by decide), e 5 _ (by decide) (by decide), e 6 _ (by decide) (by decide)]; exact h3 s a b
  · rw [e 7 _ (by decide) (by decide)]; exact h4 s a b
  · rw [e0]; exact h5
  · rw [e0]; exact h6
  · rw [e0]; exact h7
  · rw [e 9 _ (by decide) (by decide)]; exact h8 s a b
  · rw [e0]; exact h9
  · rw [e0]; exact h10
  · rw [e 10 _ (by decide) (by decide)]; exact h11 a
  · rw [e 11 _ (by decide) (by decide), e 10 _ (by decide) (by decide)]; exact h12 s a b
theorem CLaw.kp (h : Kp M M') {ob : Int} {L : LSm} (g : CLaw M ob L) : CLaw M' ob L :=
  g.fr (Int.le_of_eq h.1.symm) (fun b _ _ => h.2.1 b) (fun j => h.2.2 _ _ (Or.inr (Or.inr g.1))) (fun j => h.2.2 _ _ (Or.inr (Or.inr g.2.2.1))) (fun j => h.2.2 _ _ (Or.inr (Or.inr g.2.2.2.1))) (fun j => h.2.2 _ _ (Or.inr (Or.inr g.2.2.2.2.1)))
theorem IM.kp (h : Kp M M') (hp : HP M) (g : IM s ri si M) (es : ∀ k : Int, (k = 0 ∨ k = 1) → s' (20 + k) = s (20 + k)) : IM s' ri si M' := fun k hk => by
  rw [es k hk, h.2.2 13 k (by omega)]
  rcases g k hk with w | ⟨w1, w2, w3, w4⟩
  · exact Or.inl w
  · have h94 : 94 ≤ rd M 13 k := by
      rcases hp.2.1 k hk with z | z
      · exact absurd z w2
      · exact z.1
    refine Or.inr ⟨w1, w2, w3.cp (fun i j i0 i1 => h.2.2 _ _ (by omega)), fun l l0 l1 => ?_⟩
    rw [h.2.2 _ l (Or.inr (Or.inr (by omega)))]
    exact (w4 l l0 l1).kp h
theorem WDs.eq {w : Int} (g : WDs M w L) (e7 : rd M' w 7 = rd M w 7) (e : ∀ a j, (a = w + 1 ∨ a = w + 2 ∨ a = w + 3) → rd M' a j = rd M a j) : WDs M' w L := ⟨by rw [e7]; exact g.1, fun i hi => by rw [e _ _ (Or.inl rfl), e _ _ (Or.inr (Or.inl rfl)), e _ _ (Or.inr (Or.inr rfl))]; exact g.2 i hi⟩
/-- the class's side, when other cells change -/
theorem CI.to {K : Int → Int → Prop} (h : CI q r sm s tx L ri si M) (hP : PL r' sm M') (f : Fr K M M') (hK : ∀ a j, K a j → a < 94 ∧ a ≠ 0 ∧ a ≠ 9 ∧ a ≠ 13 ∧ a ≠ 14 ∧ a ≠ 15 ∧ a ≠ 20 ∧ ¬ (59 ≤ a ∧ a ≤ 62)) (h9 : rd M' 32 9 ≤ 1 + 200 * q' ∧ rd M' 44 9 ≤ 1 + 200 * q') : CI q' r' sm s tx L ri si M' := by
  obtain ⟨a1, ⟨b1, b2, b3, b4, b5, b6, b7⟩, c1, d1, e1, f1⟩ := h
  have e : ∀ a j : Int, (a = 0 ∨ a = 14 ∨ a = 15 ∨ a = 20 ∨ (59 ≤ a ∧ a ≤ 62)) → rd M' a j = rd M a j := fun a j w => f.2.2 a j (fun z => by have := hK a j z; omega)
  have kp := f.kp (fun a j z => by have := hK a j z; omega)
  exact ⟨hP, ⟨fun j => by rw [e 14 j (by omega)]; exact b1 j, by rw [e 0 _ (by omega)]; exact b2, by rw [e 0 _ (by omega)]; exact b3, by rw [e 0 _ (by omega)]; exact b4, by rw [e 0 _ (by omega)]; exact b5, fun i i0 i1 => by rw [e 15 _ (by omega)]; exact b6 i i0 i1, by rw [e 20 _ (by omega)]; exact b7⟩, h9, d1.eq (e 59 7 (by omega)) (fun a j w => e a j (by omega)), e1.kp kp, f1.kp kp e1 (fun _ _ => rfl)⟩
/-- the plan does not look at these -/
theorem PL.frM {K : Int → Int → Prop} (h : PL r sm M) (f : Fr K M M') (hK : ∀ a j, K a j → a = 0 ∨ (13 ≤ a ∧ a ≤ 24) ∨ (51 ≤ a ∧ a ≤ 93)) (hS : Sh M') : PL r sm M' := by
  obtain ⟨h1, h2, h3, h4, h5, h6, h7, h8, h9, h10, h11, h12, h13⟩ := h
  have e : ∀ a j : Int, (25 ≤ a ∧ a ≤ 50) → rd M' a j = rd M a j := fun a j q => f.2.2 _ _ (fun z => by have := hK a j z; omega)
  have e1 : ∀ a : Int, (25 ≤ a ∧ a ≤ 50) → rd M' a = rd M a := fun a q => funext fun j => e a j q
  have hC : CIn M' r sm := by
    refine ⟨⟨h2.1.1.fr (fun a j z => f.2.2 _ _ (fun y => by have := hK a j y; unfold KH at z; omega)), h2.1.2.1, h2.1.2.2.frK f (fun a j z => by have := hK a j z; omega)⟩, fun i i0 i1 => ?_, ?_⟩
    · rw [e 26 i (by decide), e 27 i (by decide), e 28 i (by decide)]; exact h2.2.1 i i0 i1
    · unfold CKp
      rw [e 25 6 (by decide)]
      rcases h2.2.2 with q | ⟨q, q2⟩
      · exact Or.inl q
      · exact Or.inr ⟨q, fun p l s z o a1 a2 a3 a4 a5 a6 a7 a8 => by rw [e 29 _ (by decide)]; exact q2 p l s z o a1 a2 a3 a4 a5 a6 a7 a8⟩
  refine ⟨hS, hC, ⟨by rw [e _ _ (by decide)]; exact h3.1, by rw [e _ _ (by decide)]; exact h3.2⟩, h4.eq (e1 _ (by decide)) (e1 _ (by decide)) (e _ _ (by decide)), h5.eq (e1 _ (by decide)) (e _ _ (by decide)), by rw [e _ _ (by decide)]; exact h6, by rw [e _ _ (by decide)]; exact h7, by rw [e _ _ (by decide)]; exact h8, by rw [e _ _ (by decide)]; exact h9, by rw [e _ _ (by decide)]; exact h10, fun q => ?_, fun q => ?_, fun q => ?_⟩
  · rw [e _ _ (by decide)] at q
    rw [e 44 11 (by decide), e 44 10 (by decide), e 39 8 (by decide)]
    exact ⟨(h11 q).1.eq (e1 _ (by decide)) (e1 _ (by decide)) (e _ _ (by decide)), (h11 q).2⟩
  · rw [e _ _ (by decide)] at q
    exact (h12 q).eq (e _ _ (by decide)) (fun j => e _ _ (by decide))
  · rw [e _ _ (by decide)] at q
    exact (h13 q).eq (e _ _ (by decide)) (fun j => e _ _ (by decide)) (e1 _ (by decide))
/-- the model has worked -/
theorem CI.mdl {K : Int → Int → Prop} (h : CI q r sm s tx L ri si M) (f : Fr K M M') (hK : ∀ a j, K a j → 67 ≤ a ∧ a ≤ 93) (hS : Sh M') : CI q r sm s tx L ri si M' :=
  h.to (h.1.frM f (fun a j z => by have := hK a j z; omega) hS) f (fun a j z => by have := hK a j z; omega) (by
    have e := fun a j (w : a < 67) => f.2.2 a j (fun z => by have := hK a j z; omega)
    rw [e 32 9 (by decide), e 44 9 (by decide)]; exact h.2.2.1)
theorem CI.up (h : CI q r sm s tx L ri si M) (hq : q ≤ q') : CI q' r sm s tx L ri si M := ⟨h.1, h.2.1, ⟨by have := h.2.2.1.1; omega, by have := h.2.2.1.2; omega⟩, h.2.2.2⟩
/-- the class has worked -/
theorem MI.cls (h : MI r sm s tx L ri si M) (hS : Sh M') (e : ∀ a j, 67 ≤ a → a ≤ 93 → rd M' a j = rd M a j) : MI r sm s tx L ri si M' := by
  obtain ⟨a1, a2, a3, ⟨b1, b2, b3, b4, b5, b6, b7, b8, b9, b10⟩, ⟨c1, c2⟩, ⟨d1, d2, d3⟩, e1, f1⟩ := h
  refine ⟨hS, by rw [← a2]; exact funext fun j => e 69 j (by decide) (by decide), a3, ⟨fun j => by rw [e 72 j (by decide) (by decide)]; exact b1 j, ?_, ?_, ?_, ?_, ?_, ?_, ?_, ?_, ?_⟩, ⟨?_, fun k k0 k1 => ?_⟩, ⟨?_, d2, fun i hi => ?_⟩, fun k hk => ?_, f1⟩
  · rw [e _ _ (by decide) (by decide)]; exact b2
  · rw [e _ _ (by decide) (by decide)]; exact b3
  · rw [e _ _ (by decide) (by decide)]; exact b4
  · rw [e _ _ (by decide) (by decide)]; exact b5
  · rw [e _ _ (by decide) (by decide)]; exact b6
  · rw [e _ _ (by decide) (by decide)]; exact b7
  · rw [e _ _ (by decide) (by decide)]; exact b8
  · rw [e _ _ (by decide) (by decide)]; exact b9
  · rw [e _ _ (by decide) (by decide)]; exact b10
  · rw [e _ _ (by decide) (by decide)]; exact c1
  · rw [e _ _ (by decide) (by decide)]; exact c2 k k0 k1
  · rw [e _ _ (by decide) (by decide)]; exact d1
  · rw [e _ _ (by decide) (by decide), e _ _ (by decide) (by decide), e _ _ (by decide) (by decide)]; exact d3 i hi
  · rw [e _ _ (by decide) (by decide)]
    exact ⟨(e1 k hk).1, fun w => ⟨fun i i0 i1 => by rw [e _ _ (by decide) (by decide)]; exact ((e1 k hk).2 w).1 i i0 i1, ((e1 k hk).2 w).2⟩⟩
/-- the model has worked on its scratch -/
def KSc (a j : Int) : Prop := (73 ≤ a ∧ a ≤ 92 ∧ a ≠ 78) ∨ (a = 67 ∧ j ≠ 1 ∧ j ≠ 2 ∧ j ≠ 6 ∧ j ≠ 8 ∧ j ≠ 13 ∧ j ≠ 39 ∧ j ≠ 52)
theorem MI.scr {K : Int → Int → Prop} (h : MI r sm s tx L ri si M) (f : Fr K M M') (hK : ∀ a j, K a j → KSc a j) (hS : Sh M') : MI r sm s tx L ri si M' := by
  obtain ⟨a1, a2, a3, ⟨b1, b2, b3, b4, b5, b6, b7, b8, b9, b10⟩, ⟨c1, c2⟩, ⟨d1, d2, d3⟩, e1, f1⟩ := h
  have e : ∀ a j, ¬ KSc a j → rd M' a j = rd M a j := fun a j w => f.2.2 a j (fun z => w (hK a j z))
  refine ⟨hS, by rw [← a2]; exact funext fun j => e 69 j (by unfold KSc; omega), a3, ⟨fun j => by rw [e 72 j (by unfold KSc; omega)]; exact b1 j, ?_, ?_, ?_, ?_, ?_, ?_, ?_, ?_, ?_⟩, ⟨?_, fun k k0 k1 => ?_⟩, ⟨?_, d2, fun i hi => ?_⟩, fun k hk => ?_, f1⟩
  · rw [e _ _ (by unfold KSc; omega)]; exact b2
  · rw [e _ _ (by unfold KSc; omega)]; exact b3
  · rw [e _ _ (by unfold KSc; omega)]; exact b4
  · rw [e _ _ (by unfold KSc; omega)]; exact b5
  · rw [e _ _ (by unfold KSc; omega)]; exact b6
  · rw [e _ _ (by unfold KSc; omega)]; exact b7
  · rw [e _ _ (by unfold KSc; omega)]; exact b8
  · rw [e _ _ (by unfold KSc; omega)]; exact b9
  · rw [e _ _ (by unfold KSc; omega)]; exact b10
  · rw [e _ _ (by unfold KSc; omega)]; exact c1
  · rw [e _ _ (by unfold KSc; omega)]; exact c2 k k0 k1
  · rw [e _ _ (by unfold KSc; omega)]; exact d1
  · rw [e _ _ (by unfold KSc; omega), e _ _ (by unfold KSc; omega), e _ _ (by unfold KSc; omega)]; exact d3 i hi
  · rw [e _ _ (by unfold KSc; omega)]
    exact ⟨(e1 k hk).1, fun w => ⟨fun i i0 i1 => by rw [e _ _ (by unfold KSc; omega)]; exact ((e1 k hk).2 w).1 i i0 i1, ((e1 k hk).2 w).2⟩⟩
/-! accepted, refused -/
def accS (s : Int → Int) : Int → Int := upF s 7 0
def refS (s : Int → Int) (c : Int) : Int → Int := upF (upF s (10 + rfP c) (s (10 + rfP c) + 1)) 7 c
theorem CI.acc (h : CI q r sm s tx L ri si M) : CI q r sm (accS s) tx L ri si (accM M) := by
  have f : Fr (fun a j => a = 0 ∧ j = 7) M (accM M) := Fr.rf.wr ⟨rfl, rfl⟩
  obtain ⟨a1, ⟨b1, b2, b3, b4, b5, b6, b7⟩, c1, d1, e1, f1⟩ := h
  have kp := f.kp (fun a j z => by omega)
  have hS : Sh (accM M) := sW_0_7 a1.1
  refine ⟨a1.frM f (fun a j z => by omega) hS, ⟨b1, b2, b3, b4, rfl, fun i i0 i1 => ?_, b7⟩, c1, d1, e1.kp kp, f1.kp kp e1 (fun k hk => ?_)⟩
  · show rd M 15 i = upF s 7 0 (10 + i)
    unfold upF; rw [if_neg (by omega)]; exact b6 i i0 i1
  · show upF s 7 0 (20 + k) = s (20 + k)
    unfold upF; rw [if_neg (by omega)]
theorem CI.ref {c : Int} (h : CI q r sm s tx L ri si M) (hc : 0 ≤ rfP c ∧ rfP c < 5) : CI q r sm (refS s c) tx L ri si (refM M c) := by
  have f : Fr (fun a j => a = 15 ∨ (a = 0 ∧ j = 7)) M (refM M c) := (Fr.rf.wr (Or.inl rfl)).wr (Or.inr ⟨rfl, rfl⟩)
  obtain ⟨a1, ⟨b1, b2, b3, b4, b5, b6, b7⟩, c1, d1, e1, f1⟩ := h
  have kp := f.kp (fun a j z => by omega)
  have hS : Sh (refM M c) := sRef a1.1
  have u3 : ∀ i : Int, i ≠ 7 → i ≠ 10 + rfP c → refS s c i = s i := fun i w1 w2 => by unfold refS upF; rw [if_neg w1, if_neg w2]
  have rr : ∀ a j, a ≠ 15 → ¬ (a = 0 ∧ j = 7) → rd (refM M c) a j = rd M a j := fun a j w1 w2 => f.2.2 a j (by omega)
  refine ⟨a1.frM f (fun a j z => by omega) hS, ⟨fun j => by rw [rr 14 j (by decide) (by omega)]; exact b1 j, ?_, ?_, ?_, ?_, fun i i0 i1 => ?_, by rw [rr _ _ (by decide) (by omega)]; exact b7⟩, ?_, ?_, e1.kp kp, f1.kp kp e1 (fun k hk => u3 _ (by omega) (by omega))⟩
  · rw [rr _ _ (by decide) (by omega), u3 _ (by decide) (by omega)]; exact b2
  · rw [rr _ _ (by decide) (by omega), u3 _ (by decide) (by omega)]; exact b3
  · rw [rr _ _ (by decide) (by omega), u3 _ (by decide) (by omega)]; exact b4
  · unfold refM refS upF; rw [rd_wr, if_pos ⟨rfl, rfl⟩, if_pos rfl]
  · have g1 : rd (refM M c) 15 i = if i = rfP c then rd M 15 i + 1 else rd M 15 i := by
      unfold refM
      rw [rd_wr, if_neg (by omega), rd_wr]
      by_cases w : i = rfP c
      · rw [if_pos ⟨rfl, w⟩, if_pos w, w]
      · rw [if_neg (fun z => w z.2), if_neg w]
    have g2 : refS s c (10 + i) = if i = rfP c then s (10 + i) + 1 else s (10 + i) := by
      unfold refS upF
      rw [if_neg (by omega)]
      by_cases w : i = rfP c
      · rw [if_pos (by omega), if_pos w, w]
      · rw [if_neg (by omega), if_neg w]
    rw [g1, g2, b6 i i0 i1]
  · rw [rr 32 9 (by decide) (by decide), rr 44 9 (by decide) (by decide)]; exact c1
  · exact d1.eq (rr _ _ (by decide) (by omega)) (fun a j w => rr a j (by omega) (by omega))
theorem MI.was (h : MI r sm s tx L ri si M) : MI r sm (accS s) tx L ri si (wasM M) := by
  obtain ⟨a1, a2, a3, ⟨b1, b2, b3, b4, b5, b6, b7, b8, b9, b10⟩, ⟨c1, c2⟩, ⟨d1, d2, d3⟩, e1, f1, f2, f3, f4⟩ := h
  have u : ∀ i : Int, i ≠ 7 → accS s i = s i := fun i w => by unfold accS upF; rw [if_neg w]
  refine ⟨sW_67_1 a1, a2, a3, ⟨b1, ?_, ?_, ?_, rfl, ?_, ?_, ?_, ?_, ?_⟩, ⟨c1, c2⟩, ⟨d1, d2, d3⟩, fun k hk => ?_, f1, ?_, f3, fun k hk => ?_⟩
  · rw [u _ (by decide)]; exact b2
  · rw [u _ (by decide)]; exact b3
  · rw [u _ (by decide)]; exact b4
  · rw [u _ (by decide)]; exact b6
  · rw [u _ (by decide)]; exact b7
  · rw [u _ (by decide)]; exact b8
  · rw [u _ (by decide)]; exact b9
  · rw [u _ (by decide)]; exact b10
  · rw [u _ (by omega)]; exact e1 k hk
  · rw [u _ (by decide)]; exact f2
  · rw [u _ (by omega)]; exact f4 k hk
theorem MI.telA {v : Int} (hv : 0 ≤ v) (h : MI r sm s tx L ri si M) : MI r sm (accS s) tx L ri si (telM M v) := by
  unfold telM; rw [if_pos hv]; exact h.was
theorem MI.telR {c : Int} (hc : c = -1 ∨ c = -2 ∨ c = -3 ∨ c = -5 ∨ c = -6) (h : MI r sm s tx L ri si M) : MI r sm (refS s c) tx L ri si (telM M c) := by
  obtain ⟨a1, a2, a3, ⟨b1, b2, b3, b4, b5, b6, b7, b8, b9, b10⟩, ⟨c1, c2⟩, ⟨d1, d2, d3⟩, e1, f1, f2, f3, f4⟩ := h
  have hrf : 0 ≤ rfP c ∧ rfP c < 5 := by unfold rfP; split <;> omega
  have u : ∀ i : Int, i ≠ 7 → ¬ (10 ≤ i ∧ i < 15) → refS s c i = s i := fun i w w2 => by unfold refS upF; rw [if_neg w, if_neg (by omega)]
  have hT : telM M c = wr (wr M 67 1 c) 68 (-c) (rd M 68 (-c) + 1) := by unfold telM; rw [if_neg (by omega)]
  have hS : Sh (telM M c) := sTel a1
  have rr : ∀ a j, a ≠ 68 → ¬ (a = 67 ∧ j = 1) → rd (telM M c) a j = rd M a j := fun a j w1 w2 => by rw [hT, rd_wr, if_neg (fun z => w1 z.1), rd_wr, if_neg w2]
  have u1 : ∀ i : Int, 10 ≤ i → i < 15 → refS s c i = if i = 10 + rfP c then s i + 1 else s i := fun i i0 i1 => by
    unfold refS upF
    rw [if_neg (by omega)]
    by_cases w : i = 10 + rfP c
    · rw [if_pos w, if_pos w, ← w]
    · rw [if_neg w, if_neg w]
  have r68 : ∀ j, rd (telM M c) 68 j = if j = -c then rd M 68 j + 1 else rd M 68 j := fun j => by
    rw [hT, rd_wr]
    by_cases w : j = -c
    · rw [if_pos ⟨rfl, w⟩, if_pos w, w]
    · rw [if_neg (fun z => w z.2), if_neg w, rd_wr, if_neg (by omega)]
  refine ⟨hS, by rw [← a2]; exact funext fun j => rr 69 j (by decide) (by omega), a3, ⟨fun j => by rw [rr 72 j (by decide) (by omega)]; exact b1 j, ?_, ?_, ?_, ?_, ?_, ?_, ?_, ?_, ?_⟩, ⟨by rw [rr _ _ (by decide) (by omega)]; exact c1, fun k k0 k1 => by rw [rr _ _ (by decide) (by omega)]; exact c2 k k0 k1⟩, ⟨by rw [rr _ _ (by decide) (by omega)]; exact d1, d2, fun i hi => by rw [rr _ _ (by decide) (by omega), rr _ _ (by decide) (by omega), rr _ _ (by decide) (by omega)]; exact d3 i hi⟩, fun k hk => ?_, f1, ?_, f3, fun k hk => ?_⟩
  · rw [rr _ _ (by decide) (by omega), u _ (by decide) (by decide)]; exact b2
  · rw [rr _ _ (by decide) (by omega), u _ (by decide) (by decide)]; exact b3
  · rw [rr _ _ (by decide) (by omega), u _ (by decide) (by decide)]; exact b4
  · rw [hT, rd_wr, if_neg (by omega), rd_wr, if_pos ⟨rfl, rfl⟩]; unfold refS upF; rw [if_pos rfl]
  · rw [r68, u1 _ (by decide) (by decide), b6]; rcases hc with rfl | rfl | rfl | rfl | rfl <;> rfl
  · rw [r68, u1 _ (by decide) (by decide), b7]; rcases hc with rfl | rfl | rfl | rfl | rfl <;> rfl
  · rw [r68, u1 _ (by decide) (by decide), b8]; rcases hc with rfl | rfl | rfl | rfl | rfl <;> rfl
  · rw [r68, u1 _ (by decide) (by decide), b9]; rcases hc with rfl | rfl | rfl | rfl | rfl <;> rfl
  · rw [r68, u1 _ (by decide) (by decide), b10]; rcases hc with rfl | rfl | rfl | rfl | rfl <;> rfl
  · rw [u _ (by omega) (by omega), rr 71 k (by decide) (by omega)]
    exact ⟨(e1 k hk).1, fun w => ⟨fun i i0 i1 => by rw [rr 70 _ (by decide) (by omega)]; exact ((e1 k hk).2 w).1 i i0 i1, ((e1 k hk).2 w).2⟩⟩
  · rw [u _ (by decide) (by decide)]; exact f2
  · rw [u _ (by omega) (by omega)]; exact f4 k hk
/-- 'thrown' is the model's own -/
theorem MI.thr (h : MI r sm s tx L ri si M) {v : Int} : MI r sm s tx L ri si (wr M 67 0 v) := h.scr (K := fun a j => a = 67 ∧ j = 0) (Fr.rf.wr ⟨rfl, rfl⟩) (fun a j z => by unfold KSc; omega) (sW_67_0 h.1)
end FI
