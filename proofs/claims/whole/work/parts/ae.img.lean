/-! ===== an image is kept ===== -/
section IMG
variable {G : GG} {d : Nat} {M M1 M4 : MM} {Q : PV → MM → Prop} {r : Int → Int} {sm : Int → LSm} {s s' tx : Int → Int} {L : List (Int × Int × Int)} {ri : Int → Int → Int} {si : Int → Int → LSm} {q k h : Int}
def Img (k h : Int) (M M4 : MM) : Prop := (mN M ≤ mN M4 ∧ ∀ b, 0 ≤ b → b < mN M → mT M4 b = mT M b) ∧ (∀ a j, a < mN M → ¬ (h ≤ a ∧ a < h + 12) → ¬ (a = 13 ∧ j = k) → rd M4 a j = rd M a j) ∧ (rd M4 13 k = h ∧ 94 ≤ h ∧ HS0 M4 h) ∧ (∀ j : Int, (j = 0 ∨ j = 9 ∨ j = 10 ∨ j = 12 ∨ j = 13 ∨ j = 16) → rd M4 h j = rd M 1 j) ∧ (∀ i : Int, 1 ≤ i → i ≤ 11 → ∀ j : Int, 0 ≤ j → j < (shp (1 + i)).2 → rd M4 (h + i) j = rd M (1 + i) j) ∧
  (∀ ob, LwO M ob → ¬ (h ≤ ob ∧ ob < h + 12) ∧ ∀ i : Int, 1 ≤ i → i ≤ 3 → ¬ (h ≤ rd M ob i ∧ rd M ob i < h + 12)) ∧ (∀ k' : Int, (k' = 0 ∨ k' = 1) → k' ≠ k → rd M 13 k' ≠ -1 → h + 12 ≤ rd M 13 k' ∨ rd M 13 k' + 12 ≤ h) ∧ Sh M4 ∧ 94 ≤ mN M
theorem Img.r13 (g : Img k h M M4) {k' : Int} (hk : k' ≠ k) : rd M4 13 k' = rd M 13 k' := g.2.1 13 k' (by have := g.2.2.2.2.2.2.2.2; omega) (by have := g.2.2.1.2.1; omega) (fun z => hk z.2)
theorem Img.lw (g : Img k h M M4) {ob : Int} (w : LwO M ob) : LwO M4 ob := by
  have ld := g.2.2.2.2.2.1 ob w
  have h94 := g.2.2.1.2.1
  obtain ⟨w1, w2, w3, w4⟩ := w
  have nz : ∀ a, ¬ (h ≤ a ∧ a < h + 12) → ¬ inZ M a → ¬ inZ M4 a := fun a a1 a2 z => by
    obtain ⟨k', b1, b2, b3, b4⟩ := z
    by_cases e : k' = k
    · rw [e, g.2.2.1.1] at b3 b4; exact a1 ⟨b3, b4⟩
    · rw [g.r13 e] at b2 b3 b4; exact a2 ⟨k', b1, b2, b3, b4⟩
  have nN := g.1.1
  refine ⟨⟨w1.1, by have := w1.2.1; omega, by rw [g.1.2 ob w1.1 w1.2.1]; exact w1.2.2⟩, w2, nz ob ld.1 w3, fun i i0 i1 => ?_⟩
  rw [g.2.1 ob i w1.2.1 ld.1 (by omega)]
  have := w4 i i0 i1
  exact ⟨this.1, by omega, nz _ (ld.2 i i0 i1) this.2.2⟩
theorem Img.cl (g : Img k h M M4) {ob : Int} {S : LSm} (w : LwO M ob) (c : CLaw M ob S) : CLaw M4 ob S := by
  have ld := g.2.2.2.2.2.1 ob w
  have w4 := w.2.2.2
  exact c.fr g.1.1 g.1.2 (fun j => g.2.1 _ _ w.1.2.1 ld.1 (by have := w.2.1; omega)) (fun j => g.2.1 _ _ (w4 1 (by decide) (by decide)).2.1 (ld.2 1 (by decide) (by decide)) (by have := (w4 1 (by decide) (by decide)).1; omega)) (fun j => g.2.1 _ _ (w4 2 (by decide) (by decide)).2.1 (ld.2 2 (by decide) (by decide)) (by have := (w4 2 (by decide) (by decide)).1; omega)) (fun j => g.2.1 _ _ (w4 3 (by decide) (by decide)).2.1 (ld.2 3 (by decide) (by decide)) (by have := (w4 3 (by decide) (by decide)).1; omega))
theorem Img.hp (g : Img k h M M4) (hk : k = 0 ∨ k = 1) (p : HP M) : HP M4 := by
  have h94 := g.2.2.1.2.1
  have n94 := g.2.2.2.2.2.2.2.2
  have nN := g.1.1
  have r9 : ∀ j, rd M4 9 j = rd M 9 j := fun j => g.2.1 9 j (by omega) (by omega) (by omega)
  refine ⟨fun l l0 l1 => by rw [r9]; exact (p.1 l l0 l1).imp id (fun z => g.lw z), fun k' hk' => ?_, fun a b => ?_⟩
  · by_cases e : k' = k
    · rw [e, g.2.2.1.1]
      refine Or.inr ⟨h94, g.2.2.1.2.2, fun l l0 l1 => ?_⟩
      rw [g.2.2.2.2.1 8 (by decide) (by decide) l l0 (by show l < 6; exact l1)]
      exact (p.1 l l0 l1).imp id (fun z => g.lw z)
    · rw [g.r13 e]
      rcases p.2.1 k' hk' with y | ⟨y1, y2, y3⟩
      · exact Or.inl y
      · have dj := g.2.2.2.2.2.2.1 k' hk' e (by omega)
        have y22 := y2.2.1
        refine Or.inr ⟨y1, ⟨y2.1, by omega, fun i i0 i1 => by rw [g.1.2 _ (by omega) (by omega)]; exact y2.2.2.1 i i0 i1, fun x hx => by rw [g.2.1 _ _ (by omega) (by omega) (by omega)]; exact y2.2.2.2 x hx⟩, fun l l0 l1 => ?_⟩
        rw [g.2.1 _ _ (by omega) (by omega) (by omega)]
        exact (y3 l l0 l1).imp id (fun z => g.lw z)
  · rcases hk with e | e
    · rw [← e, g.2.2.1.1, g.r13 (by omega)]
      rw [g.r13 (by omega)] at b
      exact g.2.2.2.2.2.2.1 1 (Or.inr rfl) (by omega) b
    · rw [← e, g.2.2.1.1, g.r13 (by omega)]
      rw [g.r13 (by omega)] at a
      exact (g.2.2.2.2.2.2.1 0 (Or.inl rfl) (by omega) a).symm
theorem HRg_cpy {M4 : MM} {h h' : Int} (c : ∀ j : Int, (j = 0 ∨ j = 9 ∨ j = 10 ∨ j = 12 ∨ j = 13 ∨ j = 16) → rd M4 h j = rd M h' j) (a : ∀ i : Int, 1 ≤ i → i ≤ 11 → ∀ j : Int, 0 ≤ j → j < (shp (1 + i)).2 → rd M4 (h + i) j = rd M (h' + i) j) (g : HRg M h' r) : HRg M4 h r := by
  have e := fun (i : Int) (n : Int) (w : 1 ≤ i ∧ i ≤ 11) (en : (shp (1 + i)).2 = n) (j : Int) (j0 : 0 ≤ j) (j1 : j < n) => a i w.1 w.2 j j0 (by rw [en]; exact j1)
  obtain ⟨h1, h2, h3, h4, h5, h6, h7, h8, h9, h10, h11, h12⟩ := g
  refine ⟨?_, fun s a b => ?_, fun s a b => ?_, fun s a b => ?_, ?_, ?_, ?_, fun s a b => ?_, ?_, ?_, fun a => ?_, fun s a b => ?_⟩
  · rw [c 0 (by decide)]; exact h1
  · rw [e 1 5 (by decide) rfl s a b, e 2 5 (by decide) rfl s a b, e 3 5 (by decide) rfl s a b]; exact h2 s a b
  · rw [e 4 2 (by decide) rfl s a b, e 5 2 (by decide) rfl s a b, e 6 2 (by decide) rfl s a b]; exact h3 s a b
  · rw [e 7 3 (by decide) rfl s a b]; exact h4 s a b
  · rw [c 9 (by decide)]; exact h5
  · rw [c 10 (by decide)]; exact h6
  · rw [c 12 (by decide)]; exact h7
  · rw [e 9 5 (by decide) rfl s a b]; exact h8 s a b
  · rw [c 16 (by decide)]; exact h9
  · rw [c 13 (by decide)]; exact h10
  · rw [e 10 6 (by decide) rfl 0 (by decide) (by decide)]; exact h11 a
  · rw [e 11 5 (by decide) rfl s a b, e 10 6 (by decide) rfl (s + 1) (by omega) (by omega)]; exact h12 s a b
def up2 {α : Type} (f : Int → α) (k : Int) (v : α) : Int → α := fun x => if x = k then v else f x
theorem up2_eq {α : Type} {f : Int → α} {k : Int} {v : α} : up2 f k v k = v := if_pos rfl
theorem up2_ne {α : Type} {f : Int → α} {k x : Int} {v : α} (h : x ≠ k) : up2 f k v x = f x := if_neg h
theorem Img.ci (g : Img k h M M4) (hk : k = 0 ∨ k = 1) (hC : CI q r sm s tx L ri si M) (h6 : ∀ k' : Int, (k' = 0 ∨ k' = 1) → s (20 + k') = 1 → ri k' 1 ≤ 6) : CI q r sm (upF s (20 + k) 1) tx L (up2 ri k r) (up2 si k sm) M4 := by
  have h94 := g.2.2.1.2.1
  have n94 := g.2.2.2.2.2.2.2.2
  have hp := hC.2.2.2.2.1
  have e : ∀ a j, a < 94 → a ≠ 13 → rd M4 a j = rd M a j := fun a j w w2 => g.2.1 a j (by omega) (by omega) (by omega)
  have hV := hC.1.2.1.1.2.1
  have r16 : r 1 ≤ 6 := by obtain ⟨_, _, _, _, _, _, _, _, _, _, _, x, _⟩ := hV; exact x
  have hlw : ∀ l : Int, 0 ≤ l → l < r 1 → LwO M (rd M 9 l) := fun l l0 l1 => by
    have c := hC.1.2.1.1.2.2 l l0 l1
    rcases hp.1 l l0 (by omega) with y | y
    · have := c.1; omega
    · exact y
  have hO : COK M4 r sm := ⟨hC.1.2.1.1.1.fr (fun a j z => e a j (by unfold KH at z; omega) (by unfold KH at z; omega)), hV, fun l l0 l1 => by
    rw [e 9 l (by decide) (by decide)]
    exact g.cl (hlw l l0 l1) (hC.1.2.1.1.2.2 l l0 l1)⟩
  have hP : PL r sm M4 := PL_hs hC.1 ⟨⟨rfl, rfl, fun _ _ _ => rfl, fun _ => rfl⟩, fun _ _ _ => rfl⟩ (fun a j w _ => e a j (by omega) (by omega)) g.2.2.2.2.2.2.2.1 hO (Or.inr ⟨e 39 4 (by decide) (by decide), rfl, fun _ _ _ => rfl⟩)
  obtain ⟨a1, ⟨b1, b2, b3, b4, b5, b6, b7⟩, c1, d1, e1, f1⟩ := hC
  refine ⟨hP, ⟨fun j => by rw [e 14 j (by decide) (by decide)]; exact b1 j, by rw [e 0 _ (by decide) (by decide), upF_ne (by omega)]; exact b2, by rw [e 0 _ (by decide) (by decide), upF_ne (by omega)]; exact b3, by rw [e 0 _ (by decide) (by decide), upF_ne (by omega)]; exact b4, by rw [e 0 _ (by decide) (by decide), upF_ne (by omega)]; exact b5, fun i i0 i1 => by rw [e 15 _ (by decide) (by decide), upF_ne (by omega)]; exact b6 i i0 i1, by rw [e 20 _ (by decide) (by decide)]; exact b7⟩, by rw [e 32 9 (by decide) (by decide), e 44 9 (by decide) (by decide)]; exact c1, d1.eq (e 59 7 (by decide) (by decide)) (fun a j w => e a j (by omega) (by omega)), g.hp hk hp, fun k' hk' => ?_⟩
  by_cases w : k' = k
  · rw [w, upF_eq, up2_eq, up2_eq, g.2.2.1.1]
    refine Or.inr ⟨rfl, by omega, HRg_cpy g.2.2.2.1 g.2.2.2.2.1 a1.2.1.1.1, fun l l0 l1 => ?_⟩
    rw [g.2.2.2.2.1 8 (by decide) (by decide) l l0 (by show l < 6; omega)]
    exact g.cl (hlw l l0 l1) (a1.2.1.1.2.2 l l0 l1)
  · rw [upF_ne (by omega), up2_ne w, up2_ne w, g.r13 w]
    rcases f1 k' hk' with z | ⟨z1, z2, z3, z4⟩
    · exact Or.inl z
    · have dj := g.2.2.2.2.2.2.1 k' hk' w z2
      rcases hp.2.1 k' hk' with y | ⟨y1, y2, y3⟩
      · exact absurd y z2
      · have y22 := y2.2.1
        refine Or.inr ⟨z1, z2, z3.cp (fun i j i0 i1 => g.2.1 _ _ (by omega) (by omega) (by omega)), fun l l0 l1 => ?_⟩
        rw [g.2.1 _ _ (by omega) (by omega) (by omega)]
        have c := z4 l l0 l1
        have := h6 k' hk' z1
        rcases y3 l l0 (by omega) with x | x
        · have := c.1; omega
        · exact g.cl x c
/-- the model's image -/
theorem im_loop (k0 : 0 ≤ k) (k1 : k ≤ 1) (hd : 2 ≤ d) (h : ∀ M', Sh M' → Fr (fun a j => a = 70 ∧ 5460 * k ≤ j ∧ j < 5460 * k + 5460) M M' → (∀ i : Int, 0 ≤ i → i < 5460 → rd M' 70 (5460 * k + i) = rd M 69 i) → Sh (wr M' 71 k 1) → Q (vI 0) (telM (wr M' 71 k 1) 0)) : ∀ (m : Nat) (x : Int) (M' : MM), (m : Int) = 5460 - x → 0 ≤ x → Sh M' → Fr (fun a j => a = 70 ∧ 5460 * k ≤ j ∧ j < 5460 * k + 5460) M M' → (∀ i : Int, 0 ≤ i → i < x → rd M' 70 (5460 * k + i) = rd M 69 i) → X G Y_X12_image d 0 0 23 [vA 67, vI k, vI x] [] M' Q := by
  intro m
  induction m with
  | zero =>
    intro x M' hm x0 hS f c
    refine B_X12_image_23 hd hS ⟨⟨by omega, by omega⟩, fun _ => ⟨k0, by omega, fun M4 e4 s4 M5 e5 s5 => ?_⟩, fun w => by omega⟩
    subst e4 e5
    exact h M' hS f (fun i i0 i1 => c i i0 (by omega)) s4
  | succ m ih =>
    intro x M' hm x0 hS f c
    refine B_X12_image_23 hd hS ⟨⟨by omega, by omega⟩, fun w => by omega, fun w => ⟨x0, w, by omega, by omega, fun M10 e10 s10 => ?_⟩⟩
    refine ih (x + 1) M10 (by omega) (by omega) s10 (by rw [e10]; exact f.wr ⟨rfl, by omega, by omega⟩) (fun i i0 i1 => ?_)
    rw [e10, rd_wr]
    by_cases y : i = x
    · rw [if_pos ⟨rfl, by rw [y]⟩, y]; exact f.2.2 69 x (by omega)
    · rw [if_neg (by omega)]; exact c i i0 (by omega)
theorem MI.img (hk : k = 0 ∨ k = 1) (hM : MI r sm s tx L ri si M) {M' : MM} (f : Fr (fun a j => a = 70 ∧ 5460 * k ≤ j ∧ j < 5460 * k + 5460) M M') (c : ∀ i : Int, 0 ≤ i → i < 5460 → rd M' 70 (5460 * k + i) = rd M 69 i) (hS : Sh (wr M' 71 k 1)) : MI r sm (upF s (20 + k) 1) tx L (up2 ri k r) (up2 si k sm) (wr M' 71 k 1) := by
  have e : ∀ a j, a ≠ 70 → a ≠ 71 → rd (wr M' 71 k 1) a j = rd M a j := fun a j w w2 => by rw [rd_wr, if_neg (by omega)]; exact f.2.2 a j (by omega)
  obtain ⟨a1, a2, a3, ⟨b1, b2, b3, b4, b5, b6, b7, b8, b9, b10⟩, ⟨c1, c2⟩, ⟨d1, d2, d3⟩, e1, ⟨f1, f2, f3, f4⟩⟩ := hM
  refine ⟨hS, by rw [← a2]; exact funext fun j => e 69 j (by decide) (by decide), a3, ⟨fun j => by rw [e 72 j (by decide) (by decide)]; exact b1 j, ?_, ?_, ?_, ?_, ?_, ?_, ?_, ?_, ?_⟩, ⟨?_, fun k k0 k1 => ?_⟩, ⟨?_, d2, fun i hi => ?_⟩, fun k' hk' => ?_, ⟨f1, by rw [upF_ne (by omega)]; exact f2, f3, fun k' hk' => ?_⟩⟩
  · rw [e _ _ (by decide) (by decide), upF_ne (by omega)]; exact b2
  · rw [e _ _ (by decide) (by decide), upF_ne (by omega)]; exact b3
  · rw [e _ _ (by decide) (by decide), upF_ne (by omega)]; exact b4
  · rw [e _ _ (by decide) (by decide), upF_ne (by omega)]; exact b5
  · rw [e _ _ (by decide) (by decide), upF_ne (by omega)]; exact b6
  · rw [e _ _ (by decide) (by decide), upF_ne (by omega)]; exact b7
  · rw [e _ _ (by decide) (by decide), upF_ne (by omega)]; exact b8
  · rw [e _ _ (by decide) (by decide), upF_ne (by omega)]; exact b9
  · rw [e _ _ (by decide) (by decide), upF_ne (by omega)]; exact b10
  · rw [e _ _ (by decide) (by decide)]; exact c1
  · rw [e _ _ (by decide) (by decide)]; exact c2 k k0 k1
  · rw [e _ _ (by decide) (by decide)]; exact d1
  · rw [e _ _ (by decide) (by decide), e _ _ (by decide) (by decide), e _ _ (by decide) (by decide)]; exact d3 i hi
  · by_cases w : k' = k
    · rw [w, upF_eq, up2_eq, up2_eq]
      refine ⟨by rw [rd_wr, if_pos ⟨rfl, rfl⟩], fun _ => ⟨fun i i0 i1 => ?_, a3.1, a3.2, f1⟩⟩
      rw [rd_wr, if_neg (by omega), c i i0 i1, a2]
    · rw [upF_ne (by omega), up2_ne w, up2_ne w]
      refine ⟨by rw [rd_wr, if_neg (by omega), f.2.2 71 k' (by omega)]; exact (e1 k' hk').1, fun y => ⟨fun i i0 i1 => ?_, ((e1 k' hk').2 y).2⟩⟩
      rw [rd_wr, if_neg (by omega), f.2.2 70 _ (by omega)]
      exact ((e1 k' hk').2 y).1 i i0 i1
  · by_cases w : k' = k
    · rw [w, upF_eq]; exact Or.inr rfl
    · rw [upF_ne (by omega)]; exact f4 k' hk'
theorem HS0_1 (hS : Sh M) : HS0 M 1 := ⟨by decide, by have := hS.1; omega, fun i i0 i1 => hS.2.1 _ (by omega) (by omega), fun p hp => by
  have e : (1, p.1, 1 + p.2) ∈ refL := (by decide : ∀ p ∈ hRf, (1, p.1, 1 + p.2) ∈ refL) p hp
  exact hS.2.2 _ e⟩
theorem Sh_hi (hS : Sh M) {M' : MM} (hN : mN M ≤ mN M') (hT : ∀ b, 0 ≤ b → b < mN M → mT M' b = mT M b) (e : ∀ a j, a < 94 → a ≠ 13 → rd M' a j = rd M a j) : Sh M' := ⟨by have := hS.1; omega, fun a a0 a1 => by rw [hT a a0 (by have := hS.1; omega)]; exact hS.2.1 a a0 a1, fun p hp => by
  rw [e p.1 p.2.1 (refL_lt p hp) ((by decide : ∀ p ∈ refL, p.1 ≠ 13) p hp)]; exact hS.2.2 p hp⟩
end IMG
