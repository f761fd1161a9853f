/-! ===== changes of the row ===== -/
def cor (c i k : Int) : Prop := (c = 1 ∧ i = 0 ∧ k = 0) ∨ (c = 2 ∧ 0 ≤ i ∧ i < 5 ∧ k = 10 + 3 * i) ∨ (c = 3 ∧ 0 ≤ i ∧ i < 5 ∧ k = 11 + 3 * i) ∨ (c = 4 ∧ 0 ≤ i ∧ i < 5 ∧ k = 12 + 3 * i) ∨ (c = 5 ∧ 0 ≤ i ∧ i < 2 ∧ k = 30 + 3 * i) ∨ (c = 6 ∧ 0 ≤ i ∧ i < 2 ∧ k = 31 + 3 * i) ∨ (c = 7 ∧ 0 ≤ i ∧ i < 2 ∧ k = 32 + 3 * i) ∨ (c = 8 ∧ 0 ≤ i ∧ i < 3 ∧ k = 40 + i) ∨ (c = 1 ∧ i = 9 ∧ k = 1) ∨ (c = 1 ∧ i = 10 ∧ k = 2) ∨ (c = 1 ∧ i = 12 ∧ k = 3) ∨ (c = 10 ∧ 0 ≤ i ∧ i < 5 ∧ k = 45 + i) ∨ (c = 1 ∧ i = 16 ∧ k = 4) ∨ (c = 12 ∧ 0 ≤ i ∧ i < 5 ∧ k = 50 + i) ∨ (c = 11 ∧ 1 ≤ i ∧ i < 6 ∧ k = 54 + i)
theorem upF_ne {f : Int → Int} {i v j : Int} (h : j ≠ i) : upF f i v j = f j := by unfold upF; rw [if_neg h]
theorem upF_eq {f : Int → Int} {i v : Int} : upF f i v i = v := by unfold upF; rw [if_pos rfl]
section UP
variable {M : MM} {r : Int → Int} {sm : Int → LSm}
theorem HR_wr {c i k v : Int} (h : HR M r) (hc : cor c i k) : HR (wr M c i v) (upF r k v) := by
  have key : ∀ c' j k', ((c' = c ∧ j = i) ↔ k' = k) → rd M c' j = r k' → rd (wr M c i v) c' j = upF r k v k' := by
    intro c' j k' e g
    rw [rd_wr]; unfold upF
    by_cases w : k' = k
    · rw [if_pos (e.mpr w), if_pos w]
    · rw [if_neg (fun z => w (e.mp z)), if_neg w]; exact g
  obtain ⟨h1, h2, h3, h4, h5, h6, h7, h8, h9, h10, h11, h12⟩ := h
  have k5 : upF r k v 5 = r 5 := upF_ne (by unfold cor at hc; omega)
  have r13 : rd (wr M c i v) 1 13 = rd M 1 13 := by rw [rd_wr, if_neg (by unfold cor at hc; omega)]
  have r11 : rd (wr M c i v) 11 0 = rd M 11 0 := by rw [rd_wr, if_neg (by unfold cor at hc; omega)]
  have g10 : rd (wr M c i v) 1 13 = (if upF r k v 5 = -1 then 0 else 1) := by rw [r13, k5]; exact h10
  have g11 : upF r k v 5 ≠ -1 → rd (wr M c i v) 11 0 = upF r k v 5 := by rw [r11, k5]; exact h11
  clear h10 h11 k5 r13 r11
  rcases hc with ⟨rfl, rfl, rfl⟩ | ⟨rfl, i0, i1, rfl⟩ | ⟨rfl, i0, i1, rfl⟩ | ⟨rfl, i0, i1, rfl⟩ | ⟨rfl, i0, i1, rfl⟩ | ⟨rfl, i0, i1, rfl⟩ | ⟨rfl, i0, i1, rfl⟩ | ⟨rfl, i0, i1, rfl⟩ | ⟨rfl, rfl, rfl⟩ | ⟨rfl, rfl, rfl⟩ | ⟨rfl, rfl, rfl⟩ | ⟨rfl, i0, i1, rfl⟩ | ⟨rfl, rfl, rfl⟩ | ⟨rfl, i0, i1, rfl⟩ | ⟨rfl, i0, i1, rfl⟩
  all_goals exact ⟨key _ _ _ (by omega) h1, fun s a b => ⟨key _ _ _ (by omega) (h2 s a b).1, key _ _ _ (by omega) (h2 s a b).2.1, key _ _ _ (by omega) (h2 s a b).2.2⟩, fun s a b => ⟨key _ _ _ (by omega) (h3 s a b).1, key _ _ _ (by omega) (h3 s a b).2.1, key _ _ _ (by omega) (h3 s a b).2.2⟩, fun s a b => key _ _ _ (by omega) (h4 s a b), key _ _ _ (by omega) h5, key _ _ _ (by omega) h6, key _ _ _ (by omega) h7, fun s a b => key _ _ _ (by omega) (h8 s a b), key _ _ _ (by omega) h9, g10, g11, fun s a b => ⟨key _ _ _ (by omega) (h12 s a b).1, key _ _ _ (by omega) (h12 s a b).2⟩⟩
/-- cells of the heap's own part that the house does not have -/
theorem MLaw.cg {r' : Int → Int} {l : Int} {L : LSm} (h : MLaw r l L) (e : ∀ j, 60 + 900 * l ≤ j → j < 960 + 900 * l → r' j = r j) : MLaw r' l L := by
  obtain ⟨h1, h2, h3, h4⟩ := h
  refine ⟨by rw [e _ (by omega) (by omega)]; exact h1, h2, h3, fun c c0 c1 => ?_⟩
  obtain ⟨a1, a2, ⟨b1, b2, b3, b4⟩, ⟨d1, d2, d3, d4⟩⟩ := h4 c c0 c1
  rw [e (60 + 900 * l + 2 + 8 * c) (by omega) (by omega), e (60 + 900 * l + 2 + 8 * c + 3) (by omega) (by omega), e (60 + 900 * l + 2 + 8 * c + 4) (by omega) (by omega), e (60 + 900 * l + 2 + 8 * c + 5) (by omega) (by omega), e (60 + 900 * l + 2 + 8 * c + 6) (by omega) (by omega)]
  refine ⟨a1, a2, ⟨b1, b2, b3, b4.cg (fun k k0 k1 => ⟨e _ (by omega) (by omega), e _ (by omega) (by omega)⟩)⟩, ⟨d1, d2, d3, ?_⟩⟩
  rcases d4 with w | ⟨w, w2⟩
  · exact Or.inl w
  · exact Or.inr ⟨w, w2.cg (fun k k0 k1 => ⟨e _ (by omega) (by omega), e _ (by omega) (by omega)⟩)⟩
theorem MLaws.up {k v : Int} (h : MLaws r sm) (hk : k < 60) (h1 : k ≠ 1) : MLaws (upF r k v) sm := fun l l0 l1 => by
  rw [upF_ne (by omega)] at l1
  exact (h l l0 l1).cg (fun j j0 j1 => upF_ne (by omega))
theorem Z0.up {k v : Int} (h : Z0 r) (h0 : 0 ≤ k) (h1 : k < 5460) : Z0 (upF r k v) := fun j hj => by rw [upF_ne (by omega)]; exact h j hj
theorem RS.up {k v : Int} (h : RS r) (c0 : k = 0 → r 0 ≤ v ∧ v ≤ 5)
    (c1 : ∀ s : Int, 0 ≤ s → s < 5 → (k = 10 + 3 * s → 0 ≤ v ∧ v ≤ 60) ∧ (k = 11 + 3 * s → 0 ≤ v ∧ v ≤ 31) ∧ (k = 12 + 3 * s → 0 ≤ v ∧ v ≤ 1))
    (c2 : ∀ s : Int, 0 ≤ s → s < 2 → (k = 30 + 3 * s → 0 ≤ v ∧ v ≤ 5) ∧ (k = 31 + 3 * s → 0 ≤ v ∧ v ≤ 9) ∧ (k = 32 + 3 * s → 0 ≤ v ∧ v ≤ 5))
    (c3 : (k = 40 → 0 ≤ v ∧ v ≤ 9) ∧ (k = 41 → 0 ≤ v ∧ v ≤ 99) ∧ (k = 42 → 0 ≤ v ∧ v ≤ 300)) (c6 : k = 1 → r 1 ≤ v ∧ v ≤ 6) (c7 : k = 2 → -1 ≤ v ∧ v < r 1)
    (c4 : (∀ s : Int, 0 ≤ s → s < r 3 → k ≠ 45 + s) ∧ (k = 3 → 0 ≤ v ∧ v ≤ 5 ∧ (∀ s : Int, 0 ≤ s → s < v → 0 ≤ r (45 + s) ∧ r (45 + s) < r 0) ∧ ∀ s q : Int, 0 ≤ s → s < q → q < v → r (45 + s) ≠ r (45 + q)))
    (c5 : (∀ s : Int, 0 ≤ s → s < r 4 → k ≠ 50 + s ∧ k ≠ 55 + s) ∧ (k = 5 → r 4 = 0 ∧ -1 ≤ v ∧ v ≤ 10) ∧ (k = 4 → 0 ≤ v ∧ v ≤ 5 ∧ (r 5 = -1 → v = 0) ∧ (∀ s : Int, 0 ≤ s → s < v → 0 ≤ r (50 + s) ∧ r (50 + s) < r 0 ∧ 0 ≤ r (55 + s) ∧ r (55 + s) ≤ 10) ∧ ∀ s q : Int, 0 ≤ s → s < q → q < v → r (50 + s) ≠ r (50 + q))) : RS (upF r k v) := by
  obtain ⟨a1, a2, a3, a4, a5, a6, a7, a8, a9, a10, a11, a12, a13, a14, a15, a16, a17, a18, a19, a20, a21, a22, a23, a24, a25⟩ := h
  have e : ∀ j, j ≠ k → upF r k v j = r j := fun j w => upF_ne w
  have ek : upF r k v k = v := upF_eq
  have es : ∀ j, (j = k ∧ upF r k v j = v) ∨ (j ≠ k ∧ upF r k v j = r j) := fun j => by
    by_cases w : j = k
    · exact Or.inl ⟨w, by rw [w]; exact ek⟩
    · exact Or.inr ⟨w, e j w⟩
  have u0 := es 0
  have u1 := es 1
  have u2 := es 2
  have u40 := es 40
  have u41 := es 41
  have u42 := es 42
  have r0 : r 0 ≤ upF r k v 0 := by omega
  refine ⟨by omega, by omega, fun s s0 s1 => ?_, fun s s0 s1 => ?_, by omega, by omega, by omega, by omega, by omega, by omega, by omega, by omega, by omega, by omega, ?_, ?_, fun s s0 s1 => ?_, fun s q s0 s1 s2 => ?_, ?_, ?_, ?_, ?_, fun w => ?_, fun s s0 s1 => ?_, fun s q s0 s1 s2 => ?_⟩
  · have x1 := es (10 + 3 * s)
    have x2 := es (11 + 3 * s)
    have x3 := es (12 + 3 * s)
    have := c1 s s0 s1
    have := a3 s s0 s1
    clear u0 u1 u2 u40 u41 u42
    refine ⟨by omega, by omega, by omega, by omega, by omega, by omega⟩
  · have x1 := es (30 + 3 * s)
    have x2 := es (31 + 3 * s)
    have x3 := es (32 + 3 * s)
    have := c2 s s0 s1
    have := a4 s s0 s1
    clear u0 u1 u2 u40 u41 u42
    refine ⟨by omega, by omega, by omega, by omega, by omega, by omega⟩
  · rcases es 3 with ⟨w, w2⟩ | ⟨w, w2⟩
    · rw [w2]; exact (c4.2 w.symm).1
    · rw [w2]; exact a15
  · rcases es 3 with ⟨w, w2⟩ | ⟨w, w2⟩
    · rw [w2]; exact (c4.2 w.symm).2.1
    · rw [w2]; exact a16
  · clear u0 u1 u2 u40 u41 u42
    rcases es 3 with ⟨w, w2⟩ | ⟨w, w2⟩
    · rw [w2] at s1
      have := (c4.2 w.symm).2.2.1 s s0 s1
      rw [e _ (by omega)]; omega
    · rw [w2] at s1
      have := a17 s s0 s1
      rw [e _ (fun z => c4.1 s s0 s1 z.symm)]; omega
  · clear u0 u1 u2 u40 u41 u42
    rcases es 3 with ⟨w, w2⟩ | ⟨w, w2⟩
    · rw [w2] at s2
      rw [e _ (by omega), e _ (by omega)]
      exact (c4.2 w.symm).2.2.2 s q s0 s1 s2
    · rw [w2] at s2
      rw [e _ (fun z => c4.1 s s0 (by omega) z.symm), e _ (fun z => c4.1 q (by omega) s2 z.symm)]
      exact a18 s q s0 s1 s2
  · rcases es 4 with ⟨w, w2⟩ | ⟨w, w2⟩
    · rw [w2]; exact (c5.2.2 w.symm).1
    · rw [w2]; exact a19
  · rcases es 4 with ⟨w, w2⟩ | ⟨w, w2⟩
    · rw [w2]; exact (c5.2.2 w.symm).2.1
    · rw [w2]; exact a20
  · rcases es 5 with ⟨w, w2⟩ | ⟨w, w2⟩
    · rw [w2]; exact (c5.2.1 w.symm).2.1
    · rw [w2]; exact a21
  · rcases es 5 with ⟨w, w2⟩ | ⟨w, w2⟩
    · rw [w2]; exact (c5.2.1 w.symm).2.2
    · rw [w2]; exact a22
  · rcases es 5 with ⟨z, z2⟩ | ⟨z, z2⟩
    · rw [e 4 (by omega)]; exact (c5.2.1 z.symm).1
    · rw [z2] at w
      rcases es 4 with ⟨y, y2⟩ | ⟨y, y2⟩
      · rw [y2]; exact (c5.2.2 y.symm).2.2.1 w
      · rw [y2]; exact a23 w
  · clear u0 u1 u2 u40 u41 u42
    rcases es 4 with ⟨w, w2⟩ | ⟨w, w2⟩
    · rw [w2] at s1
      have := (c5.2.2 w.symm).2.2.2.1 s s0 s1
      rw [e (50 + s) (by omega), e (55 + s) (by omega)]
      refine ⟨by omega, by omega, by omega, by omega⟩
    · rw [w2] at s1
      have := a24 s s0 s1
      have z := c5.1 s s0 s1
      rw [e (50 + s) (fun y => z.1 y.symm), e (55 + s) (fun y => z.2 y.symm)]
      refine ⟨by omega, by omega, by omega, by omega⟩
  · clear u0 u1 u2 u40 u41 u42
    rcases es 4 with ⟨w, w2⟩ | ⟨w, w2⟩
    · rw [w2] at s2
      rw [e _ (by omega), e _ (by omega)]
      exact (c5.2.2 w.symm).2.2.2.2 s q s0 s1 s2
    · rw [w2] at s2
      rw [e _ (fun z => (c5.1 s s0 (by omega)).1 z.symm), e _ (fun z => (c5.1 q (by omega) s2).1 z.symm)]
      exact a25 s q s0 s1 s2
end UP
/-! ===== the ends of a pair of calls ===== -/
def KMd (a _j : Int) : Prop := 67 ≤ a ∧ a ≤ 93
/-- the model's call behind the class's -/
def CM (G : GG) (zm : YY) (d : Nat) (as : List PV) (M1 : MM) (Q : PV → MM → Prop) : Prop := okO M1 67 11 ∧ C G zm d 0 0 as M1 Q
theorem CM.of {G : GG} {zm : YY} {d : Nat} {as : List PV} {M1 : MM} {Q : PV → MM → Prop} (hS : Sh M1) (h : C G zm d 0 0 as M1 Q) : CM G zm d as M1 Q := ⟨⟨by decide, by have := hS.1; omega, by rw [hS.2.1 67 (by decide) (by decide)]; rfl⟩, h⟩
/-- the same call of the class and of the model -/
def PR (G : GG) (d k n : Nat) (zc zm : YY) (as : List PV) (q : Int) (M : MM) : Prop := C G zc d k n (vA 0 :: as) M (rI (fun v M1 => CM G zm d (vA 67 :: as) M1 (rI (fun v' M2 => v' = v ∧ INV (q + 1) M2))))
section EN
variable {M M1 M2 : MM} {r : Int → Int} {sm : Int → LSm} {s tx : Int → Int} {L : List (Int × Int × Int)} {ri : Int → Int → Int} {si : Int → Int → LSm} {q : Int}
theorem INV.mk' {K : Int → Int → Prop} (hC : CI q r sm s tx L ri si M1) (hM : MI r sm s tx L ri si M2) (f : Fr K M1 M2) (hK : ∀ a j, K a j → 67 ≤ a ∧ a ≤ 93) : INV q M2 := ⟨r, sm, s, tx, L, ri, si, hC.mdl f hK hM.1, hM⟩
theorem Fr.tel {K : Int → Int → Prop} {v : Int} (f : Fr K M1 M2) (h1 : K 67 1) (h2 : ∀ j, K 68 j) : Fr K M1 (telM M2 v) := by
  unfold telM
  split
  · exact f.wr h1
  · exact (f.wr h1).wr (h2 _)
theorem Fr.was {K : Int → Int → Prop} (f : Fr K M1 M2) (h1 : K 67 1) : Fr K M1 (wasM M2) := f.wr h1
theorem MI.fc {K : Int → Int → Prop} (h : MI r sm s tx L ri si M1) (f : Fr K M1 M2) (hK : ∀ a j, K a j → a < 67) (hS : Sh M2) : MI r sm s tx L ri si M2 := h.cls hS (fun a j a0 _ => f.2.2 a j (fun z => by have := hK a j z; omega))
theorem rfP_ok {c : Int} (hc : c = -1 ∨ c = -2 ∨ c = -3 ∨ c = -5 ∨ c = -6) : 0 ≤ rfP c ∧ rfP c < 5 := by unfold rfP; split <;> omega
/-- refused by both -/
theorem fin_ref {c : Int} (hC : CI q r sm s tx L ri si M) (hM : MI r sm s tx L ri si M) (hc : c = -1 ∨ c = -2 ∨ c = -3 ∨ c = -5 ∨ c = -6) : INV (q + 1) (telM (wr (refM M c) 67 0 0) c) := by
  have f : Fr (fun a _ => a < 67) M (refM M c) := (Fr.rf.wr (by decide)).wr (by decide)
  have m1 := ((hM.fc f (fun a j z => z) (sRef hM.1)).thr (v := 0)).telR hc
  exact INV.mk' ((hC.ref (rfP_ok hc)).up (by omega)) m1 ((Fr.rf.wr (K := KMd) ⟨by decide, by decide⟩).tel ⟨by decide, by decide⟩ (fun _ => ⟨by decide, by decide⟩)) (fun a j z => z)
/-- nothing is changed -/
theorem fin_thr (hC : CI q r sm s tx L ri si M) (hM : MI r sm s tx L ri si M) : INV (q + 1) (wr M 67 0 0) := INV.mk' (hC.up (by omega)) hM.thr (Fr.rf.wr (K := KMd) ⟨by decide, by decide⟩) (fun a j z => z)
end EN
