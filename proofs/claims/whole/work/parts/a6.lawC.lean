/-! ===== law: the class ===== -/
/-- the memory has grown -/
def Gr (M M' : MM) : Prop := mN M ≤ mN M' ∧ (∀ b, 0 ≤ b → b < mN M → mT M' b = mT M b) ∧ ∀ a j, (a = 13 ∨ (94 ≤ a ∧ a < mN M)) → rd M' a j = rd M a j
section GC
variable {M M' : MM} {r r' : Int → Int} {sm sm' : Int → LSm} {s s' tx : Int → Int} {L : List (Int × Int × Int)} {ri : Int → Int → Int} {si : Int → Int → LSm} {q : Int}
theorem inZ.gr (h : Gr M M') {a : Int} : inZ M' a ↔ inZ M a := by
  unfold inZ
  constructor
  · rintro ⟨k, a1, a2, a3, a4⟩
    have e := h.2.2 13 k (Or.inl rfl)
    exact ⟨k, a1, by rw [← e]; exact a2, by rw [← e]; exact a3, by rw [← e]; exact a4⟩
  · rintro ⟨k, a1, a2, a3, a4⟩
    have e := h.2.2 13 k (Or.inl rfl)
    exact ⟨k, a1, by rw [e]; exact a2, by rw [e]; exact a3, by rw [e]; exact a4⟩
theorem LwO.gr (h : Gr M M') {ob : Int} (g : LwO M ob) : LwO M' ob := by
  obtain ⟨g1, g2, g3, g4⟩ := g
  have hb := g1.2.1
  have hN := h.1
  refine ⟨g1.tr hN (fun b b0 b1 => h.2.1 b b0 b1), g2, fun w => g3 ((inZ.gr h).mp w), fun i i0 i1 => ?_⟩
  rw [h.2.2 ob i (Or.inr ⟨g2, hb⟩)]
  have := g4 i i0 i1
  exact ⟨this.1, by omega, fun w => this.2.2 ((inZ.gr h).mp w)⟩
theorem HS0.gr (h : Gr M M') {a : Int} (ha : 94 ≤ a) (g : HS0 M a) : HS0 M' a := by
  have hN := h.1
  have hb := g.2.1
  exact ⟨g.1, by omega, fun i i0 i1 => by rw [h.2.1 _ (by omega) (by omega)]; exact g.2.2.1 i i0 i1, fun p hp => by rw [h.2.2 a _ (Or.inr ⟨ha, by omega⟩)]; exact g.2.2.2 p hp⟩
theorem CLaw.gr (h : Gr M M') {ob : Int} {L : LSm} (g : CLaw M ob L) (l : LwO M ob) : CLaw M' ob L := by
  have hb := l.1.2.1
  have l1 := l.2.2.2 1 (by decide) (by decide)
  have l2 := l.2.2.2 2 (by decide) (by decide)
  have l3 := l.2.2.2 3 (by decide) (by decide)
  exact g.fr h.1 (fun b b0 b1 => h.2.1 b b0 b1) (fun j => h.2.2 _ _ (Or.inr ⟨l.2.1, hb⟩)) (fun j => h.2.2 _ _ (Or.inr ⟨l1.1, l1.2.1⟩)) (fun j => h.2.2 _ _ (Or.inr ⟨l2.1, l2.2.1⟩)) (fun j => h.2.2 _ _ (Or.inr ⟨l3.1, l3.2.1⟩))
/-- an image's part of the heap -/
theorem HPi.gr (h : Gr M M') (hp : HP M) : (∀ k : Int, (k = 0 ∨ k = 1) → rd M' 13 k = -1 ∨ (94 ≤ rd M' 13 k ∧ HS0 M' (rd M' 13 k) ∧ AllL M' (rd M' 13 k + 8))) ∧ (rd M' 13 0 ≠ -1 → rd M' 13 1 ≠ -1 → rd M' 13 0 + 12 ≤ rd M' 13 1 ∨ rd M' 13 1 + 12 ≤ rd M' 13 0) := by
  refine ⟨fun k hk => ?_, fun a b => ?_⟩
  · rw [h.2.2 13 k (Or.inl rfl)]
    rcases hp.2.1 k hk with w | ⟨w1, w2, w3⟩
    · exact Or.inl w
    · have hb := w2.2.1
      refine Or.inr ⟨w1, w2.gr h w1, fun q q0 q1 => ?_⟩
      rw [h.2.2 _ q (Or.inr ⟨by omega, by omega⟩)]
      exact (w3 q q0 q1).imp id (fun z => z.gr h)
  · rw [h.2.2 13 0 (Or.inl rfl)] at a ⊢
    rw [h.2.2 13 1 (Or.inl rfl)] at b ⊢
    exact hp.2.2 a b
theorem IM.gr (h : Gr M M') (hp : HP M) (g : IM s ri si M) (hr : ∀ k : Int, (k = 0 ∨ k = 1) → s (20 + k) = 1 → ri k 1 ≤ 6) (es : ∀ k : Int, (k = 0 ∨ k = 1) → s' (20 + k) = s (20 + k)) : IM s' ri si M' := fun k hk => by
  rw [es k hk, h.2.2 13 k (Or.inl rfl)]
  rcases g k hk with w | ⟨w1, w2, w3, w4⟩
  · exact Or.inl w
  · have h6 := hr k hk w1
    obtain ⟨h94, hs0, hal⟩ : 94 ≤ rd M 13 k ∧ HS0 M (rd M 13 k) ∧ AllL M (rd M 13 k + 8) := by
      rcases hp.2.1 k hk with z | z
      · exact absurd z w2
      · exact z
    have hb := hs0.2.1
    refine Or.inr ⟨w1, w2, w3.cp (fun i j i0 i1 => h.2.2 _ _ (Or.inr ⟨by omega, by omega⟩)), fun l l0 l1 => ?_⟩
    rw [h.2.2 _ l (Or.inr ⟨by omega, by omega⟩)]
    have hc := w4 l l0 l1
    rcases hal l l0 (by omega) with z | z
    · have := hc.1; omega
    · exact hc.gr h z
theorem HR_9 {i v : Int} (h : HR M r) : HR (wr M 9 i v) r := by
  have e : ∀ a j, a ≠ 9 → rd (wr M 9 i v) a j = rd M a j := fun a j w => by rw [rd_wr, if_neg (fun z => w z.1)]
  obtain ⟨h1, h2, h3, h4, h5, h6, h7, h8, h9, h10, h11, h12⟩ := h
  refine ⟨?_, fun s a b => ?_, fun s a b => ?_, fun s a b => ?_, ?_, ?_, ?_, fun s a b => ?_, ?_, ?_, fun a => ?_, fun s a b => ?_⟩
  · rw [e _ _ (by decide)]; exact h1
  · rw [e _ _ (by decide), e _ _ (by decide), e _ _ (by decide)]; exact h2 s a b
  · rw [e _ _ (by decide), e _ _ (by decide), e _ _ (by decide)]; exact h3 s a b
  · rw [e _ _ (by decide)]; exact h4 s a b
  · rw [e _ _ (by decide)]; exact h5
  · rw [e _ _ (by decide)]; exact h6
  · rw [e _ _ (by decide)]; exact h7
  · rw [e _ _ (by decide)]; exact h8 s a b
  · rw [e _ _ (by decide)]; exact h9
  · rw [e _ _ (by decide)]; exact h10
  · rw [e _ _ (by decide)]; exact h11 a
  · rw [e _ _ (by decide), e _ _ (by decide)]; exact h12 s a b
theorem HRg_cg {h : Int} (g : HRg M h r) (e : ∀ j : Int, 0 ≤ j → j < 60 → r' j = r j) : HRg M h r' := by
  obtain ⟨h1, h2, h3, h4, h5, h6, h7, h8, h9, h10, h11, h12⟩ := g
  refine ⟨?_, fun s a b => ?_, fun s a b => ?_, fun s a b => ?_, ?_, ?_, ?_, fun s a b => ?_, ?_, ?_, fun a => ?_, fun s a b => ?_⟩
  · rw [e _ (by decide) (by decide)]; exact h1
  · rw [e _ (by omega) (by omega), e _ (by omega) (by omega), e _ (by omega) (by omega)]; exact h2 s a b
  · rw [e _ (by omega) (by omega), e _ (by omega) (by omega), e _ (by omega) (by omega)]; exact h3 s a b
  · rw [e _ (by omega) (by omega)]; exact h4 s a b
  · rw [e _ (by decide) (by decide)]; exact h5
  · rw [e _ (by decide) (by decide)]; exact h6
  · rw [e _ (by decide) (by decide)]; exact h7
  · rw [e _ (by omega) (by omega)]; exact h8 s a b
  · rw [e _ (by decide) (by decide)]; exact h9
  · rw [e _ (by decide) (by decide)]; exact h10
  · rw [e _ (by decide) (by decide)] at a ⊢; exact h11 a
  · rw [e _ (by omega) (by omega), e _ (by omega) (by omega)]; exact h12 s a b
theorem Sh.gw {kd : Nat} {n : Int} {f : Int → Int} (h : Sh M) (g : Gw M M' kd n f) : Sh M' := by
  have h94 := h.1
  exact ⟨by rw [g.1]; omega, fun a a0 a1 => by rw [g.2.1, if_neg (by omega)]; exact h.2.1 a a0 a1, fun p hp => by have := refL_lt p hp; rw [g.2.2.2 _ (by omega)]; exact h.2.2 p hp⟩
end GC
section LC
variable {G : GG} {d : Nat} {M : MM} {Q : PV → MM → Prop}
theorem T_X5_init {ob nc sz : Int} (hS : Sh M) (ho : okO M ob 4) (h94 : 94 ≤ ob) (e4 : rd M 16 4 = nc) (e8 : rd M 16 8 = sz) (hn : 0 ≤ nc ∧ nc ≤ 12) (hz : 0 ≤ sz ∧ sz ≤ 400) (hd : 4 ≤ d)
    (h : ∀ M', Sh M' → mN M' = mN M + 3 → (∀ b, b < mN M → mT M' b = mT M b) → (mT M' (mN M) = (20, nc) ∧ mT M' (mN M + 1) = (20, nc + 1) ∧ mT M' (mN M + 2) = (20, sz)) → (rd M' ob 0 = nc ∧ rd M' ob 1 = mN M ∧ rd M' ob 2 = mN M + 1 ∧ rd M' ob 3 = mN M + 2) → (∀ j, 0 ≤ j → j < nc → rd M' (mN M) j = rd M 19 j) → (∀ j, 0 ≤ j → j < nc + 1 → rd M' (mN M + 1) j = rd M 20 j) → (∀ j, 0 ≤ j → j < sz → rd M' (mN M + 2) j = rd M 21 j) → (∀ a, a < mN M → a ≠ ob → ∀ j, rd M' a j = rd M a j) → Q vU M') : C G Y_X5_init d 3 1200 [vA ob, vA 16] M Q := by
  have hN := hS.1
  have hob := ho.2.1
  refine C_X5_init (B_X5_init_0 (by omega) ⟨ho.1, sO_16 hS, ho, fun M4 g4 => ?_⟩)
  have s4 : Sh M4 := by rw [g4]; exact hS.hi h94
  have n4 : mN M4 = mN M := by rw [g4, mN_wr]
  have t4 : ∀ b, mT M4 b = mT M b := fun b => by rw [g4, mT_wr]
  have q4 : ∀ a j, a ≠ ob → rd M4 a j = rd M a j := fun a j w => by rw [g4, rd_wr, if_neg (fun z => w z.1)]
  refine ⟨sO_16 s4, ?_⟩
  rw [sR_16_5 s4, q4 16 4 (by omega), e4]
  refine T_copyOf (N := nc.toNat) (sO_19 s4) (by omega) (by rw [sL_19 s4]; omega) (by rw [sL_19 s4]; decide) (by omega) (by omega) (by omega) (fun M6 g6 => ?_)
  have s6 := s4.gw g6
  have n6 : mN M6 = mN M + 1 := by rw [g6.1, n4]
  have ok6 : okO M6 ob 4 := ⟨ho.1, by omega, by rw [g6.2.1, if_neg (by omega), t4]; exact ho.2.2⟩
  refine ⟨ok6, fun M9 g9 => ?_⟩
  have s9 : Sh M9 := by rw [g9]; exact s6.hi h94
  have n9 : mN M9 = mN M + 1 := by rw [g9, mN_wr]; exact n6
  have q9 : ∀ a j, a ≠ ob → a ≠ mN M → rd M9 a j = rd M a j := fun a j w w2 => by rw [g9, rd_wr, if_neg (fun z => w z.1), g6.2.2.2 a (by omega), q4 a j w]
  refine ⟨sO_16 s9, ?_⟩
  rw [sR_16_6 s9, q9 16 4 (by omega) (by omega), e4]
  refine T_copyOf (N := (nc + 1).toNat) (sO_20 s9) (by omega) (by rw [sL_20 s9]; omega) (by rw [sL_20 s9]; decide) (by omega) (by omega) (by omega) (fun M11 g11 => ?_)
  have s11 := s9.gw g11
  have n11 : mN M11 = mN M + 2 := by rw [g11.1, n9]; omega
  have ok11 : okO M11 ob 4 := ⟨ho.1, by omega, by rw [g11.2.1, if_neg (by omega), g9, mT_wr]; exact ok6.2.2⟩
  refine ⟨ok11, fun M14 g14 => ?_⟩
  have s14 : Sh M14 := by rw [g14]; exact s11.hi h94
  have n14 : mN M14 = mN M + 2 := by rw [g14, mN_wr]; exact n11
  have q14 : ∀ a j, a ≠ ob → a ≠ mN M → a ≠ mN M + 1 → rd M14 a j = rd M a j := fun a j w w2 w3 => by rw [g14, rd_wr, if_neg (fun z => w z.1), g11.2.2.2 a (by omega), q9 a j w w2]
  refine ⟨sO_16 s14, ?_⟩
  rw [sR_16_7 s14, q14 16 8 (by omega) (by omega) (by omega), e8]
  refine T_copyOf (N := sz.toNat) (sO_21 s14) (by omega) (by rw [sL_21 s14]; omega) (by rw [sL_21 s14]; decide) (by omega) (by omega) (by omega) (fun M16 g16 => ?_)
  have s16 := s14.gw g16
  have n16 : mN M16 = mN M + 3 := by rw [g16.1, n14]; omega
  have ok16 : okO M16 ob 4 := ⟨ho.1, by omega, by rw [g16.2.1, if_neg (by omega), g14, mT_wr]; exact ok11.2.2⟩
  refine ⟨ok16, fun M19 g19 => ?_⟩
  have s19 : Sh M19 := by rw [g19]; exact s16.hi h94
  have T : ∀ b, mT M19 b = if b = mN M14 then (20, sz) else if b = mN M9 then (20, nc + 1) else if b = mN M4 then (20, nc) else mT M b := fun b => by
    rw [g19, mT_wr, g16.2.1, g14, mT_wr, g11.2.1, g9, mT_wr, g6.2.1, t4]
  refine h M19 s19 (by rw [g19, mN_wr]; exact n16) (fun b hb => by rw [T, if_neg (by omega), if_neg (by omega), if_neg (by omega)]) ⟨by rw [T, if_neg (by omega), if_neg (by omega), if_pos n4.symm], by rw [T, if_neg (by omega), if_pos n9.symm], by rw [T, if_pos n14.symm]⟩ ⟨?_, ?_, ?_, ?_⟩ (fun j j0 j1 => ?_) (fun j j0 j1 => ?_) (fun j j0 j1 => ?_) (fun a ha hne j => ?_)
  · rw [g19, rd_wr, if_neg (by omega), g16.2.2.2 ob (by omega), g14, rd_wr, if_neg (by omega), g11.2.2.2 ob (by omega), g9, rd_wr, if_neg (by omega), g6.2.2.2 ob (by omega), g4, rd_wr, if_pos ⟨rfl, rfl⟩]; exact e4
  · rw [g19, rd_wr, if_neg (by omega), g16.2.2.2 ob (by omega), g14, rd_wr, if_neg (by omega), g11.2.2.2 ob (by omega), g9, rd_wr, if_pos ⟨rfl, rfl⟩]; exact n4
  · rw [g19, rd_wr, if_neg (by omega), g16.2.2.2 ob (by omega), g14, rd_wr, if_pos ⟨rfl, rfl⟩]; exact n9
  · rw [g19, rd_wr, if_pos ⟨rfl, rfl⟩]; exact n14
  · rw [g19, rd_wr, if_neg (by omega), g16.2.2.2 _ (by omega), g14, rd_wr, if_neg (by omega), g11.2.2.2 _ (by omega), g9, rd_wr, if_neg (by omega), ← n4, g6.2.2.1 j j0 j1, q4 19 j (by omega)]
  · rw [g19, rd_wr, if_neg (by omega), g16.2.2.2 _ (by omega), g14, rd_wr, if_neg (by omega), ← n9, g11.2.2.1 j j0 j1, q9 20 j (by omega) (by omega)]
  · rw [g19, rd_wr, if_neg (by omega), ← n14, g16.2.2.1 j j0 j1, q14 21 j (by omega) (by omega) (by omega)]
  · rw [g19, rd_wr, if_neg (by omega), g16.2.2.2 a (by omega)]
    exact q14 a j hne (by omega) (by omega)
theorem claw_of {cs : List Cls} {M M' : MM} {ob a1 a2 a3 sz : Int} (hb : 94 ≤ ob) (ho : okO M' ob 4) (hl : cs.length ≤ 12) (hc : CRds M cs) (hm : ∀ i : Nat, i < cs.length → rd M 20 ((i : Int) + 1) ≤ sz) (b1 : 94 ≤ a1 ∧ a1 < mN M' ∧ mT M' a1 = (20, (cs.length : Int))) (b2 : 94 ≤ a2 ∧ a2 < mN M' ∧ mT M' a2 = (20, (cs.length : Int) + 1)) (b3 : 94 ≤ a3 ∧ a3 < mN M' ∧ mT M' a3 = (20, sz)) (r0 : rd M' ob 0 = cs.length) (r1 : rd M' ob 1 = a1) (r2 : rd M' ob 2 = a2) (r3 : rd M' ob 3 = a3)
    (c1 : ∀ j, 0 ≤ j → j < (cs.length : Int) → rd M' a1 j = rd M 19 j) (c2 : ∀ j, 0 ≤ j → j < (cs.length : Int) + 1 → rd M' a2 j = rd M 20 j) (c3 : ∀ j, 0 ≤ j → j < sz → rd M' a3 j = rd M 21 j) : CLaw M' ob (lsm cs) := by
  unfold CLaw
  rw [r0, r1, r2, r3]
  refine ⟨hb, ho, b1.1, b2.1, b3.1, rfl, by show (0 : Int) ≤ cs.length; omega, by show (cs.length : Int) ≤ 12; omega, fun c x0 x1 => ?_⟩
  have x1 : c < (cs.length : Int) := x1
  have hk : c.toNat < cs.length := by omega
  have hcc : ((c.toNat : Nat) : Int) = c := by omega
  obtain ⟨y1, y2, y3, mid, m1, m2, m3, m4, m5⟩ := hc.2 c.toNat hk
  have ym := hm c.toNat hk
  rw [hcc] at y1 y3 m1 m2 m3 m4 m5 ym
  rw [c1 c x0 x1, c2 c x0 (by omega), c2 (c + 1) (by omega) (by omega)]
  refine ⟨⟨by omega, b1.2.1, by rw [b1.2.2], x0, by rw [b1.2.2]; exact x1⟩, ⟨by omega, b2.2.1, by rw [b2.2.2], x0, by rw [b2.2.2]; show c < (cs.length : Int) + 1; omega⟩, ⟨by omega, b2.2.1, by rw [b2.2.2], by omega, by rw [b2.2.2]; show c + 1 < (cs.length : Int) + 1; omega⟩, y1, y2, mid, y3, m1, m2, m3, fun k k0 k1 => ⟨by omega, b3.2.1, by rw [b3.2.2], k0, by rw [b3.2.2]; show k < sz; omega⟩, m4.cg (opC_cg (fun k k0 k1 => c3 k (by omega) (by omega))), ?_⟩
  rcases m5 with ⟨w, w2⟩ | ⟨w, v, w2, w3⟩
  · refine Or.inl ⟨w, ?_⟩
    show (match (cs.getD c.toNat (0, dV0, none)).2.2 with
      | some w => w
      | none => fun _ => some 1) = fun _ => some 1
    rw [w2]
  · refine Or.inr ⟨w, ?_⟩
    have ev : (lsm cs).2.2.2 c = v := by
      show (match (cs.getD c.toNat (0, dV0, none)).2.2 with
        | some w => w
        | none => fun _ => some 1) = v
      rw [w2]
    rw [ev]
    exact w3.cg (opC_cg (fun k k0 k1 => c3 k (by omega) (by omega)))
end LC
