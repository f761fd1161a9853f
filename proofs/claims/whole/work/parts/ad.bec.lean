/-! ===== a house becomes another ===== -/
section BEC
variable {G : GG} {d : Nat} {M M' M'' : MM} {Q : PV → MM → Prop} {h0 h1 : Int}
def BSt (h0 h1 k : Int) (M M' : MM) : Prop := (mN M' = mN M ∧ ∀ b, mT M' b = mT M b) ∧ (∀ a j, ¬ (h0 ≤ a ∧ a < h0 + 12) → rd M' a j = rd M a j) ∧ (∀ p ∈ hRf, rd M' h0 p.1 = h0 + p.2) ∧ (∀ j : Int, (j = 0 ∨ j = 9 ∨ j = 10 ∨ j = 12 ∨ j = 13 ∨ j = 16) → rd M' h0 j = rd M h1 j) ∧ ∀ i : Int, 1 ≤ i → i ≤ k → ∀ j : Int, 0 ≤ j → j < (shp (1 + i)).2 → rd M' (h0 + i) j = rd M (h1 + i) j
def BHy (h0 h1 : Int) (M : MM) : Prop := HS0 M h0 ∧ HS0 M h1 ∧ (h0 + 12 ≤ h1 ∨ h1 + 12 ≤ h0)
theorem shp_1 : shp 1 = (3, 17) := rfl
theorem HS0.o {h : Int} (g : HS0 M h) : okO M h 3 := ⟨g.1, by have := g.2.1; omega, by have := g.2.2.1 0 (by decide) (by decide); rw [Int.add_zero] at this; rw [this]; rfl⟩
theorem BSt.o0 {k : Int} (g : BHy h0 h1 M) (s : BSt h0 h1 k M M') : okO M' h0 3 := ⟨g.1.o.1, by rw [s.1.1]; exact g.1.o.2.1, by rw [s.1.2]; exact g.1.o.2.2⟩
theorem BSt.o1 {k : Int} (g : BHy h0 h1 M) (s : BSt h0 h1 k M M') : okO M' h1 3 := ⟨g.2.1.o.1, by rw [s.1.1]; exact g.2.1.o.2.1, by rw [s.1.2]; exact g.2.1.o.2.2⟩
theorem BSt.f0 {k f i : Int} (s : BSt h0 h1 k M M') (hp : (f, i) ∈ hRf) : rd M' h0 f = h0 + i := s.2.2.1 _ hp
theorem BSt.f1 {k f i : Int} (g : BHy h0 h1 M) (s : BSt h0 h1 k M M') (hp : (f, i) ∈ hRf) : rd M' h1 f = h1 + i := by
  rw [s.2.1 h1 f (by have := g.2.2; omega)]
  exact g.2.1.2.2.2 _ hp
theorem BSt.a0 {k i : Int} {kd : Nat} {n : Int} (g : BHy h0 h1 M) (s : BSt h0 h1 k M M') (i0 : 0 ≤ i) (i1 : i < 12) (e : shp (1 + i) = (kd, n)) : okO M' (h0 + i) kd ∧ (mT M' (h0 + i)).2 = n := by
  have z := g.1.2.2.1 i i0 i1
  rw [e] at z
  have := g.1.1
  have := g.1.2.1
  exact ⟨⟨by omega, by rw [s.1.1]; omega, by rw [s.1.2, z]⟩, by rw [s.1.2, z]⟩
theorem BSt.a1 {k i : Int} {kd : Nat} {n : Int} (g : BHy h0 h1 M) (s : BSt h0 h1 k M M') (i0 : 0 ≤ i) (i1 : i < 12) (e : shp (1 + i) = (kd, n)) : okO M' (h1 + i) kd ∧ (mT M' (h1 + i)).2 = n := by
  have z := g.2.1.2.2.1 i i0 i1
  rw [e] at z
  have := g.2.1.1
  have := g.2.1.2.1
  exact ⟨⟨by omega, by rw [s.1.1]; omega, by rw [s.1.2, z]⟩, by rw [s.1.2, z]⟩
theorem BSt.cp {k i n : Int} {kd : Nat} (g : BHy h0 h1 M) (s : BSt h0 h1 k M M') (hk : i = k + 1) (i0 : 1 ≤ i) (i1 : i < 12) (e : shp (1 + i) = (kd, n)) (em : M'' = cpM M' (h1 + i) 0 (h0 + i) 0 n) : BSt h0 h1 i M M'' := by
  subst em
  have dj := g.2.2
  refine ⟨⟨by rw [mN_cp]; exact s.1.1, fun b => by rw [mT_cp]; exact s.1.2 b⟩, fun a j w => ?_, fun p hp => ?_, fun j hj => ?_, fun i' a b j j0 j1 => ?_⟩
  · rw [rd_cp, if_neg (by omega)]; exact s.2.1 a j w
  · rw [rd_cp, if_neg (by omega)]; exact s.2.2.1 p hp
  · rw [rd_cp, if_neg (by omega)]; exact s.2.2.2.1 j hj
  · by_cases w : i' = i
    · subst w
      rw [e] at j1
      have j1' : j < n := j1
      rw [rd_cp, if_pos ⟨rfl, j0, by omega⟩, show 0 + (j - 0) = j by omega]
      exact s.2.1 _ _ (by omega)
    · rw [rd_cp, if_neg (by omega)]
      exact s.2.2.2.2 i' a (by omega) j j0 j1
theorem BSt.s0 (g : BHy h0 h1 M) (em : M' = wr (wr (wr (wr (wr (wr M h0 0 (rd M h1 0)) h0 9 (rd M h1 9)) h0 10 (rd M h1 10)) h0 12 (rd M h1 12)) h0 13 (rd M h1 13)) h0 16 (rd M h1 16)) : BSt h0 h1 0 M M' := by
  subst em
  have dj := g.2.2
  refine ⟨⟨rfl, fun b => rfl⟩, fun a j w => ?_, fun p hp => ?_, fun j hj => ?_, fun i' a b j j0 j1 => by omega⟩
  · rw [rd_wr, if_neg (by omega), rd_wr, if_neg (by omega), rd_wr, if_neg (by omega), rd_wr, if_neg (by omega), rd_wr, if_neg (by omega), rd_wr, if_neg (by omega)]
  · have hn : p.1 ≠ 0 ∧ p.1 ≠ 9 ∧ p.1 ≠ 10 ∧ p.1 ≠ 12 ∧ p.1 ≠ 13 ∧ p.1 ≠ 16 := (by decide : ∀ p ∈ hRf, p.1 ≠ 0 ∧ p.1 ≠ 9 ∧ p.1 ≠ 10 ∧ p.1 ≠ 12 ∧ p.1 ≠ 13 ∧ p.1 ≠ 16) p hp
    rw [rd_wr, if_neg (by omega), rd_wr, if_neg (by omega), rd_wr, if_neg (by omega), rd_wr, if_neg (by omega), rd_wr, if_neg (by omega), rd_wr, if_neg (by omega)]
    exact g.1.2.2.2 p hp
  · rcases hj with rfl | rfl | rfl | rfl | rfl | rfl
    · rw [rd_wr, if_neg (by omega), rd_wr, if_neg (by omega), rd_wr, if_neg (by omega), rd_wr, if_neg (by omega), rd_wr, if_neg (by omega), rd_wr, if_pos ⟨rfl, rfl⟩]
    · rw [rd_wr, if_neg (by omega), rd_wr, if_neg (by omega), rd_wr, if_neg (by omega), rd_wr, if_neg (by omega), rd_wr, if_pos ⟨rfl, rfl⟩]
    · rw [rd_wr, if_neg (by omega), rd_wr, if_neg (by omega), rd_wr, if_neg (by omega), rd_wr, if_pos ⟨rfl, rfl⟩]
    · rw [rd_wr, if_neg (by omega), rd_wr, if_neg (by omega), rd_wr, if_pos ⟨rfl, rfl⟩]
    · rw [rd_wr, if_neg (by omega), rd_wr, if_pos ⟨rfl, rfl⟩]
    · rw [rd_wr, if_pos ⟨rfl, rfl⟩]
theorem T_becomes (g : BHy h0 h1 M) (hb : rd M h1 13 = 0 ∨ rd M h1 13 = 1) (hl : ∀ q : Int, 0 ≤ q → q < 6 → rd M (h1 + 8) q = -1 ∨ okO M (rd M (h1 + 8) q) 4) (hd : 1 ≤ d) (h : ∀ M', BSt h0 h1 11 M M' → Q vU M') : C G Y_X4_becomes d 0 0 [vA h0, vA h1] M Q := by
  have dj := g.2.2
  have o0 := g.1.o
  have o1 := g.2.1.o
  refine C_X4_becomes (B_X4_becomes_0 hd ⟨o1, o0, fun M3 e3 => ?_⟩)
  have n1 : ∀ {M' : MM} {j v x : Int}, rd (wr M' h0 j v) h1 x = rd M' h1 x := fun {M' j v x} => by rw [rd_wr, if_neg (by omega)]
  have t : ∀ {M' : MM} {a : Int} {kd : Nat} {b j v : Int}, okO M' a kd → okO (wr M' b j v) a kd := fun o => o
  have r9 : rd M3 h1 9 = rd M h1 9 := by rw [e3, n1]
  rw [r9]
  refine ⟨by rw [e3]; exact t o1, by rw [e3]; exact t o0, fun M6 e6 => ?_⟩
  have r10 : rd M6 h1 10 = rd M h1 10 := by rw [e6, n1, e3, n1]
  rw [r10]
  refine ⟨by rw [e6, e3]; exact t (t o1), by rw [e6, e3]; exact t (t o0), fun M9 e9 => ?_⟩
  have r12 : rd M9 h1 12 = rd M h1 12 := by rw [e9, n1, e6, n1, e3, n1]
  rw [r12]
  refine ⟨by rw [e9, e6, e3]; exact t (t (t o1)), by rw [e9, e6, e3]; exact t (t (t o0)), fun M12 e12 => ?_⟩
  have r13 : rd M12 h1 13 = rd M h1 13 := by rw [e12, n1, e9, n1, e6, n1, e3, n1]
  rw [r13]
  refine ⟨by rw [e12, e9, e6, e3]; exact t (t (t (t o1))), by rw [e12, e9, e6, e3]; exact t (t (t (t o0))), hb, fun M15 e15 => ?_⟩
  have r16 : rd M15 h1 16 = rd M h1 16 := by rw [e15, n1, e12, n1, e9, n1, e6, n1, e3, n1]
  rw [r16]
  refine ⟨by rw [e15, e12, e9, e6, e3]; exact t (t (t (t (t o1)))), by rw [e15, e12, e9, e6, e3]; exact t (t (t (t (t o0)))), fun M19 e19 => ?_⟩
  have S0 : BSt h0 h1 0 M M19 := BSt.s0 g (by rw [e19, e15, e12, e9, e6, e3])
  rw [S0.f1 g (f := 1) (i := 1) (by decide), S0.f0 (f := 1) (i := 1) (by decide), (S0.a1 g (i := 1) (kd := 20) (n := 5) (by decide) (by decide) rfl).2, (S0.a0 g (i := 1) (kd := 20) (n := 5) (by decide) (by decide) rfl).2]
  refine ⟨S0.o1 g, S0.o0 g, (S0.a1 g (i := 1) (kd := 20) (n := 5) (by decide) (by decide) rfl).1, (S0.a0 g (i := 1) (kd := 20) (n := 5) (by decide) (by decide) rfl).1, by decide, by decide, fun M22 eM22 => ?_⟩
  have S1 : BSt h0 h1 1 M M22 := S0.cp g (by decide) (by decide) (by decide) (kd := 20) (n := 5) rfl eM22
  rw [S1.f1 g (f := 2) (i := 2) (by decide), S1.f0 (f := 2) (i := 2) (by decide), (S1.a1 g (i := 2) (kd := 20) (n := 5) (by decide) (by decide) rfl).2, (S1.a0 g (i := 2) (kd := 20) (n := 5) (by decide) (by decide) rfl).2]
  refine ⟨S1.o1 g, S1.o0 g, (S1.a1 g (i := 2) (kd := 20) (n := 5) (by decide) (by decide) rfl).1, (S1.a0 g (i := 2) (kd := 20) (n := 5) (by decide) (by decide) rfl).1, by decide, by decide, fun M29 eM29 => ?_⟩
  have S2 : BSt h0 h1 2 M M29 := S1.cp g (by decide) (by decide) (by decide) (kd := 20) (n := 5) rfl eM29
  rw [S2.f1 g (f := 3) (i := 3) (by decide), S2.f0 (f := 3) (i := 3) (by decide), (S2.a1 g (i := 3) (kd := 20) (n := 5) (by decide) (by decide) rfl).2, (S2.a0 g (i := 3) (kd := 20) (n := 5) (by decide) (by decide) rfl).2]
  refine ⟨S2.o1 g, S2.o0 g, (S2.a1 g (i := 3) (kd := 20) (n := 5) (by decide) (by decide) rfl).1, (S2.a0 g (i := 3) (kd := 20) (n := 5) (by decide) (by decide) rfl).1, by decide, by decide, fun M36 eM36 => ?_⟩
  have S3 : BSt h0 h1 3 M M36 := S2.cp g (by decide) (by decide) (by decide) (kd := 20) (n := 5) rfl eM36
  rw [S3.f1 g (f := 4) (i := 4) (by decide), S3.f0 (f := 4) (i := 4) (by decide), (S3.a1 g (i := 4) (kd := 20) (n := 2) (by decide) (by decide) rfl).2, (S3.a0 g (i := 4) (kd := 20) (n := 2) (by decide) (by decide) rfl).2]
  refine ⟨S3.o1 g, S3.o0 g, (S3.a1 g (i := 4) (kd := 20) (n := 2) (by decide) (by decide) rfl).1, (S3.a0 g (i := 4) (kd := 20) (n := 2) (by decide) (by decide) rfl).1, by decide, by decide, fun M43 eM43 => ?_⟩
  have S4 : BSt h0 h1 4 M M43 := S3.cp g (by decide) (by decide) (by decide) (kd := 20) (n := 2) rfl eM43
  rw [S4.f1 g (f := 5) (i := 5) (by decide), S4.f0 (f := 5) (i := 5) (by decide), (S4.a1 g (i := 5) (kd := 20) (n := 2) (by decide) (by decide) rfl).2, (S4.a0 g (i := 5) (kd := 20) (n := 2) (by decide) (by decide) rfl).2]
  refine ⟨S4.o1 g, S4.o0 g, (S4.a1 g (i := 5) (kd := 20) (n := 2) (by decide) (by decide) rfl).1, (S4.a0 g (i := 5) (kd := 20) (n := 2) (by decide) (by decide) rfl).1, by decide, by decide, fun M50 eM50 => ?_⟩
  have S5 : BSt h0 h1 5 M M50 := S4.cp g (by decide) (by decide) (by decide) (kd := 20) (n := 2) rfl eM50
  rw [S5.f1 g (f := 6) (i := 6) (by decide), S5.f0 (f := 6) (i := 6) (by decide), (S5.a1 g (i := 6) (kd := 20) (n := 2) (by decide) (by decide) rfl).2, (S5.a0 g (i := 6) (kd := 20) (n := 2) (by decide) (by decide) rfl).2]
  refine ⟨S5.o1 g, S5.o0 g, (S5.a1 g (i := 6) (kd := 20) (n := 2) (by decide) (by decide) rfl).1, (S5.a0 g (i := 6) (kd := 20) (n := 2) (by decide) (by decide) rfl).1, by decide, by decide, fun M57 eM57 => ?_⟩
  have S6 : BSt h0 h1 6 M M57 := S5.cp g (by decide) (by decide) (by decide) (kd := 20) (n := 2) rfl eM57
  rw [S6.f1 g (f := 7) (i := 7) (by decide), S6.f0 (f := 7) (i := 7) (by decide), (S6.a1 g (i := 7) (kd := 20) (n := 3) (by decide) (by decide) rfl).2, (S6.a0 g (i := 7) (kd := 20) (n := 3) (by decide) (by decide) rfl).2]
  refine ⟨S6.o1 g, S6.o0 g, (S6.a1 g (i := 7) (kd := 20) (n := 3) (by decide) (by decide) rfl).1, (S6.a0 g (i := 7) (kd := 20) (n := 3) (by decide) (by decide) rfl).1, by decide, by decide, fun M64 eM64 => ?_⟩
  have S7 : BSt h0 h1 7 M M64 := S6.cp g (by decide) (by decide) (by decide) (kd := 20) (n := 3) rfl eM64
  rw [S7.f1 g (f := 8) (i := 8) (by decide), S7.f0 (f := 8) (i := 8) (by decide), (S7.a1 g (i := 8) (kd := 24) (n := 6) (by decide) (by decide) rfl).2, (S7.a0 g (i := 8) (kd := 24) (n := 6) (by decide) (by decide) rfl).2]
  refine ⟨S7.o1 g, S7.o0 g, (S7.a1 g (i := 8) (kd := 24) (n := 6) (by decide) (by decide) rfl).1, (S7.a0 g (i := 8) (kd := 24) (n := 6) (by decide) (by decide) rfl).1, by decide, by decide, fun q q0 q1 => ?_, fun M71 eM71 => ?_⟩
  · rw [S7.2.1 _ _ (by omega)]
    exact (hl q q0 (by omega)).imp id (fun z => ⟨z.1, by rw [S7.1.1]; exact z.2.1, by rw [S7.1.2]; exact z.2.2⟩)
  have S8 : BSt h0 h1 8 M M71 := S7.cp g (by decide) (by decide) (by decide) (kd := 24) (n := 6) rfl eM71
  rw [S8.f1 g (f := 11) (i := 9) (by decide), S8.f0 (f := 11) (i := 9) (by decide), (S8.a1 g (i := 9) (kd := 20) (n := 5) (by decide) (by decide) rfl).2, (S8.a0 g (i := 9) (kd := 20) (n := 5) (by decide) (by decide) rfl).2]
  refine ⟨S8.o1 g, S8.o0 g, (S8.a1 g (i := 9) (kd := 20) (n := 5) (by decide) (by decide) rfl).1, (S8.a0 g (i := 9) (kd := 20) (n := 5) (by decide) (by decide) rfl).1, by decide, by decide, fun M79 eM79 => ?_⟩
  have S9 : BSt h0 h1 9 M M79 := S8.cp g (by decide) (by decide) (by decide) (kd := 20) (n := 5) rfl eM79
  rw [S9.f1 g (f := 14) (i := 10) (by decide), S9.f0 (f := 14) (i := 10) (by decide), (S9.a1 g (i := 10) (kd := 20) (n := 6) (by decide) (by decide) rfl).2, (S9.a0 g (i := 10) (kd := 20) (n := 6) (by decide) (by decide) rfl).2]
  refine ⟨S9.o1 g, S9.o0 g, (S9.a1 g (i := 10) (kd := 20) (n := 6) (by decide) (by decide) rfl).1, (S9.a0 g (i := 10) (kd := 20) (n := 6) (by decide) (by decide) rfl).1, by decide, by decide, fun M86 eM86 => ?_⟩
  have S10 : BSt h0 h1 10 M M86 := S9.cp g (by decide) (by decide) (by decide) (kd := 20) (n := 6) rfl eM86
  rw [S10.f1 g (f := 15) (i := 11) (by decide), S10.f0 (f := 15) (i := 11) (by decide), (S10.a1 g (i := 11) (kd := 20) (n := 5) (by decide) (by decide) rfl).2, (S10.a0 g (i := 11) (kd := 20) (n := 5) (by decide) (by decide) rfl).2]
  refine ⟨S10.o1 g, S10.o0 g, (S10.a1 g (i := 11) (kd := 20) (n := 5) (by decide) (by decide) rfl).1, (S10.a0 g (i := 11) (kd := 20) (n := 5) (by decide) (by decide) rfl).1, by decide, by decide, fun M93 eM93 => ?_⟩
  have S11 : BSt h0 h1 11 M M93 := S10.cp g (by decide) (by decide) (by decide) (kd := 20) (n := 5) rfl eM93
  exact h _ S11
end BEC
