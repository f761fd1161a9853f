/-! ===== the model reads an expression: its steps ===== -/
def KMp (a j : Int) : Prop := a = 74 ∨ a = 75 ∨ a = 76 ∨ a = 77 ∨ (a = 67 ∧ (j = 9 ∨ j = 10 ∨ j = 11 ∨ j = 12 ∨ j = 13 ∨ j = 14 ∨ j = 17 ∨ j = 20 ∨ j = 23 ∨ j = 24))
theorem KTm_p {a j : Int} (h : KTm a j) : KMp a j := by unfold KTm at h; unfold KMp; omega
theorem KSe_p {a j : Int} (h : KSe a j) : KMp a j := by unfold KSe at h; unfold KMp; omega
theorem KPu_p {a j : Int} (h : KPu a j) : KMp a j := by unfold KPu at h; unfold KMp; omega
def CtX (tx : Int → Int) (L : Int) (kd : Nat → Int) (N : Nat) : Prop := TkN tx L kd N ∧ Byt tx L ∧ 0 ≤ L ∧ L ≤ 400
def MSt (M : MM) (tx : Int → Int) (L : Int) (kd : Nat → Int) (N i pt n : Nat) (π : Pil) (br : Nat) : Prop :=
  (Sh M ∧ TpM M tx L ∧ TkA M tx L (plT tx L i) (kd i) ∧ rd M 67 14 = 0) ∧ (rd M 67 20 = pt ∧ rd M 67 17 = n ∧ rd M 67 23 = π.length ∧ rd M 67 24 = br) ∧ (PlM M π ∧ OkP π) ∧ (∀ k : Int, 0 ≤ k → k < 7 → rd M 78 k = gt wcdL (k + 6)) ∧ (i ≤ N ∧ pt ≤ 50 ∧ br ≤ 8 ∧ n + cntP π ≤ i ∧ π.length ≤ i)
/-- the model has found a fault at the token a -/
def FSt (M : MM) (tx : Int → Int) (L : Int) (a : Nat) : Prop := Sh M ∧ rd M 67 14 = 1 ∧ rd M 67 13 = plT tx L a ∧ ∃ (n : Nat) (π : Pil), rd M 67 17 = n ∧ rd M 67 23 = π.length ∧ PlM M π ∧ OkP π ∧ n + cntP π ≤ 400 ∧ π.length ≤ 400
def XE (G : GG) (d : Nat) (tst : Int) (Q : PV → MM → Prop) (t : Int) (M : MM) : Prop := X G Y_X12_readExpression d 0 0 20 [vA 67, vI tst, vI t] [] M Q
def SmC (M M' : MM) : Prop := rd M' 74 = rd M 74 ∧ rd M' 75 = rd M 75
section SP
variable {G : GG} {d : Nat} {M M' M1 : MM} {Q : PV → MM → Prop} {tx : Int → Int} {L : Int} {kd : Nat → Int} {N i pt n br : Nat} {π ρ : Pil} {tst : Int}
theorem CtX.n400 (hX : CtX tx L kd N) : N ≤ 400 := by have := hX.1.1; omega
theorem CtX.lt (hX : CtX tx L kd N) (hi : i ≤ N) (hk : kd i ≠ 256) : i < N := by
  by_cases q : i = N
  · exfalso
    apply hk
    have h4 := hX.1.2.2.2
    exact (hX.1.2.1 i).2 (by rw [q, h4]; omega)
  · omega
theorem T_go (hd : 2 ≤ d) (hX : CtX tx L kd N) (hS : Sh M) (hT : TpM M tx L) (hA : TkA M tx L (plT tx L i) (kd i)) (hi : i < N) (h : ∀ M', Sh M' → Fr KTm M M' → TkA M' tx L (plT tx L (i + 1)) (kd (i + 1)) → Q vU M') : C G Y_X12_goOn d 0 0 [vA 67] M Q := by
  obtain ⟨⟨h1, h2, h3, h4⟩, hb, hL0, hL⟩ := hX
  have hp := h3 i hi
  have hE := tEn_ok (tx := tx) hp
  have hp0 := (plT_ok (tx := tx) hL0 i).1
  have e : plT tx L (i + 1) = skp tx L (tEn tx L (plT tx L i)) := by rw [plT, if_pos hp]
  have e10 := hA.2.1
  rw [if_pos hp] at e10
  rw [e] at h
  have hk := h2 (i + 1)
  rw [e] at hk
  exact T_X12_goOn hd hS hb hL hT e10 (by omega) hE.2 hk.1 hk.2 h
theorem TkA.fr {p K : Int} (h : TkA M tx L p K) (e9 : rd M' 67 9 = rd M 67 9) (e10 : rd M' 67 10 = rd M 67 10) (e11 : rd M' 67 11 = rd M 67 11) (e12 : rd M' 67 12 = rd M 67 12) : TkA M' tx L p K := by
  unfold TkA
  rw [e9, e10, e11, e12]
  exact h
theorem MSt.adv (h : MSt M tx L kd N i pt n π br) (hS : Sh M') (hF : Fr KTm M M') (hA : TkA M' tx L (plT tx L (i + 1)) (kd (i + 1))) (hi : i < N) : MSt M' tx L kd N (i + 1) pt n π br := by
  obtain ⟨⟨a1, a2, a3, a4⟩, ⟨b1, b2, b3, b4⟩, ⟨c1, c2⟩, e1, ⟨f1, f2, f3, f4, f5⟩⟩ := h
  have r : ∀ j, ¬ (j = 9 ∨ j = 10 ∨ j = 11 ∨ j = 12) → rd M' 67 j = rd M 67 j := fun j q => hF.2.2 67 j (fun w => q w.2)
  have r2 : ∀ a j, a ≠ 67 → rd M' a j = rd M a j := fun a j q => hF.2.2 a j (fun w => q w.1)
  exact ⟨⟨hS, a2.fr hF, hA, by rw [r 14 (by decide)]; exact a4⟩, ⟨by rw [r 20 (by decide)]; exact b1, by rw [r 17 (by decide)]; exact b2, by rw [r 23 (by decide)]; exact b3, by rw [r 24 (by decide)]; exact b4⟩, ⟨PlM.fr π c1 (fun j _ _ => ⟨r2 76 j (by decide), r2 77 j (by decide)⟩), c2⟩, fun k k0 k1 => by rw [r2 78 k (by decide)]; exact e1 k k0 k1, ⟨by omega, f2, f3, by omega, by omega⟩⟩
theorem SmC.fr (hF : Fr KTm M M') : SmC M M' := ⟨funext fun k => hF.2.2 74 k (by unfold KTm; omega), funext fun k => hF.2.2 75 k (by unfold KTm; omega)⟩
theorem SmC.tr {M2 : MM} (h : SmC M M1) (g : SmC M1 M2) : SmC M M2 := ⟨g.1.trans h.1, g.2.trans h.2⟩
theorem SmC.fp (hF : Fr KPu M M') : SmC M M' := ⟨funext fun k => hF.2.2 74 k (by unfold KPu; omega), funext fun k => hF.2.2 75 k (by unfold KPu; omega)⟩
theorem MSt.set (h : MSt M tx L kd N i pt n (ρ ++ π) br) (hS : Sh M') (hF : Fr KSe M M') (e23 : rd M' 67 23 = π.length) (e17 : rd M' 67 17 = (n : Int) + cntP ρ) : MSt M' tx L kd N i pt (n + cntP ρ) π br := by
  obtain ⟨⟨a1, a2, a3, a4⟩, ⟨b1, b2, b3, b4⟩, ⟨c1, c2⟩, e1, ⟨f1, f2, f3, f4, f5⟩⟩ := h
  rw [cntP_app] at f4
  rw [List.length_append] at f5
  have r : ∀ j, ¬ (j = 17 ∨ j = 23) → rd M' 67 j = rd M 67 j := fun j q => hF.2.2 67 j (by unfold KSe; omega)
  have r2 : ∀ a j, a ≠ 67 → a ≠ 74 → a ≠ 75 → rd M' a j = rd M a j := fun a j q q2 q3 => hF.2.2 a j (by unfold KSe; omega)
  refine ⟨⟨hS, ⟨fun j => by rw [r2 72 j (by decide) (by decide) (by decide)]; exact a2.1 j, by rw [r 8 (by decide)]; exact a2.2.1, by rw [r 13 (by decide)]; exact a2.2.2⟩, a3.fr (r 9 (by decide)) (r 10 (by decide)) (r 11 (by decide)) (r 12 (by decide)), by rw [r 14 (by decide)]; exact a4⟩, ⟨by rw [r 20 (by decide)]; exact b1, by rw [e17]; omega, e23, by rw [r 24 (by decide)]; exact b4⟩, ⟨PlM.fr π (PlM.suf ρ π c1) (fun j _ _ => ⟨r2 76 j (by decide) (by decide) (by decide), r2 77 j (by decide) (by decide) (by decide)⟩), c2.suf⟩, fun k k0 k1 => by rw [r2 78 k (by decide) (by decide) (by decide)]; exact e1 k k0 k1, ⟨f1, f2, f3, by omega, by omega⟩⟩
/-- settling what lies above -/
theorem T_stl {lv : Int} (hd : 2 ≤ d) (hX : CtX tx L kd N) (h : MSt M tx L kd N i pt n (ρ ++ π) br) (hlv : inR lv) (ht : topB π < lv) (hb : ∀ e ∈ ρ, lv ≤ bnd12 e.1) (hq : ∀ M', MSt M' tx L kd N i pt (n + cntP ρ) π br → Fr KSe M M' → (rd M' 74, rd M' 75, ((n + cntP ρ : Nat) : Int)) = stl ρ (rd M 74, rd M 75, (n : Int)) → Q vU M') : C G Y_X12_settle d 0 0 [vA 67, vI lv] M Q := by
  have h' := h
  obtain ⟨⟨a1, a2, a3, a4⟩, ⟨b1, b2, b3, b4⟩, ⟨c1, c2⟩, e1, ⟨f1, f2, f3, f4, f5⟩⟩ := h
  have hn := hX.n400
  have f4' := f4
  rw [cntP_app] at f4'
  refine T_X12_settle hd hlv ht a1 b3 c1 c2 hb b2 (by omega) (by omega) (fun M' s' F' g1 g2 g3 => hq M' (h'.set s' F' g1 g2) F' ?_)
  rw [← g3, g2]
  push_cast
  rfl
/-- pushing, then the next token -/
theorem push_go {o t : Int} {Qx : MM → Prop} (hd : 2 ≤ d) (hX : CtX tx L kd N) (h : MSt M tx L kd N i pt n π br) (hi : i < N) (h1 : 20 ≤ o) (h2 : o ≤ 31) (h3 : (o = 28 ∨ o = 29) → 0 ≤ t ∧ t < 400) (hq : ∀ M', MSt M' tx L kd N (i + 1) pt n ((o, t) :: π) br → Fr KMp M M' → SmC M M' → Qx M') : C G Y_X12_push d 0 0 [vA 67, vI o, vI t] M (rU (fun M27 => Sh M27 ∧ C G Y_X12_goOn d 0 0 [vA 67] M27 (rU (fun M28 => Sh M28 ∧ Qx M28)))) := by
  obtain ⟨⟨a1, a2, a3, a4⟩, ⟨b1, b2, b3, b4⟩, ⟨c1, c2⟩, e1, ⟨f1, f2, f3, f4, f5⟩⟩ := h
  have hn := hX.n400
  refine T_X12_push (by omega) a1 b3 (by omega) c1 (fun M5 s5 F5 g1 g2 => ⟨s5, ?_⟩)
  have r : ∀ j, j ≠ 23 → rd M5 67 j = rd M 67 j := fun j q => F5.2.2 67 j (by unfold KPu; omega)
  have r2 : ∀ a j, a ≠ 67 → a ≠ 76 → a ≠ 77 → rd M5 a j = rd M a j := fun a j q q2 q3 => F5.2.2 a j (by unfold KPu; omega)
  have T5 : TpM M5 tx L := ⟨fun j => by rw [r2 72 j (by decide) (by decide) (by decide)]; exact a2.1 j, by rw [r 8 (by decide)]; exact a2.2.1, by rw [r 13 (by decide)]; exact a2.2.2⟩
  have A5 := a3.fr (r 9 (by decide)) (r 10 (by decide)) (r 11 (by decide)) (r 12 (by decide))
  refine T_go hd hX s5 T5 A5 hi (fun M6 s6 F6 A6 => ⟨s6, ?_⟩)
  have q : ∀ j, ¬ (j = 9 ∨ j = 10 ∨ j = 11 ∨ j = 12) → rd M6 67 j = rd M5 67 j := fun j q => F6.2.2 67 j (fun w => q w.2)
  have q2 : ∀ a j, a ≠ 67 → rd M6 a j = rd M5 a j := fun a j q => F6.2.2 a j (fun w => q w.1)
  refine hq M6 ⟨⟨s6, T5.fr F6, A6, by rw [q 14 (by decide), r 14 (by decide)]; exact a4⟩, ⟨by rw [q 20 (by decide), r 20 (by decide)]; exact b1, by rw [q 17 (by decide), r 17 (by decide)]; exact b2, by rw [q 23 (by decide)]; exact g1, by rw [q 24 (by decide), r 24 (by decide)]; exact b4⟩, ⟨PlM.fr _ g2 (fun j _ _ => ⟨q2 76 j (by decide), q2 77 j (by decide)⟩), c2.cons h1 h2 h3⟩, fun k k0 k1 => by rw [q2 78 k (by decide), r2 78 k (by decide) (by decide) (by decide)]; exact e1 k k0 k1, ⟨by omega, f2, f3, ?_, ?_⟩⟩ ((F5.mono (fun _ _ => KPu_p)).tr (F6.mono (fun _ _ => KTm_p))) ((SmC.fp F5).tr (SmC.fr F6))
  · rw [cntP]; split <;> omega
  · simp only [List.length_cons]; omega
theorem T_mustY {x1 : Int} (hd : 3 ≤ d) (hX : CtX tx L kd N) (h : MSt M tx L kd N i pt n π br) (hi : i < N) (hx : inR x1) (h1 : x1 ≠ 0) (hq : ∀ M', MSt M' tx L kd N (i + 1) pt n π br → Fr KTm M M' → Q vU M') : C G Y_X12_must d 0 0 [vA 67, vI x1] M Q := by
  have h' := h
  obtain ⟨⟨a1, a2, a3, a4⟩, -⟩ := h
  refine C_X12_must (B_X12_must_0 (by omega) a1 ⟨by rw [a4]; exact ⟨by decide, by decide⟩, hx, fun _ => ⟨fun w => absurd a4 w, fun _ => ?_⟩, fun w => absurd (Or.inr h1) w⟩)
  exact T_go (by omega) hX a1 a2 a3 hi (fun M9 s9 F9 A9 => ⟨s9, hq M9 (h'.adv s9 F9 A9 hi) F9⟩)
theorem T_mustN (hd : 2 ≤ d) (hX : CtX tx L kd N) (h : MSt M tx L kd N i pt n π br) (hq : ∀ M', FSt M' tx L i → Fr KMp M M' → Q vU M') : C G Y_X12_must d 0 0 [vA 67, vI 0] M Q := by
  obtain ⟨⟨a1, a2, a3, a4⟩, ⟨b1, b2, b3, b4⟩, ⟨c1, c2⟩, e1, ⟨f1, f2, f3, f4, f5⟩⟩ := h
  have hn := hX.n400
  refine C_X12_must (B_X12_must_0 hd a1 ⟨by rw [a4]; exact ⟨by decide, by decide⟩, ⟨by decide, by decide⟩, fun w => ?_, fun _ M10 e10 s10 M11 e11 s11 => ?_⟩)
  · rcases w with w | w
    · exact absurd a4 w
    · exact absurd rfl w
  · have k14 : rd M11 67 14 = 1 := by rw [e11, rd_wr, if_neg (by omega), e10, rd_wr, if_pos ⟨rfl, rfl⟩]
    have k13 : rd M11 67 13 = plT tx L i := by rw [e11, rd_wr, if_pos ⟨rfl, rfl⟩, e10, rd_wr, if_neg (by omega)]; exact a3.1
    have k17 : rd M11 67 17 = n := by rw [e11, rd_wr, if_neg (by omega), e10, rd_wr, if_neg (by omega)]; exact b2
    have k23 : rd M11 67 23 = π.length := by rw [e11, rd_wr, if_neg (by omega), e10, rd_wr, if_neg (by omega)]; exact b3
    refine ⟨by rw [k14]; exact ⟨by decide, by decide⟩, fun _ => ?_, fun w => absurd (k14.symm.trans w) (by decide)⟩
    refine hq M11 ⟨s11, k14, k13, n, π, k17, k23, PlM.fr π c1 (fun j _ _ => ⟨by rw [e11, rd_wr, if_neg (by omega), e10, rd_wr, if_neg (by omega)], by rw [e11, rd_wr, if_neg (by omega), e10, rd_wr, if_neg (by omega)]⟩), c2, by omega, by omega⟩ ?_
    rw [e11, e10]
    exact (Fr.rf.wr (by unfold KMp; omega)).wr (by unfold KMp; omega)
/-! the loop's turns -/
theorem XE_bad {t : Int} (hd : 3 ≤ d) (hS : Sh M) (h14 : rd M 67 14 ≠ 0) (i14 : inR (rd M 67 14)) (h : C G Y_X12_settle (d - 1) 0 0 [vA 67, vI 1] M (rU (fun M2 => Sh M2 ∧ Q vU M2))) : XE G d tst Q t M :=
  B_X12_readExpression_20 (by omega) hS ⟨i14, fun _ => h, fun w => absurd w h14⟩
theorem XE_4 (hd : 3 ≤ d) (hS : Sh M) (h14 : rd M 67 14 = 0) (h : C G Y_X12_settle (d - 1) 0 0 [vA 67, vI 1] M (rU (fun M2 => Sh M2 ∧ Q vU M2))) : XE G d tst Q 4 M :=
  B_X12_readExpression_20 (by omega) hS ⟨by rw [h14]; exact ⟨by decide, by decide⟩, fun w => absurd h14 w, fun _ => ⟨⟨by decide, by decide⟩, fun _ => h, fun w => absurd rfl w⟩⟩
theorem XE_3 (hd : 3 ≤ d) (hS : Sh M) (h14 : rd M 67 14 = 0) (h : C G Y_X12_behindSum (d - 1) 0 0 [vA 67, vI tst] M (rI (fun r M' => Sh M' ∧ XE G d tst Q r M'))) : XE G d tst Q 3 M :=
  B_X12_readExpression_20 (by omega) hS ⟨by rw [h14]; exact ⟨by decide, by decide⟩, fun w => absurd h14 w, fun _ => ⟨⟨by decide, by decide⟩, fun w => absurd w (by decide), fun _ => ⟨fun _ => ⟨fun _ => ⟨fun w => absurd rfl w, fun _ => h⟩, fun w => absurd w (by decide)⟩, fun w => absurd w (by decide)⟩⟩⟩
theorem XE_2 (hd : 3 ≤ d) (hS : Sh M) (h14 : rd M 67 14 = 0) (h : C G Y_X12_behindTest (d - 1) 0 0 [vA 67] M (rI (fun r M' => Sh M' ∧ XE G d tst Q r M'))) : XE G d tst Q 2 M :=
  B_X12_readExpression_20 (by omega) hS ⟨by rw [h14]; exact ⟨by decide, by decide⟩, fun w => absurd h14 w, fun _ => ⟨⟨by decide, by decide⟩, fun w => absurd w (by decide), fun _ => ⟨fun _ => ⟨fun _ => ⟨fun _ => h, fun w => absurd w (by decide)⟩, fun w => absurd w (by decide)⟩, fun w => absurd w (by decide)⟩⟩⟩
theorem XE_1 (hd : 3 ≤ d) (hS : Sh M) (h14 : rd M 67 14 = 0) (h : C G Y_X12_readPart (d - 1) 0 0 [vA 67] M (rI (fun r M' => Sh M' ∧ XE G d tst Q r M'))) : XE G d tst Q 1 M :=
  B_X12_readExpression_20 (by omega) hS ⟨by rw [h14]; exact ⟨by decide, by decide⟩, fun w => absurd h14 w, fun _ => ⟨⟨by decide, by decide⟩, fun w => absurd w (by decide), fun _ => ⟨fun _ => ⟨fun w => absurd rfl w, fun _ => h⟩, fun w => absurd w (by decide)⟩⟩⟩
theorem XE_0 (hd : 3 ≤ d) (hS : Sh M) (h14 : rd M 67 14 = 0) (h : C G Y_X12_readPlain (d - 1) 0 0 [vA 67] M (rI (fun r M' => Sh M' ∧ XE G d tst Q r M'))) : XE G d tst Q 0 M :=
  B_X12_readExpression_20 (by omega) hS ⟨by rw [h14]; exact ⟨by decide, by decide⟩, fun w => absurd h14 w, fun _ => ⟨⟨by decide, by decide⟩, fun w => absurd w (by decide), fun _ => ⟨fun w => absurd rfl w, fun _ => h⟩⟩⟩
theorem MSt.sg (h : MSt M tx L kd N i pt n π br) {c : Int} (c0 : 0 ≤ c) (c1 : c ≤ 255) : (rd M 67 11 = 3 ∧ rd M 67 12 = c) ↔ kd i = c := h.1.2.2.1.2.2.1.sign c0 c1
theorem MSt.wd (h : MSt M tx L kd N i pt n π br) {q : Int} (q0 : 0 ≤ q) (q1 : q < 13) : (rd M 67 11 = 1 ∧ rd M 67 12 = gt wcdL q) ↔ kd i = 300 + q := h.1.2.2.1.2.2.1.word q0 q1
theorem MSt.w (h : MSt M tx L kd N i pt n π br) : inR (rd M 67 11) ∧ inL (rd M 67 12) := h.1.2.2.1.2.2.2.r
theorem FSt.nb (h : FSt M tx L i) : Sh M ∧ rd M 67 14 ≠ 0 ∧ inR (rd M 67 14) := ⟨h.1, by rw [h.2.1]; decide, by rw [h.2.1]; exact ⟨by decide, by decide⟩⟩
/-- an order of a sum -/
theorem XE_op {o : Int} (hd : 8 ≤ d) (hX : CtX tx L kd N) (h : MSt M tx L kd N i pt n (ρ ++ π) br) (ho : (kd i = 43 ∧ o = 20) ∨ (kd i = 45 ∧ o = 21) ∨ (kd i = 42 ∧ o = 22) ∨ (kd i = 47 ∧ o = 23)) (ht : topB π < bnd12 o) (hb : ∀ e ∈ ρ, bnd12 o ≤ bnd12 e.1)
    (hq : ∀ M1 M', MSt M' tx L kd N (i + 1) pt (n + cntP ρ) ((o, 0) :: π) br → Fr KMp M M' → SmC M1 M' → (rd M1 74, rd M1 75, ((n + cntP ρ : Nat) : Int)) = stl ρ (rd M 74, rd M 75, (n : Int)) → XE G d tst Q 1 M') : XE G d tst Q 3 M := by
  have hi : i < N := hX.lt h.2.2.2.2.1 (by omega)
  have hor : 20 ≤ o ∧ o ≤ 23 := by omega
  have hd3 : 3 ≤ d := by omega
  have hd2 : 2 ≤ d - 1 := by omega
  have go : C G Y_X12_settle (d - 1 - 1) 0 0 [vA 67, vI (bnd12 o)] M (rU (fun M26 => Sh M26 ∧ C G Y_X12_push (d - 1 - 1) 0 0 [vA 67, vI o, vI 0] M26 (rU (fun M27 => Sh M27 ∧ C G Y_X12_goOn (d - 1 - 1) 0 0 [vA 67] M27 (rU (fun M28 => Sh M28 ∧ (Sh M28 ∧ XE G d tst Q 1 M28))))))) := by
    refine T_stl (by omega) hX h bnd12_r.1 ht hb (fun M1 S1 F1 E1 => ⟨S1.1.1, ?_⟩)
    exact push_go (by omega) hX S1 hi (by omega) (by omega) (fun w => by omega) (fun M' S' F' C' => ⟨S'.1.1, hq M1 M' S' ((F1.mono (fun _ _ => KSe_p)).tr F') C' E1⟩)
  have s1 := h.sg (c := 43) (by decide) (by decide)
  have s2 := h.sg (c := 45) (by decide) (by decide)
  have s3 := h.sg (c := 42) (by decide) (by decide)
  have s4 := h.sg (c := 47) (by decide) (by decide)
  refine XE_3 hd3 h.1.1 h.1.2.2.2 (C_X12_behindSum (B_X12_behindSum_0 hd2 h.1.1 ⟨h.w.1, h.w.2, fun w1 => ⟨fun w2 => ⟨fun w3 v7 e7 => ?_, fun w3 => ?_⟩, fun w2 => ?_⟩, fun w1 => ?_⟩))
  · have k4 : kd i = 47 ∧ o = 23 := by
      rcases ho with a | a | a | a
      · exact absurd (s1.mpr a.1) w1
      · exact absurd (s2.mpr a.1) w2
      · exact absurd (s3.mpr a.1) w3
      · exact a
    rw [if_neg (fun w => w (s4.mpr k4.1))] at e7
    subst e7
    refine ⟨⟨by decide, by decide⟩, fun w => absurd w (by decide), fun _ => ?_⟩
    rw [k4.2] at go
    exact go
  · have k3 := s3.mp w3
    have e : o = 22 := by
      rcases ho with a | a | a | a
      · exact absurd (a.1.symm.trans k3) (by decide)
      · exact absurd (a.1.symm.trans k3) (by decide)
      · exact a.2
      · exact absurd (a.1.symm.trans k3) (by decide)
    rw [e] at go
    exact go
  · have k2 := s2.mp w2
    have e : o = 21 := by
      rcases ho with a | a | a | a
      · exact absurd (a.1.symm.trans k2) (by decide)
      · exact a.2
      · exact absurd (a.1.symm.trans k2) (by decide)
      · exact absurd (a.1.symm.trans k2) (by decide)
    rw [e] at go
    exact go
  · have k1 := s1.mp w1
    have e : o = 20 := by
      rcases ho with a | a | a | a
      · exact a.2
      · exact absurd (a.1.symm.trans k1) (by decide)
      · exact absurd (a.1.symm.trans k1) (by decide)
      · exact absurd (a.1.symm.trans k1) (by decide)
    rw [e] at go
    exact go
/-- behind a sum, no order -/
theorem bs_no {Qx : PV → MM → Prop} (hd : 4 ≤ d) (hX : CtX tx L kd N) (h : MSt M tx L kd N i pt n π br) (h1 : kd i ≠ 43) (h2 : kd i ≠ 45) (h3 : kd i ≠ 42) (h4 : kd i ≠ 47) (htst : inR tst)
    (hC : inrP π = 31 → C G Y_X12_must (d - 1) 0 0 [vA 67, vI (if kd i = 93 then 1 else 0)] M (rU (fun M21 => Sh M21 ∧ inR (rd M21 67 14) ∧ (((rd M21 67 14) ≠ 0 → Qx (vI 3) M21) ∧ ((rd M21 67 14) = 0 → C G Y_X12_settle (d - 1) 0 0 [vA 67, vI 5] M21 (rU (fun M23 => Sh M23 ∧ ∀ M24, M24 = wr M23 67 23 ((rd M23 67 23) - 1) → Sh M24 → ∀ M25, M25 = wr M24 67 24 ((rd M24 67 24) - 1) → Sh M25 → Qx (vI 3) M25)))))))
    (hO : inrP π = -1 → tst = 0 → Qx (vI 4) M)
    (hN : inrP π ≠ 31 → (inrP π ≠ -1 ∨ tst ≠ 0) → X G Y_X12_behindSum d 0 0 149 [vA 67, vI tst, vI (-1), vI (inrP π)] [] M Qx) : C G Y_X12_behindSum d 0 0 [vA 67, vI tst] M Qx := by
  have hn := hX.n400
  have f := h.2.2.2.2
  have hl : π.length ≤ 400 := by omega
  have ir := inrP_r h.2.2.1.2
  have irR : inR (inrP π) := ⟨by omega, by omega⟩
  have hd1 : 1 ≤ d - 1 := by omega
  have hd2 : 2 ≤ d := by omega
  have s1 := h.sg (c := 43) (by decide) (by decide)
  have s2 := h.sg (c := 45) (by decide) (by decide)
  have s3 := h.sg (c := 42) (by decide) (by decide)
  have s4 := h.sg (c := 47) (by decide) (by decide)
  have s5 := h.sg (c := 93) (by decide) (by decide)
  refine C_X12_behindSum (B_X12_behindSum_0 hd2 h.1.1 ⟨h.w.1, h.w.2, fun w1 => ⟨fun w2 => ⟨fun w3 v7 e7 => ?_, fun w3 => absurd (s3.mp w3) h3⟩, fun w2 => absurd (s2.mp w2) h2⟩, fun w1 => absurd (s1.mp w1) h1⟩)
  rw [if_pos (fun w => h4 (s4.mp w))] at e7
  subst e7
  refine ⟨⟨by decide, by decide⟩, fun _ => ?_, fun w => absurd rfl w⟩
  refine T_X12_inner hd1 h.1.1 h.2.1.2.2.1 hl h.2.2.1.1 h.2.2.1.2 ⟨h.1.1, irR, fun w => ⟨htst, fun q => hN w q, fun q => hO (by
    by_cases y : inrP π = -1
    · exact y
    · exact absurd (Or.inl y) q) (by
    by_cases y : tst = 0
    · exact y
    · exact absurd (Or.inr y) q)⟩, fun w => ⟨h.w.1, h.w.2, ?_⟩⟩
  have hh := hC w
  have e : (if (rd M 67 11 = 3) ∧ (rd M 67 12 = (93 : Int)) then (1 : Int) else 0) = if kd i = 93 then 1 else 0 := by
    by_cases y : kd i = 93
    · rw [if_pos y, if_pos (s5.mpr y)]
    · rw [if_neg y, if_neg (fun z => y (s5.mp z))]
  rw [e]
  exact hh
end SP
