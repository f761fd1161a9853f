/-! ===== still more steps ===== -/
section SQ
variable {G : GG} {d : Nat} {M M' M1 M2 : MM} {Q : PV → MM → Prop} {tx : Int → Int} {L : Int} {kd : Nat → Int} {N i pt n br : Nat} {π ρ : Pil} {tst : Int}
theorem T_open {x1 : Int} (hd : 4 ≤ d) (hX : CtX tx L kd N) (h : MSt M tx L kd N i pt n π br) (hi : i < N) (hbr : br < 8) (hx : x1 = 30 ∨ x1 = 31) (hq : ∀ M', MSt M' tx L kd N (i + 1) pt n ((x1, 0) :: π) (br + 1) → Fr KMp M M' → SmC M M' → Q vU M') : C G Y_X12_openBracket d 0 0 [vA 67, vI x1] M Q := by
  have e24 := h.2.1.2.2.2
  have f := h.2.2.2.2
  refine C_X12_openBracket (B_X12_openBracket_0 (by omega) h.1.1 ⟨by rw [e24]; exact ⟨by omega, by omega⟩, ?_⟩)
  rw [e24, if_pos (by omega)]
  refine T_mustY (by omega) hX h hi ⟨by decide, by decide⟩ (by decide) (fun M6 S6 F6 => ⟨S6.1.1, by rw [S6.1.2.2.2]; exact ⟨by decide, by decide⟩, fun w => absurd S6.1.2.2.2 w, fun _ M8 e8 s8 => ?_⟩)
  have e8' : M8 = wr M6 67 24 ((br + 1 : Nat) : Int) := by rw [e8, S6.2.1.2.2.2, show (br : Int) + 1 = ((br + 1 : Nat) : Int) by omega]
  obtain ⟨S8, F8, C8⟩ := S6.f24 e8' s8 (by omega)
  refine T_push1 (by omega) hX S8 (by omega) (by omega) (by omega) (by omega) (fun w => by omega) (fun M9 S9 F9 C9 => ⟨S9.1.1, hq M9 S9 (((F6.mono (fun _ _ => KTm_p)).tr F8).tr F9) (((SmC.fr F6).tr C8).tr C9)⟩)
theorem T_openN {x1 : Int} (hd : 4 ≤ d) (hX : CtX tx L kd N) (h : MSt M tx L kd N i pt n π 8) (hq : ∀ M', FSt M' tx L i → Fr KMp M M' → Q vU M') : C G Y_X12_openBracket d 0 0 [vA 67, vI x1] M Q := by
  have e24 := h.2.1.2.2.2
  refine C_X12_openBracket (B_X12_openBracket_0 (by omega) h.1.1 ⟨by rw [e24]; exact ⟨by decide, by decide⟩, ?_⟩)
  rw [e24, if_neg (by decide)]
  exact T_mustN (by omega) hX h (fun M6 S6 F6 => ⟨S6.1, S6.nb.2.2, fun _ => hq M6 S6 F6, fun w => absurd w S6.nb.2.1⟩)
theorem T_leafY {x1 x2 x3 : Int} (hd : 4 ≤ d) (hX : CtX tx L kd N) (h : MSt M tx L kd N i pt n π br) (hi : i < N) (hp : pt < 50) (hx : x1 = 1) (hq : ∀ M', MSt M' tx L kd N (i + 1) (pt + 1) (n + 1) π br → Fr KMp M M' → rd M' 74 = upF (rd M 74) n x2 → rd M' 75 = upF (rd M 75) n x3 → Q vU M') : C G Y_X12_leaf d 0 0 [vA 67, vI x1, vI x2, vI x3] M Q := by
  have e20 := h.2.1.1
  have f := h.2.2.2.2
  have hn := hX.n400
  subst hx
  refine C_X12_leaf (B_X12_leaf_0 (by omega) h.1.1 ⟨⟨by decide, by decide⟩, by rw [e20]; exact ⟨by omega, by omega⟩, ?_⟩)
  rw [e20, if_pos ⟨by decide, by omega⟩]
  refine T_mustY (by omega) hX h hi ⟨by decide, by decide⟩ (by decide) (fun M6 S6 F6 => ⟨S6.1.1, by rw [S6.1.2.2.2]; exact ⟨by decide, by decide⟩, fun w => absurd S6.1.2.2.2 w, fun _ => ?_⟩)
  refine T_X12_emit (by omega) S6.1.1 S6.2.1.2.1 (by omega) (fun M7 s7 F7 g1 g2 g3 g4 => ⟨s7, fun M15 e15 s15 => ?_⟩)
  obtain ⟨⟨a1, a2, a3, a4⟩, ⟨b1, b2, b3, b4⟩, ⟨c1, c2⟩, k1, ⟨f1, f2, f3, f4, f5⟩⟩ := S6
  have r : ∀ j, j ≠ 20 → j ≠ 17 → rd M15 67 j = rd M6 67 j := fun j q q2 => by
    rw [e15, rd_wr, if_neg (fun z => q z.2)]
    by_cases y : j = 23
    · rw [y]; exact g4
    · exact F7.2.2 67 j (by unfold KSe; omega)
  have r2 : ∀ a j, a ≠ 67 → a ≠ 74 → a ≠ 75 → rd M15 a j = rd M6 a j := fun a j q q2 q3 => by
    rw [e15, rd_wr, if_neg (fun z => q z.1)]; exact F7.2.2 a j (by unfold KSe; omega)
  have h20 : rd M7 67 20 = pt := by rw [F7.2.2 67 20 (by unfold KSe; omega)]; exact b1
  have sc := SmC.fr F6
  refine hq M15 ⟨⟨s15, ⟨fun j => by rw [r2 72 j (by decide) (by decide) (by decide)]; exact a2.1 j, by rw [r 8 (by decide) (by decide)]; exact a2.2.1, by rw [r 13 (by decide) (by decide)]; exact a2.2.2⟩, a3.fr (r 9 (by decide) (by decide)) (r 10 (by decide) (by decide)) (r 11 (by decide) (by decide)) (r 12 (by decide) (by decide)), by rw [r 14 (by decide) (by decide)]; exact a4⟩, ⟨by rw [e15, rd_wr, if_pos ⟨rfl, rfl⟩, h20]; omega, by rw [e15, rd_wr, if_neg (by omega), g3]; omega, by rw [r 23 (by decide) (by decide)]; exact b3, by rw [r 24 (by decide) (by decide)]; exact b4⟩, ⟨PlM.fr π c1 (fun j _ _ => ⟨r2 76 j (by decide) (by decide) (by decide), r2 77 j (by decide) (by decide) (by decide)⟩), c2⟩, fun k k0 k1' => by rw [r2 78 k (by decide) (by decide) (by decide)]; exact k1 k k0 k1', ⟨f1, by omega, f3, by omega, f5⟩⟩ ?_ ?_ ?_
  · rw [e15]; exact ((F6.mono (fun _ _ => KTm_p)).tr (F7.mono (fun _ _ => KSe_p))).wr (by unfold KMp; omega)
  · have : rd M15 74 = rd M7 74 := funext fun k => by rw [e15, rd_wr, if_neg (by omega)]
    rw [this, g1, sc.1]
  · have : rd M15 75 = rd M7 75 := funext fun k => by rw [e15, rd_wr, if_neg (by omega)]
    rw [this, g2, sc.2]
theorem T_leafN {x1 x2 x3 : Int} (hd : 4 ≤ d) (hX : CtX tx L kd N) (h : MSt M tx L kd N i pt n π br) (hx : x1 = 0 ∨ (x1 = 1 ∧ 50 ≤ pt)) (hq : ∀ M', FSt M' tx L i → Fr KMp M M' → Q vU M') : C G Y_X12_leaf d 0 0 [vA 67, vI x1, vI x2, vI x3] M Q := by
  have e20 := h.2.1.1
  have f := h.2.2.2.2
  refine C_X12_leaf (B_X12_leaf_0 (by omega) h.1.1 ⟨⟨by omega, by omega⟩, by rw [e20]; exact ⟨by omega, by omega⟩, ?_⟩)
  rw [e20, if_neg (by omega)]
  exact T_mustN (by omega) hX h (fun M6 S6 F6 => ⟨S6.1, S6.nb.2.2, fun _ => hq M6 S6 F6, fun w => absurd w S6.nb.2.1⟩)
theorem SW.dig {so wo k : Int} (h : SW so wo k) : (so = 2 ∧ wo ≤ 1000) ↔ (1000 ≤ k ∧ k ≤ 2000) := by
  rcases h with ⟨h1, h2⟩ | ⟨h1, h2⟩ | ⟨h1, h2⟩ | ⟨h1, h2, h3, h4⟩
  · omega
  · rcases h2 with ⟨q, q0, q1, e, _⟩ | ⟨e, _⟩ <;> omega
  · omega
  · omega
theorem SW.dgv {so wo k : Int} (h : SW so wo k) (h1 : so = 2) (h2 : wo ≤ 1000) : wo = k - 1000 := by
  rcases h with ⟨q1, q2⟩ | ⟨q1, q2⟩ | ⟨q1, q2⟩ | ⟨q1, q2, q3, q4⟩
  · omega
  · omega
  · omega
  · omega
/-- a leaf of the code -/
def lfO (k : Int) : Int := if 1000 ≤ k then 0 else k - 305
def lfT (k : Int) : Int := if 1000 ≤ k then k - 1000 else 0
theorem rp_leaf (hd : 6 ≤ d) (hX : CtX tx L kd N) (h : MSt M tx L kd N i pt n π br) (n91 : kd i ≠ 91) (hl : lfK (kd i)) (hp : pt < 50) (hq : ∀ M', MSt M' tx L kd N (i + 1) (pt + 1) (n + 1) π br → Fr KMp M M' → rd M' 74 = upF (rd M 74) n (lfO (kd i)) → rd M' 75 = upF (rd M 75) n (lfT (kd i)) → Q (vI 3) M') : C G Y_X12_readPart d 0 0 [vA 67] M Q := by
  have hi : i < N := hX.lt h.2.2.2.2.1 (by unfold lfK at hl; omega)
  have hd2 : 2 ≤ d := by omega
  have hd3 : 2 ≤ d - 1 := by omega
  have hd4 : 4 ≤ d - 1 := by omega
  have hw := h.1.2.2.1.2.2
  have dg := hw.1.dig
  have s91 := h.sg (c := 91) (by decide) (by decide)
  refine C_X12_readPart (B_X12_readPart_0 hd2 h.1.1 ⟨h.w.1, h.w.2, fun _ => ?_, fun w => absurd (s91.mp w) n91⟩)
  refine T_X12_partAt hd3 h.1.1 hw.1 hw.2 h.2.2.2.1 ⟨h.1.1, h.w.1, h.w.2, fun w => ?_, fun w => ?_⟩
  · have nd : ¬ (1000 ≤ kd i ∧ kd i ≤ 2000) := fun y => by
      have := dg.mpr y
      rcases w with w | w
      · exact w this.1
      · exact absurd this.2 (by clear dg; omega)
    have yf : 306 ≤ kd i ∧ kd i ≤ 312 := by
      rcases hl with y | y
      · exact absurd y nd
      · exact y
    clear dg s91
    have ep : prtV (kd i) = kd i - 305 := if_pos yf
    have eo : lfO (kd i) = kd i - 305 := if_neg (by omega)
    have et : lfT (kd i) = 0 := if_neg (by omega)
    rw [eo, et] at hq
    rw [ep]
    refine B_X12_readPart_45 hd2 h.1.1 ⟨⟨by omega, by omega⟩, fun _ => ?_, fun z => by omega⟩
    rw [if_pos (by omega)]
    exact T_leafY hd4 hX h hi hp rfl (fun M6 S6 F6 g1 g2 => ⟨S6.1.1, hq M6 S6 F6 g1 g2⟩)
  · have y2 : rd M 67 11 = 2 := by
      by_cases y : rd M 67 11 = 2
      · exact y
      · exact absurd (Or.inl y) w
    have y3 : rd M 67 12 ≤ 1000 := by
      by_cases y : 1000 < rd M 67 12
      · exact absurd (Or.inr y) w
      · clear dg s91; omega
    have yd := dg.mp ⟨y2, y3⟩
    have ev := hw.1.dgv y2 y3
    clear dg s91
    have ep : prtV (kd i) = -1 := if_neg (by omega)
    have eo : lfO (kd i) = 0 := if_pos yd.1
    have et : lfT (kd i) = kd i - 1000 := if_pos yd.1
    rw [eo, et] at hq
    rw [ep]
    refine ⟨⟨by decide, by decide⟩, fun z => absurd rfl z, fun _ => ?_⟩
    rw [if_neg (by decide), ev]
    exact T_leafY hd4 hX h hi hp rfl (fun M6 S6 F6 g1 g2 => ⟨S6.1.1, hq M6 S6 F6 g1 g2⟩)
theorem rp_no (hd : 6 ≤ d) (hX : CtX tx L kd N) (h : MSt M tx L kd N i pt n π br) (n91 : kd i ≠ 91) (hl : ¬ lfK (kd i) ∨ 50 ≤ pt) (hq : ∀ M', FSt M' tx L i → Fr KMp M M' → Q (vI 3) M') : C G Y_X12_readPart d 0 0 [vA 67] M Q := by
  have hd2 : 2 ≤ d := by omega
  have hd3 : 2 ≤ d - 1 := by omega
  have hd4 : 4 ≤ d - 1 := by omega
  have hw := h.1.2.2.1.2.2
  have s91 := h.sg (c := 91) (by decide) (by decide)
  refine C_X12_readPart (B_X12_readPart_0 hd2 h.1.1 ⟨h.w.1, h.w.2, fun _ => ?_, fun w => absurd (s91.mp w) n91⟩)
  have dg := hw.1.dig
  refine T_X12_partAt hd3 h.1.1 hw.1 hw.2 h.2.2.2.1 ⟨h.1.1, h.w.1, h.w.2, fun w => ?_, fun w => ?_⟩
  · have nd : ¬ (1000 ≤ kd i ∧ kd i ≤ 2000) := fun y => by
      have := dg.mpr y
      rcases w with w | w
      · exact w this.1
      · exact absurd this.2 (by clear dg; omega)
    clear dg s91
    by_cases yf : 306 ≤ kd i ∧ kd i ≤ 312
    · have ep : prtV (kd i) = kd i - 305 := if_pos yf
      have h50 : 50 ≤ pt := by
        rcases hl with y | y
        · exact absurd (Or.inr yf) y
        · exact y
      rw [ep]
      refine B_X12_readPart_45 hd2 h.1.1 ⟨⟨by omega, by omega⟩, fun _ => ?_, fun z => by omega⟩
      exact T_leafN hd4 hX h (Or.inr ⟨rfl, h50⟩) (fun M6 S6 F6 => ⟨S6.1, hq M6 S6 F6⟩)
    · have ep : prtV (kd i) = -1 := if_neg yf
      rw [ep]
      refine B_X12_readPart_45 hd2 h.1.1 ⟨⟨by decide, by decide⟩, fun z => absurd rfl z, fun _ => ?_⟩
      exact T_leafN hd4 hX h (Or.inl rfl) (fun M6 S6 F6 => ⟨S6.1, hq M6 S6 F6⟩)
  · have y2 : rd M 67 11 = 2 := by
      by_cases y : rd M 67 11 = 2
      · exact y
      · exact absurd (Or.inl y) w
    have y3 : rd M 67 12 ≤ 1000 := by
      by_cases y : 1000 < rd M 67 12
      · exact absurd (Or.inr y) w
      · clear dg s91; omega
    have yd := dg.mp ⟨y2, y3⟩
    clear dg s91
    have h50 : 50 ≤ pt := by
      rcases hl with y | y
      · exact absurd (Or.inl yd) y
      · exact y
    have ep : prtV (kd i) = -1 := if_neg (by omega)
    rw [ep]
    refine ⟨⟨by decide, by decide⟩, fun z => absurd rfl z, fun _ => ?_⟩
    exact T_leafN hd4 hX h (Or.inr ⟨rfl, h50⟩) (fun M6 S6 F6 => ⟨S6.1, hq M6 S6 F6⟩)
theorem rp_sq (hd : 6 ≤ d) (hX : CtX tx L kd N) (h : MSt M tx L kd N i pt n π br) (y91 : kd i = 91) (hb : br < 8) (hq : ∀ M', MSt M' tx L kd N (i + 1) pt n ((31, 0) :: π) (br + 1) → Fr KMp M M' → SmC M M' → Q (vI 1) M') : C G Y_X12_readPart d 0 0 [vA 67] M Q := by
  have hi : i < N := hX.lt h.2.2.2.2.1 (by rw [y91]; decide)
  have s91 := (h.sg (c := 91) (by decide) (by decide)).mpr y91
  refine C_X12_readPart (B_X12_readPart_0 (by omega) h.1.1 ⟨h.w.1, h.w.2, fun w => absurd s91 w, fun _ => ?_⟩)
  exact T_open (by omega) hX h hi hb (Or.inr rfl) (fun M6 S6 F6 C6 => ⟨S6.1.1, hq M6 S6 F6 C6⟩)
theorem rp_sqN (hd : 6 ≤ d) (hX : CtX tx L kd N) (h : MSt M tx L kd N i pt n π 8) (y91 : kd i = 91) (hq : ∀ M', FSt M' tx L i → Fr KMp M M' → Q (vI 1) M') : C G Y_X12_readPart d 0 0 [vA 67] M Q := by
  have s91 := (h.sg (c := 91) (by decide) (by decide)).mpr y91
  refine C_X12_readPart (B_X12_readPart_0 (by omega) h.1.1 ⟨h.w.1, h.w.2, fun w => absurd s91 w, fun _ => ?_⟩)
  exact T_openN (by omega) hX h (fun M6 S6 F6 => ⟨S6.1, hq M6 S6 F6⟩)
/-- a part may be read at two turns -/
def trn (kd : Nat → Int) (i : Nat) (t : Int) : Prop := t = 1 ∨ (t = 0 ∧ kd i ≠ 305 ∧ kd i ≠ 40)
theorem XE_part {t : Int} (hd : 9 ≤ d) (h : MSt M tx L kd N i pt n π br) (ht : trn kd i t) (hC : ∀ (d' : Nat) (Q' : PV → MM → Prop), 6 ≤ d' → (∀ r M', Sh M' → XE G d tst Q r M' → Q' (vI r) M') → C G Y_X12_readPart d' 0 0 [vA 67] M Q') : XE G d tst Q t M := by
  rcases ht with e | ⟨e, e1, e2⟩
  · rw [e]; exact XE_1 (by omega) h.1.1 h.1.2.2.2 (hC _ _ (by omega) (fun r M' q1 q2 => ⟨q1, q2⟩))
  · rw [e]
    have w5 := h.wd (q := 5) (by decide) (by decide)
    rw [show gt wcdL 5 = 14836 by decide] at w5
    have s40 := h.sg (c := 40) (by decide) (by decide)
    have hd2 : 2 ≤ d - 1 := by clear w5 s40; omega
    have hd3 : 3 ≤ d := by clear w5 s40; omega
    have hd6 : 6 ≤ d - 1 - 1 := by clear w5 s40; omega
    refine XE_0 hd3 h.1.1 h.1.2.2.2 (C_X12_readPlain (B_X12_readPlain_0 hd2 h.1.1 ⟨h.w.1, h.w.2, fun _ => ⟨fun _ => ?_, fun w => absurd (s40.mp w) e2⟩, fun w => absurd (w5.mp w) e1⟩))
    exact hC _ _ hd6 (fun r M' q1 q2 => ⟨q1, q1, q2⟩)
end SQ
