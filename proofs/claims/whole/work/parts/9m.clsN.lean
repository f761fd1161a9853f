/-! ===== the model's clause, whole ===== -/
/-- what readClause does from the sum on -/
def ClRest (G : GG) (d : Nat) (x2 : Int) (Q : PV → MM → Prop) (M13 : MM) : Prop := C G Y_X12_readExpression (d - 1) 0 0 [vA 67, vI 0] M13 (rU (fun M14 => Sh M14 ∧ 0 ≤ (x2 + 4) ∧ (x2 + 4) < 96 ∧ ∀ M17, M17 = wr M14 73 (x2 + 4) (rd M14 67 17) → Sh M17 → 0 ≤ (x2 + 5) ∧ (x2 + 5) < 96 ∧ ∀ M20, M20 = wr M17 73 (x2 + 5) (rd M17 67 17) → Sh M20 → inR (rd M20 67 14) ∧ (((rd M20 67 14) ≠ 0 → 0 ≤ (x2 + 6) ∧ (x2 + 6) < 96 ∧ ∀ M24, M24 = wr M20 73 (x2 + 6) (rd M20 67 17) → Sh M24 → Q vU M24) ∧ ((rd M20 67 14) = 0 → inR (rd M20 67 11) ∧ inL (rd M20 67 12) ∧ ((¬ (((rd M20 67 11) = 1) ∧ ((rd M20 67 12) = (294 : Int))) → 0 ≤ (x2 + 6) ∧ (x2 + 6) < 96 ∧ ∀ M29, M29 = wr M20 73 (x2 + 6) (rd M20 67 17) → Sh M29 → Q vU M29) ∧ (((rd M20 67 11) = 1) ∧ ((rd M20 67 12) = (294 : Int)) → C G Y_X12_goOn (d - 1) 0 0 [vA 67] M20 (rU (fun M30 => Sh M30 ∧ C G Y_X12_readExpression (d - 1) 0 0 [vA 67, vI 1] M30 (rU (fun M31 => Sh M31 ∧ 0 ≤ (x2 + 6) ∧ (x2 + 6) < 96 ∧ ∀ M34, M34 = wr M31 73 (x2 + 6) (rd M31 67 17) → Sh M34 → Q vU M34))))))))))
section CM
variable {G : GG} {d : Nat} {M M' M1 : MM} {Q : PV → MM → Prop} {tx : Int → Int} {L : Int} {kd : Nat → Int} {N i pt n nc : Nat}
theorem MPr.wH (h : MPr M tx L kd N i pt n) : ((rd M 67 11 = 1 ∧ rd M 67 12 = 20580147) ↔ kd i = 300) ∧ ((rd M 67 11 = 1 ∧ rd M 67 12 = 17376357) ↔ kd i = 301) ∧ ((rd M 67 11 = 1 ∧ rd M 67 12 = 294) ↔ kd i = 302) := by
  have w0 := h.wd (q := 0) (by decide) (by decide)
  have w1 := h.wd (q := 1) (by decide) (by decide)
  have w2 := h.wd (q := 2) (by decide) (by decide)
  rw [show gt wcdL 0 = 20580147 by decide] at w0
  rw [show gt wcdL 1 = 17376357 by decide] at w1
  rw [show gt wcdL 2 = 294 by decide] at w2
  exact ⟨w0, w1, w2⟩
/-- another head, or too many clauses -/
theorem T_headN (hd : 11 ≤ d) (hX : CtX tx L kd N) (h : MPr M tx L kd N i pt n) (h15 : rd M 67 15 = nc) (hn : nc ≤ 12) (hk : (kd i ≠ 300 ∧ kd i ≠ 301) ∨ nc = 12) (hq : ∀ M', FPr M' tx L i → Fr KMp M M' → Q vU M') : C G Y_X12_readClause d 0 0 [vA 67] M Q := by
  have hd2 : 2 ≤ d := by omega
  have hd3 : 2 ≤ d - 1 := by omega
  have i15 : inR (rd M 67 15) := by rw [h15]; exact ⟨by omega, by omega⟩
  have n12 : nc = 12 → ¬ (rd M 67 15 < 12) := fun w => by rw [h15]; omega
  have mN : C G Y_X12_must (d - 1) 0 0 [vA 67, vI 0] M (rU (fun M13 => FPr M13 tx L i ∧ Fr KMp M M13)) := T_mustPN hd3 hX h (fun M' q1 q2 => ⟨q1, q2⟩)
  have wH := h.wH
  refine C_X12_readClause (B_X12_readClause_0 hd2 h.1.1 ⟨h.w.1, h.w.2, fun v3 e3 => ?_⟩)
  by_cases y0 : kd i = 300
  · rw [if_pos (wH.1.mpr y0)] at e3
    subst e3
    have n : nc = 12 := by
      rcases hk with w | w
      · exact absurd y0 w.1
      · exact w
    refine ⟨⟨by decide, by decide⟩, fun _ => ⟨i15, ?_⟩, fun z => absurd z (by decide)⟩
    rw [if_neg (n12 n)]
    exact T_mustPN hd3 hX h (fun M' q1 q2 => ⟨q1.1, by rw [q1.2.1]; exact ⟨by decide, by decide⟩, fun z => absurd (q1.2.1.symm.trans z) (by decide), fun _ => hq M' q1 q2⟩)
  · rw [if_neg (fun z => y0 (wH.1.mp z))] at e3
    subst e3
    refine ⟨⟨by decide, by decide⟩, fun z => absurd rfl z, fun _ => ⟨fun _ => ?_, fun z => ⟨i15, ?_⟩⟩⟩
    · exact T_mustPN hd3 hX h (fun M' q1 q2 => ⟨q1.1, by rw [q1.2.1]; exact ⟨by decide, by decide⟩, fun z => absurd (q1.2.1.symm.trans z) (by decide), fun _ => hq M' q1 q2⟩)
    · have n : nc = 12 := by
        rcases hk with w | w
        · exact absurd (wH.2.1.mp z) w.2
        · exact w
      rw [if_neg (n12 n)]
      exact T_mustPN hd3 hX h (fun M' q1 q2 => ⟨q1.1, by rw [q1.2.1]; exact ⟨by decide, by decide⟩, fun z => absurd (q1.2.1.symm.trans z) (by decide), fun _ => hq M' q1 q2⟩)
/-- a good head -/
theorem T_headY (hd : 11 ≤ d) (hX : CtX tx L kd N) (h : MPr M tx L kd N i pt n) (h15 : rd M 67 15 = nc) (hn : nc < 12) (hk : kd i = 300 ∨ kd i = 301) (hq : ∀ M13, MPr M13 tx L kd N (i + 1) pt n → Fr KCl M M13 → SmC M M13 → (∀ j : Int, j < 8 * (nc : Int) → rd M13 73 j = rd M 73 j) → rd M13 67 15 = (nc : Int) + 1 → rd M13 73 (8 * (nc : Int)) = kd i - 300 → rd M13 73 (8 * (nc : Int) + 3) = n → ClRest G d (8 * (nc : Int)) Q M13) : C G Y_X12_readClause d 0 0 [vA 67] M Q := by
  have hi : i < N := hX.lt h.2.2.2.1 (by omega)
  have hd2 : 2 ≤ d := by omega
  have hd3 : 3 ≤ d - 1 := by omega
  have i15 : inR (rd M 67 15) := by rw [h15]; exact ⟨by omega, by omega⟩
  have n12 : rd M 67 15 < 12 := by rw [h15]; omega
  have go : ∀ x1 : Int, (x1 = 0 ∨ x1 = 1) → (if x1 = 0 then (1 : Int) else 0) = kd i - 300 → C G Y_X12_must (d - 1) 0 0 [vA 67, vI 1] M (rU (fun M10 => Sh M10 ∧ inR (rd M10 67 14) ∧ (((rd M10 67 14) = 0 → ∀ v12, v12 = 8 * (rd M10 67 15) → X G Y_X12_readClause d 0 0 58 [vA 67, vI x1, vI v12, vI 0] [] M10 Q) ∧ ((rd M10 67 14) ≠ 0 → Q vU M10)))) := by
    intro x1 hx1 hxv
    refine T_mustPY hd3 hX h hi (fun M10 S10 F10 => ⟨S10.1.1, by rw [S10.1.2.2.2]; exact ⟨by decide, by decide⟩, fun _ v12 e12 => ?_, fun w => absurd S10.1.2.2.2 w⟩)
    have k15 : rd M10 67 15 = nc := by rw [F10.2.2 67 15 (by unfold KTm; omega)]; exact h15
    rw [k15] at e12
    subst e12
    refine clause_58 hd2 hn (M0 := M10) (fun M8 s8 r8 F8 => ?_) 8 0 M10 rfl (by decide) (by decide) S10.1.1 (fun _ _ _ => rfl) Fr.rf
    have S8 : MPr M8 tx L kd N (i + 1) pt n := S10.fr s8 (fun j _ => r8 67 j (fun z => absurd z.1 (by decide))) (fun a j _ q => r8 a j (fun z => q z.1))
    refine B_X12_readClause_58 hd2 s8 ⟨⟨by decide, by decide⟩, fun _ => ⟨⟨by omega, by omega⟩, by omega, by omega, fun M9 e9 s9 M11 e11 s11 => ⟨by omega, by omega, fun M13 e13 s13 => ?_⟩⟩, fun w => absurd w (by decide)⟩
    have k17 : rd M11 67 17 = n := by rw [e11, rd_wr, if_neg (by omega), e9, rd_wr, if_neg (by omega)]; exact S8.2.1.2
    have k915 : rd M9 67 15 = nc := by rw [e9, rd_wr, if_neg (by omega), r8 67 15 (fun z => absurd z.1 (by decide))]; exact k15
    refine hq M13 (S8.fr s13 (fun j q => by rw [e13, rd_wr, if_neg (by omega), e11, rd_wr, if_neg (fun z => q z.2), e9, rd_wr, if_neg (by omega)]) (fun a j q q2 => by rw [e13, rd_wr, if_neg (fun z => q2 z.1), e11, rd_wr, if_neg (fun z => q z.1), e9, rd_wr, if_neg (fun z => q2 z.1)])) ?_ ⟨funext fun k => ?_, funext fun k => ?_⟩ (fun j hj => ?_) ?_ ?_ ?_
    · rw [e13, e11, e9]
      exact ((((F10.mono (fun _ _ z => Or.inl (KTm_p z))).tr F8).wr (Or.inr (Or.inl rfl))).wr (Or.inr (Or.inr ⟨rfl, rfl⟩))).wr (Or.inr (Or.inl rfl))
    · rw [e13, rd_wr, if_neg (by omega), e11, rd_wr, if_neg (by omega), e9, rd_wr, if_neg (by omega), r8 74 k (fun z => absurd z.1 (by decide)), F10.2.2 74 k (by unfold KTm; omega)]
    · rw [e13, rd_wr, if_neg (by omega), e11, rd_wr, if_neg (by omega), e9, rd_wr, if_neg (by omega), r8 75 k (fun z => absurd z.1 (by decide)), F10.2.2 75 k (by unfold KTm; omega)]
    · rw [e13, rd_wr, if_neg (by omega), e11, rd_wr, if_neg (by omega), e9, rd_wr, if_neg (by omega), r8 73 j (by omega), F10.2.2 73 j (by unfold KTm; omega)]
    · rw [e13, rd_wr, if_neg (by omega), e11, rd_wr, if_pos ⟨rfl, rfl⟩, k915]
    · rw [e13, rd_wr, if_neg (by omega), e11, rd_wr, if_neg (by omega), e9, rd_wr, if_pos ⟨rfl, rfl⟩]; exact hxv
    · rw [e13, rd_wr, if_pos ⟨rfl, rfl⟩]; exact k17
  have wH := h.wH
  refine C_X12_readClause (B_X12_readClause_0 hd2 h.1.1 ⟨h.w.1, h.w.2, fun v3 e3 => ?_⟩)
  by_cases y0 : kd i = 300
  · rw [if_pos (wH.1.mpr y0)] at e3
    subst e3
    refine ⟨⟨by decide, by decide⟩, fun _ => ⟨i15, ?_⟩, fun z => absurd z (by decide)⟩
    rw [if_pos n12]
    exact go 1 (Or.inr rfl) (by rw [y0]; rfl)
  · have y1 : kd i = 301 := by
      rcases hk with w | w
      · exact absurd w y0
      · exact w
    rw [if_neg (fun z => y0 (wH.1.mp z))] at e3
    subst e3
    refine ⟨⟨by decide, by decide⟩, fun z => absurd rfl z, fun _ => ⟨fun z => absurd (wH.2.1.mpr y1) z, fun _ => ⟨i15, ?_⟩⟩⟩
    rw [if_pos n12]
    exact go 0 (Or.inl rfl) (by rw [y1]; rfl)
end CM
