/-! ===== the model reads a clause ===== -/
def KCl (a j : Int) : Prop := KMp a j ∨ a = 73 ∨ (a = 67 ∧ j = 15)
section CL
variable {G : GG} {d : Nat} {M M' M1 : MM} {Q : PV → MM → Prop} {tx : Int → Int} {L : Int} {kd : Nat → Int} {N i pt n : Nat}
theorem MPr.adv (h : MPr M tx L kd N i pt n) (hS : Sh M') (hF : Fr KTm M M') (hA : TkA M' tx L (plT tx L (i + 1)) (kd (i + 1))) (hi : i < N) : MPr M' tx L kd N (i + 1) pt n := by
  obtain ⟨⟨a1, a2, a3, a4⟩, ⟨b1, b2⟩, e1, ⟨f1, f2, f4⟩⟩ := h
  have r : ∀ j, ¬ (j = 9 ∨ j = 10 ∨ j = 11 ∨ j = 12) → rd M' 67 j = rd M 67 j := fun j q => hF.2.2 67 j (fun w => q w.2)
  have r2 : ∀ a j, a ≠ 67 → rd M' a j = rd M a j := fun a j q => hF.2.2 a j (fun w => q w.1)
  exact ⟨⟨hS, a2.fr hF, hA, by rw [r 14 (by decide)]; exact a4⟩, ⟨by rw [r 20 (by decide)]; exact b1, by rw [r 17 (by decide)]; exact b2⟩, fun k k0 k1 => by rw [r2 78 k (by decide)]; exact e1 k k0 k1, ⟨by omega, f2, by omega⟩⟩
/-- cells that the state does not speak of -/
theorem MPr.fr (h : MPr M tx L kd N i pt n) (hS : Sh M') (r : ∀ j, j ≠ 15 → rd M' 67 j = rd M 67 j) (r2 : ∀ a j, a ≠ 67 → a ≠ 73 → rd M' a j = rd M a j) : MPr M' tx L kd N i pt n := by
  obtain ⟨⟨a1, a2, a3, a4⟩, ⟨b1, b2⟩, e1, f⟩ := h
  exact ⟨⟨hS, ⟨fun j => by rw [r2 72 j (by decide) (by decide)]; exact a2.1 j, by rw [r 8 (by decide)]; exact a2.2.1, by rw [r 13 (by decide)]; exact a2.2.2⟩, a3.fr (r 9 (by decide)) (r 10 (by decide)) (r 11 (by decide)) (r 12 (by decide)), by rw [r 14 (by decide)]; exact a4⟩, ⟨by rw [r 20 (by decide)]; exact b1, by rw [r 17 (by decide)]; exact b2⟩, fun k k0 k1 => by rw [r2 78 k (by decide) (by decide)]; exact e1 k k0 k1, f⟩
theorem MPr.w (h : MPr M tx L kd N i pt n) : inR (rd M 67 11) ∧ inL (rd M 67 12) := h.1.2.2.1.2.2.2.r
theorem MPr.wd (h : MPr M tx L kd N i pt n) {q : Int} (q0 : 0 ≤ q) (q1 : q < 13) : (rd M 67 11 = 1 ∧ rd M 67 12 = gt wcdL q) ↔ kd i = 300 + q := h.1.2.2.1.2.2.1.word q0 q1
theorem MPr.sg (h : MPr M tx L kd N i pt n) {c : Int} (c0 : 0 ≤ c) (c1 : c ≤ 255) : (rd M 67 11 = 3 ∧ rd M 67 12 = c) ↔ kd i = c := h.1.2.2.1.2.2.1.sign c0 c1
theorem T_mustPY (hd : 3 ≤ d) (hX : CtX tx L kd N) (h : MPr M tx L kd N i pt n) (hi : i < N) (hq : ∀ M', MPr M' tx L kd N (i + 1) pt n → Fr KTm M M' → Q vU M') : C G Y_X12_must d 0 0 [vA 67, vI 1] M Q := by
  have h' := h
  obtain ⟨⟨a1, a2, a3, a4⟩, -⟩ := h
  refine C_X12_must (B_X12_must_0 (by omega) a1 ⟨by rw [a4]; exact ⟨by decide, by decide⟩, ⟨by decide, by decide⟩, fun _ => ⟨fun w => absurd a4 w, fun _ => ?_⟩, fun w => absurd (Or.inr (by decide)) w⟩)
  exact T_go (by omega) hX a1 a2 a3 hi (fun M9 s9 F9 A9 => ⟨s9, hq M9 (h'.adv s9 F9 A9 hi) F9⟩)
theorem T_mustPN (hd : 2 ≤ d) (hX : CtX tx L kd N) (h : MPr M tx L kd N i pt n) (hq : ∀ M', FPr M' tx L i → Fr KMp M M' → Q vU M') : C G Y_X12_must d 0 0 [vA 67, vI 0] M Q := by
  obtain ⟨⟨a1, a2, a3, a4⟩, ⟨b1, b2⟩, e1, ⟨f1, f2, f4⟩⟩ := h
  have hn := hX.n400
  refine C_X12_must (B_X12_must_0 hd a1 ⟨by rw [a4]; exact ⟨by decide, by decide⟩, ⟨by decide, by decide⟩, fun w => ?_, fun _ M10 e10 s10 M11 e11 s11 => ?_⟩)
  · rcases w with w | w
    · exact absurd a4 w
    · exact absurd rfl w
  · have k14 : rd M11 67 14 = 1 := by rw [e11, rd_wr, if_neg (by omega), e10, rd_wr, if_pos ⟨rfl, rfl⟩]
    have k13 : rd M11 67 13 = plT tx L i := by rw [e11, rd_wr, if_pos ⟨rfl, rfl⟩, e10, rd_wr, if_neg (by omega)]; exact a3.1
    have k17 : rd M11 67 17 = n := by rw [e11, rd_wr, if_neg (by omega), e10, rd_wr, if_neg (by omega)]; exact b2
    refine ⟨by rw [k14]; exact ⟨by decide, by decide⟩, fun _ => hq M11 ⟨s11, k14, k13, n, k17, by omega⟩ ?_, fun w => absurd (k14.symm.trans w) (by decide)⟩
    rw [e11, e10]
    exact (Fr.rf.wr (by unfold KMp; omega)).wr (by unfold KMp; omega)
/-- a clause in the model's memory -/
def MCl (M : MM) (b n n' : Int) (c : Cls) : Prop := rd M 73 b = c.1 ∧ (c.1 = 0 ∨ c.1 = 1) ∧ rd M 73 (b + 3) = n ∧ rd M 73 (b + 6) = n' ∧ rd M 73 (b + 5) = rd M 73 (b + 4) ∧ n < rd M 73 (b + 4) ∧ rd M 73 (b + 4) ≤ n' ∧ Frg (rd M 74) (rd M 75) n (rd M 73 (b + 4)) 50 c.2.1 ∧ ((rd M 73 (b + 4) = n' ∧ c.2.2 = none) ∨ (rd M 73 (b + 4) < n' ∧ ∃ w, c.2.2 = some w ∧ Frg (rd M 74) (rd M 75) (rd M 73 (b + 4)) n' 50 w))
theorem clause_58 {k nn nc : Nat} {x1 : Int} (hd : 2 ≤ d) (hnc : nc < 12) {M0 : MM} (hq : ∀ M', Sh M' → (∀ a j, ¬ (a = 73 ∧ 8 * (nc : Int) ≤ j) → rd M' a j = rd M0 a j) → Fr KCl M0 M' → X G Y_X12_readClause d k nn 58 [vA 67, vI x1, vI (8 * (nc : Int)), vI 8] [] M' Q) : ∀ (m : Nat) (x3 : Int) (M : MM), (8 - x3).toNat = m → 0 ≤ x3 → x3 ≤ 8 → Sh M → (∀ a j, ¬ (a = 73 ∧ 8 * (nc : Int) ≤ j) → rd M a j = rd M0 a j) → Fr KCl M0 M → X G Y_X12_readClause d k nn 58 [vA 67, vI x1, vI (8 * (nc : Int)), vI x3] [] M Q
  | 0, x3, M, hm, h0, h1, hS, hr, hF => by
    have : x3 = 8 := by omega
    subst this
    exact hq M hS hr hF
  | m + 1, x3, M, hm, h0, h1, hS, hr, hF => by
    refine B_X12_readClause_58 hd hS ⟨⟨by omega, by omega⟩, fun w => by omega, fun _ => ⟨by omega, by omega, fun M37 e37 s37 => ?_⟩⟩
    refine clause_58 hd hnc hq m (x3 + 1) M37 (by omega) (by omega) (by omega) s37 (fun a j q => ?_) (by rw [e37]; exact hF.wr (Or.inr (Or.inl rfl)))
    rw [e37, rd_wr, if_neg (fun z => q ⟨z.1, by omega⟩)]
    exact hr a j q
end CL
