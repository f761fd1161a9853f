/-! ===== the model's clause against the derivation ===== -/
section CN
variable {G : GG} {d : Nat} {M M' M1 : MM} {Q : PV → MM → Prop} {tx : Int → Int} {L : Int} {kd : Nat → Int} {N i pt n nc a p : Nat}
theorem FPr.fr (h : FPr M tx L a) (hS : Sh M') (r : ∀ j, rd M' 67 j = rd M 67 j) : FPr M' tx L a := by
  obtain ⟨h1, h2, h3, m, h4, h5⟩ := h
  exact ⟨hS, by rw [r]; exact h2, by rw [r]; exact h3, m, by rw [r]; exact h4, h5⟩
theorem T_clauseN (hd : 11 ≤ d) (hX : CtX tx L kd N) (h : MPr M tx L kd N i pt n) (h15 : rd M 67 15 = nc) (hn : nc < 12) (hC : ClD kd i pt a p none) (hq : ∀ M', FPr M' tx L a → Fr KCl M M' → Q vU M') : C G Y_X12_readClause d 0 0 [vA 67] M Q := by
  have hd9 : 9 ≤ d - 1 := by omega
  have hd2 : 2 ≤ d - 1 := by omega
  rcases hC with ⟨k1, k2, k3, k4⟩ | ⟨hk, hD⟩
  · subst k3
    exact T_headN hd hX h h15 (by omega) (Or.inl ⟨k1, k2⟩) (fun M' q1 q2 => hq M' q1 (q2.mono (fun _ _ => Or.inl)))
  · refine T_headY hd hX h h15 hn hk (fun M13 S13 F13 C13 J13 K13 A13 B13 => ?_)
    rcases hD with hD | ⟨a1, p1, v, hD, k302, hD2⟩
    · refine T_sumN hd9 hX S13 hD (fun M14 S14 F14 => ⟨S14.1, by omega, by omega, fun M17 e17 s17 => ⟨by omega, by omega, fun M20 e20 s20 => ?_⟩⟩)
      have S20 : FPr M20 tx L a := S14.fr s20 (fun j => by rw [e20, rd_wr, if_neg (by omega), e17, rd_wr, if_neg (by omega)])
      have F20 : Fr KCl M M20 := by rw [e20, e17]; exact ((F13.tr (F14.mono (fun _ _ => Or.inl))).wr (Or.inr (Or.inl rfl))).wr (Or.inr (Or.inl rfl))
      refine ⟨by rw [S20.2.1]; exact ⟨by decide, by decide⟩, fun _ => ⟨by omega, by omega, fun M24 e24 s24 => ?_⟩, fun w => absurd (S20.2.1.symm.trans w) (by decide)⟩
      exact hq M24 (S20.fr s24 (fun j => by rw [e24, rd_wr, if_neg (by omega)])) (by rw [e24]; exact F20.wr (Or.inr (Or.inl rfl)))
    · refine T_sumY hd9 hX S13 hD (fun M14 n' S14 F14 D14 l14 f14 o14 p14 => ⟨S14.1.1, by omega, by omega, fun M17 e17 s17 => ⟨by omega, by omega, fun M20 e20 s20 => ?_⟩⟩)
      have S20 : MPr M20 tx L kd N a1 p1 n' := S14.fr s20 (fun j _ => by rw [e20, rd_wr, if_neg (by omega), e17, rd_wr, if_neg (by omega)]) (fun b j _ q => by rw [e20, rd_wr, if_neg (fun z => q z.1), e17, rd_wr, if_neg (fun z => q z.1)])
      have F20 : Fr KCl M M20 := by rw [e20, e17]; exact ((F13.tr (F14.mono (fun _ _ => Or.inl))).wr (Or.inr (Or.inl rfl))).wr (Or.inr (Or.inl rfl))
      have hi1 : a1 < N := hX.lt S20.2.2.2.1 (by rw [k302]; decide)
      have w2 := S20.wH.2.2.mpr k302
      refine ⟨by rw [S20.1.2.2.2]; exact ⟨by decide, by decide⟩, fun w => absurd S20.1.2.2.2 w, fun _ => ⟨S20.w.1, S20.w.2, fun w => absurd w2 w, fun _ => ?_⟩⟩
      refine T_go hd2 hX S20.1.1 S20.1.2.1 S20.1.2.2.1 hi1 (fun M30 s30 F30 A30 => ⟨s30, ?_⟩)
      have S30 := S20.adv s30 F30 A30 hi1
      refine T_tstN hd9 hX S30 hD2 (fun M31 S31 F31 => ⟨S31.1, by omega, by omega, fun M34 e34 s34 => ?_⟩)
      exact hq M34 (S31.fr s34 (fun j => by rw [e34, rd_wr, if_neg (by omega)])) (by rw [e34]; exact ((F20.tr (F30.mono (fun _ _ z => Or.inl (KTm_p z)))).tr (F31.mono (fun _ _ => Or.inl))).wr (Or.inr (Or.inl rfl)))
theorem T_clauseY {c : Cls} (hd : 11 ≤ d) (hX : CtX tx L kd N) (h : MPr M tx L kd N i pt n) (h15 : rd M 67 15 = nc) (hn : nc < 12) (hC : ClD kd i pt a p (some c)) (hq : ∀ M' n', MPr M' tx L kd N a p n' → Fr KCl M M' → CdS n M M' → (∀ j : Int, j < 8 * (nc : Int) → rd M' 73 j = rd M 73 j) → rd M' 67 15 = (nc : Int) + 1 → n < n' → MCl M' (8 * (nc : Int)) n n' c → Q vU M') : C G Y_X12_readClause d 0 0 [vA 67] M Q := by
  have hd9 : 9 ≤ d - 1 := by omega
  have hd2 : 2 ≤ d - 1 := by omega
  obtain ⟨hk, hc1, hD⟩ := hC
  have hc01 : c.1 = 0 ∨ c.1 = 1 := by
    rcases hk with y | y
    · exact Or.inl (by rw [hc1, y]; rfl)
    · exact Or.inr (by rw [hc1, y]; rfl)
  refine T_headY hd hX h h15 hn hk (fun M13 S13 F13 C13 J13 K13 A13 B13 => ?_)
  rcases hD with ⟨hc2, n302, hD⟩ | ⟨a1, p1, w, hc2, hD, k302, hD2⟩
  · refine T_sumY hd9 hX S13 hD (fun M14 n' S14 F14 D14 l14 f14 o14 p14 => ⟨S14.1.1, by omega, by omega, fun M17 e17 s17 => ⟨by omega, by omega, fun M20 e20 s20 => ?_⟩⟩)
    have k17 : rd M17 67 17 = n' := by rw [e17, rd_wr, if_neg (by omega)]; exact S14.2.1.2
    rw [S14.2.1.2] at e17
    rw [k17] at e20
    have S20 : MPr M20 tx L kd N a p n' := S14.fr s20 (fun j _ => by rw [e20, rd_wr, if_neg (by omega), e17, rd_wr, if_neg (by omega)]) (fun b j _ q => by rw [e20, rd_wr, if_neg (fun z => q z.1), e17, rd_wr, if_neg (fun z => q z.1)])
    have F20 : Fr KCl M M20 := by rw [e20, e17]; exact ((F13.tr (F14.mono (fun _ _ => Or.inl))).wr (Or.inr (Or.inl rfl))).wr (Or.inr (Or.inl rfl))
    have w2 := S20.wH.2.2
    have hp5 := S20.2.2.2.2.1
    refine ⟨by rw [S20.1.2.2.2]; exact ⟨by decide, by decide⟩, fun z => absurd S20.1.2.2.2 z, fun _ => ⟨S20.w.1, S20.w.2, fun _ => ⟨by omega, by omega, fun M29 e29 s29 => ?_⟩, fun z => absurd (w2.mp z) n302⟩⟩
    rw [S20.2.1.2] at e29
    clear w2
    have r73 : ∀ j : Int, rd M29 73 j = if j = 8 * (nc : Int) + 6 then (n' : Int) else if j = 8 * (nc : Int) + 5 then (n' : Int) else if j = 8 * (nc : Int) + 4 then (n' : Int) else rd M13 73 j := fun j => by
      have b : rd M14 73 j = rd M13 73 j := F14.2.2 73 j (by unfold KMp; omega)
      rw [e29, rd_wr, e20, rd_wr, e17, rd_wr, b]
      simp only [true_and]
    have cs : SmC M14 M29 := ⟨funext fun k => by rw [e29, rd_wr, if_neg (by omega), e20, rd_wr, if_neg (by omega), e17, rd_wr, if_neg (by omega)], funext fun k => by rw [e29, rd_wr, if_neg (by omega), e20, rd_wr, if_neg (by omega), e17, rd_wr, if_neg (by omega)]⟩
    refine hq M29 n' (S20.fr s29 (fun j _ => by rw [e29, rd_wr, if_neg (by omega)]) (fun b j _ q => by rw [e29, rd_wr, if_neg (fun z => q z.1)])) (by rw [e29]; exact F20.wr (Or.inr (Or.inl rfl))) (fun k hk' => ⟨(congrFun cs.1 k).trans ((D14 k hk').1.trans (congrFun C13.1 k)), (congrFun cs.2 k).trans ((D14 k hk').2.trans (congrFun C13.2 k))⟩) (fun j hj => ?_) ?_ l14 ⟨?_, hc01, ?_, ?_, ?_, ?_, ?_, ?_, Or.inl ⟨?_, hc2⟩⟩
    · rw [r73, if_neg (by omega), if_neg (by omega), if_neg (by omega)]; exact J13 j hj
    · rw [e29, rd_wr, if_neg (by omega), e20, rd_wr, if_neg (by omega), e17, rd_wr, if_neg (by omega), F14.2.2 67 15 (by unfold KMp; omega)]; exact K13
    · rw [r73, if_neg (by omega), if_neg (by omega), if_neg (by omega), A13]; exact hc1.symm
    · rw [r73, if_neg (by omega), if_neg (by omega), if_neg (by omega)]; exact B13
    · rw [r73, if_pos rfl]
    · rw [r73, if_neg (by omega), if_pos rfl, r73, if_neg (by omega), if_neg (by omega), if_pos rfl]
    · rw [r73, if_neg (by omega), if_neg (by omega), if_pos rfl]; omega
    · rw [r73, if_neg (by omega), if_neg (by omega), if_pos rfl]; exact Int.le_refl _
    · rw [r73, if_neg (by omega), if_neg (by omega), if_pos rfl, cs.1, cs.2]; exact f14.mono (by omega)
    · rw [r73, if_neg (by omega), if_neg (by omega), if_pos rfl]
  · refine T_sumY hd9 hX S13 hD (fun M14 n1 S14 F14 D14 l14 f14 o14 p14 => ⟨S14.1.1, by omega, by omega, fun M17 e17 s17 => ⟨by omega, by omega, fun M20 e20 s20 => ?_⟩⟩)
    have k17 : rd M17 67 17 = n1 := by rw [e17, rd_wr, if_neg (by omega)]; exact S14.2.1.2
    rw [S14.2.1.2] at e17
    rw [k17] at e20
    have S20 : MPr M20 tx L kd N a1 p1 n1 := S14.fr s20 (fun j _ => by rw [e20, rd_wr, if_neg (by omega), e17, rd_wr, if_neg (by omega)]) (fun b j _ q => by rw [e20, rd_wr, if_neg (fun z => q z.1), e17, rd_wr, if_neg (fun z => q z.1)])
    have F20 : Fr KCl M M20 := by rw [e20, e17]; exact ((F13.tr (F14.mono (fun _ _ => Or.inl))).wr (Or.inr (Or.inl rfl))).wr (Or.inr (Or.inl rfl))
    have hi1 : a1 < N := hX.lt S20.2.2.2.1 (by rw [k302]; decide)
    have hp5 := S20.2.2.2.2.1
    have w2 := S20.wH.2.2.mpr k302
    refine ⟨by rw [S20.1.2.2.2]; exact ⟨by decide, by decide⟩, fun z => absurd S20.1.2.2.2 z, fun _ => ⟨S20.w.1, S20.w.2, fun z => absurd w2 z, fun _ => ?_⟩⟩
    refine T_go hd2 hX S20.1.1 S20.1.2.1 S20.1.2.2.1 hi1 (fun M30 s30 F30 A30 => ⟨s30, ?_⟩)
    have S30 := S20.adv s30 F30 A30 hi1
    refine T_tstY hd9 hX S30 hD2 (fun M31 n' S31 F31 D31 l31 f31 p31 => ⟨S31.1.1, by omega, by omega, fun M34 e34 s34 => ?_⟩)
    have hp6 := S31.2.2.2.2.1
    rw [S31.2.1.2] at e34
    have r73 : ∀ j : Int, rd M34 73 j = if j = 8 * (nc : Int) + 6 then (n' : Int) else if j = 8 * (nc : Int) + 5 then (n1 : Int) else if j = 8 * (nc : Int) + 4 then (n1 : Int) else rd M13 73 j := fun j => by
      have b : rd M14 73 j = rd M13 73 j := F14.2.2 73 j (by unfold KMp; omega)
      have b2 : rd M31 73 j = rd M20 73 j := by rw [F31.2.2 73 j (by unfold KMp; omega), F30.2.2 73 j (by unfold KTm; omega)]
      rw [e34, rd_wr, b2, e20, rd_wr, e17, rd_wr, b]
      simp only [true_and]
    have c30 := SmC.fr F30
    have c20 : SmC M14 M20 := ⟨funext fun k => by rw [e20, rd_wr, if_neg (by omega), e17, rd_wr, if_neg (by omega)], funext fun k => by rw [e20, rd_wr, if_neg (by omega), e17, rd_wr, if_neg (by omega)]⟩
    have c34 : SmC M31 M34 := ⟨funext fun k => by rw [e34, rd_wr, if_neg (by omega)], funext fun k => by rw [e34, rd_wr, if_neg (by omega)]⟩
    have cd : CdS n1 M14 M34 := fun k hk' => ⟨(congrFun c34.1 k).trans ((D31 k hk').1.trans ((congrFun c30.1 k).trans (congrFun c20.1 k))), (congrFun c34.2 k).trans ((D31 k hk').2.trans ((congrFun c30.2 k).trans (congrFun c20.2 k)))⟩
    refine hq M34 n' (S31.fr s34 (fun j _ => by rw [e34, rd_wr, if_neg (by omega)]) (fun b j _ q => by rw [e34, rd_wr, if_neg (fun z => q z.1)])) (by rw [e34]; exact ((F20.tr (F30.mono (fun _ _ z => Or.inl (KTm_p z)))).tr (F31.mono (fun _ _ => Or.inl))).wr (Or.inr (Or.inl rfl))) (fun k hk' => ⟨(cd k (by omega)).1.trans ((D14 k hk').1.trans (congrFun C13.1 k)), (cd k (by omega)).2.trans ((D14 k hk').2.trans (congrFun C13.2 k))⟩) (fun j hj => ?_) ?_ (by omega) ⟨?_, hc01, ?_, ?_, ?_, ?_, ?_, ?_, Or.inr ⟨?_, w, hc2, ?_⟩⟩
    · rw [r73, if_neg (by omega), if_neg (by omega), if_neg (by omega)]; exact J13 j hj
    · rw [e34, rd_wr, if_neg (by omega), F31.2.2 67 15 (by unfold KMp; omega), F30.2.2 67 15 (by unfold KTm; omega), e20, rd_wr, if_neg (by omega), e17, rd_wr, if_neg (by omega), F14.2.2 67 15 (by unfold KMp; omega)]; exact K13
    · rw [r73, if_neg (by omega), if_neg (by omega), if_neg (by omega), A13]; exact hc1.symm
    · rw [r73, if_neg (by omega), if_neg (by omega), if_neg (by omega)]; exact B13
    · rw [r73, if_pos rfl]
    · rw [r73, if_neg (by omega), if_pos rfl, r73, if_neg (by omega), if_neg (by omega), if_pos rfl]
    · rw [r73, if_neg (by omega), if_neg (by omega), if_pos rfl]; omega
    · rw [r73, if_neg (by omega), if_neg (by omega), if_pos rfl]; omega
    · rw [r73, if_neg (by omega), if_neg (by omega), if_pos rfl]
      exact (f14.mono (by omega)).cg (fun k _ k1 => cd k k1)
    · rw [r73, if_neg (by omega), if_neg (by omega), if_pos rfl]; omega
    · rw [r73, if_neg (by omega), if_neg (by omega), if_pos rfl, c34.1, c34.2]
      exact f31.mono (by omega)
end CN
