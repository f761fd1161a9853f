/-! ===== the model reads an expression ===== -/
/-- the model between two expressions -/
def MPr (M : MM) (tx : Int → Int) (L : Int) (kd : Nat → Int) (N i pt n : Nat) : Prop :=
  (Sh M ∧ TpM M tx L ∧ TkA M tx L (plT tx L i) (kd i) ∧ rd M 67 14 = 0) ∧ (rd M 67 20 = pt ∧ rd M 67 17 = n) ∧ (∀ k : Int, 0 ≤ k → k < 7 → rd M 78 k = gt wcdL (k + 6)) ∧ (i ≤ N ∧ pt ≤ 50 ∧ n ≤ i)
def FPr (M : MM) (tx : Int → Int) (L : Int) (a : Nat) : Prop := Sh M ∧ rd M 67 14 = 1 ∧ rd M 67 13 = plT tx L a ∧ ∃ n : Nat, rd M 67 17 = n ∧ n ≤ 400
theorem spl : ∀ (π : Pil), ∃ ρ σ : Pil, π = ρ ++ σ ∧ (∀ e ∈ ρ, 1 ≤ bnd12 e.1) ∧ topB σ < 1
  | [] => ⟨[], [], rfl, (fun e he => by cases he), by decide⟩
  | e :: π => by
    by_cases q : 1 ≤ bnd12 e.1
    · obtain ⟨ρ, σ, h1, h2, h3⟩ := spl π
      refine ⟨e :: ρ, σ, by rw [h1]; rfl, fun x hx => ?_, h3⟩
      rcases List.mem_cons.mp hx with y | y
      · rw [y]; exact q
      · exact h2 x y
    · exact ⟨[], e :: π, rfl, (fun x hx => by cases hx), by show bnd12 e.1 < 1; omega⟩
section EX
variable {G : GG} {d : Nat} {M : MM} {Q : PV → MM → Prop} {tx : Int → Int} {L : Int} {kd : Nat → Int} {N i pt n : Nat} {tst : Int}
theorem MSt.pr {π : Pil} {br : Nat} (h : MSt M tx L kd N i pt n π br) : MPr M tx L kd N i pt n := ⟨h.1, ⟨h.2.1.1, h.2.1.2.1⟩, h.2.2.2.1, ⟨h.2.2.2.2.1, h.2.2.2.2.2.1, by have := h.2.2.2.2.2.2.2.1; omega⟩⟩
theorem XE_fin {a : Nat} {t : Int} (hd : 9 ≤ d) (h : FSt M tx L a) (hq : ∀ M', FPr M' tx L a → Fr KMp M M' → Q vU M') : XE G d tst Q t M := by
  obtain ⟨s, h14, h13, n, π, h17, h23, hP, hO, hc, hl⟩ := h
  obtain ⟨ρ, σ, e, hb, ht⟩ := spl π
  subst e
  rw [cntP_app] at hc
  refine XE_bad (by omega) s (by rw [h14]; decide) (by rw [h14]; exact ⟨by decide, by decide⟩) ?_
  refine T_X12_settle (by omega) ⟨by decide, by decide⟩ ht s h23 hP hO hb h17 (by omega) hl (fun M' s' F' g1 g2 g3 => ⟨s', hq M' ⟨s', ?_, ?_, n + cntP ρ, ?_, by omega⟩ (F'.mono (fun _ _ => KSe_p))⟩)
  · rw [F'.2.2 67 14 (by unfold KSe; omega)]; exact h14
  · rw [F'.2.2 67 13 (by unfold KSe; omega)]; exact h13
  · rw [g2]; omega
theorem ex_start {Qx : PV → MM → Prop} (hd : 9 ≤ d) (h : MPr M tx L kd N i pt n) (htst : inR tst) (hq : ∀ M', MSt M' tx L kd N i pt n [] 0 → Fr KMp M M' → SmC M M' → XE G d tst Qx (if tst = 0 then 1 else 0) M') : C G Y_X12_readExpression d 0 0 [vA 67, vI tst] M Qx := by
  obtain ⟨⟨a1, a2, a3, a4⟩, ⟨b1, b2⟩, e1, ⟨f1, f2, f4⟩⟩ := h
  refine C_X12_readExpression (B_X12_readExpression_0 (by omega) a1 (fun M1 g1 s1 M2 g2 s2 => ⟨htst, fun v8 e8 => ?_⟩))
  rw [e8]
  have r : ∀ j, j ≠ 23 → j ≠ 24 → rd M2 67 j = rd M 67 j := fun j q q2 => by rw [g2, rd_wr, if_neg (fun z => q2 z.2), g1, rd_wr, if_neg (fun z => q z.2)]
  have r2 : ∀ a j, a ≠ 67 → rd M2 a j = rd M a j := fun a j q => by rw [g2, rd_wr, if_neg (fun z => q z.1), g1, rd_wr, if_neg (fun z => q z.1)]
  refine hq M2 ⟨⟨s2, ⟨fun j => by rw [r2 72 j (by decide)]; exact a2.1 j, by rw [r 8 (by decide) (by decide)]; exact a2.2.1, by rw [r 13 (by decide) (by decide)]; exact a2.2.2⟩, a3.fr (r 9 (by decide) (by decide)) (r 10 (by decide) (by decide)) (r 11 (by decide) (by decide)) (r 12 (by decide) (by decide)), by rw [r 14 (by decide) (by decide)]; exact a4⟩, ⟨by rw [r 20 (by decide) (by decide)]; exact b1, by rw [r 17 (by decide) (by decide)]; exact b2, by rw [g2, rd_wr, if_neg (by omega), g1, rd_wr, if_pos ⟨rfl, rfl⟩]; rfl, by rw [g2, rd_wr, if_pos ⟨rfl, rfl⟩]; rfl⟩, ⟨trivial, (fun x hx => by cases hx)⟩, fun k k0 k1 => by rw [r2 78 k (by decide)]; exact e1 k k0 k1, ⟨f1, f2, by decide, by show n + 0 ≤ i; omega, Nat.zero_le _⟩⟩ ?_ ⟨funext fun k => r2 74 k (by decide), funext fun k => r2 75 k (by decide)⟩
  rw [g2, g1]
  exact (Fr.rf.wr (by unfold KMp; omega)).wr (by unfold KMp; omega)
theorem T_sumN {a p : Nat} (hd : 9 ≤ d) (hX : CtX tx L kd N) (h : MPr M tx L kd N i pt n) (hD : Der kd 0 0 i pt dV0 (a, p, none)) (hq : ∀ M', FPr M' tx L a → Fr KMp M M' → Q vU M') : C G Y_X12_readExpression d 0 0 [vA 67, vI 0] M Q := by
  refine ex_start hd h ⟨by decide, by decide⟩ (fun M1 S1 F1 C1 => ?_)
  rw [if_pos rfl]
  exact (sim_all (G := G) (Q := Q) (tst := 0) hd hX ⟨by decide, by decide⟩ hD).1 (by decide) M1 n [] 1 S1 (by decide) (fun _ => Or.inl rfl) (fun w => absurd w (by decide)) ⟨fun _ M' t' q1 q2 => XE_fin hd q1 (fun M2 z1 z2 => hq M2 z1 ((F1.tr q2).tr z2)), fun v e => by cases e⟩
theorem T_sumY {a p : Nat} {v : SV} (hd : 9 ≤ d) (hX : CtX tx L kd N) (h : MPr M tx L kd N i pt n) (hD : Der kd 0 0 i pt dV0 (a, p, some v)) (hq : ∀ M' n', MPr M' tx L kd N a p n' → Fr KMp M M' → CdS n M M' → n < n' → Frg (rd M' 74) (rd M' 75) n n' (p - pt) v → nOp (kd a) → pt < p → Q vU M') : C G Y_X12_readExpression d 0 0 [vA 67, vI 0] M Q := by
  refine ex_start hd h ⟨by decide, by decide⟩ (fun M1 S1 F1 C1 => ?_)
  rw [if_pos rfl]
  refine (sim_all (G := G) (Q := Q) (tst := 0) hd hX ⟨by decide, by decide⟩ hD).1 (by decide) M1 n [] 1 S1 (by decide) (fun _ => Or.inl rfl) (fun w => absurd w (by decide)) ⟨fun e => (by cases e), fun u e M2 n2 ρ z1 z2 z3 z4 z5 z6 _ => ?_⟩
  have eu : v = u := Option.some.inj e
  subst eu
  rw [List.append_nil] at z1
  refine XE_over hd hX z1 (z5.1 rfl) (fun x hx => ⟨by have : (5 : Int) ≤ bnd12 x.1 := (z4.2.1 x hx).1; omega, (z4.2.1 x hx).2.2.1⟩) rfl (fun M3 S3 F3 E3 => ?_)
  obtain ⟨c1, c2, c3⟩ := stl_cds z4 E3
  exact hq M3 (n2 + cntP ρ) S3.pr ((F1.tr z2).tr F3) (fun k hk => ⟨(c1 k hk).1.trans ((z3 k hk).1.trans (congrFun C1.1 k)), (c1 k hk).2.trans ((z3 k hk).2.trans (congrFun C1.2 k))⟩) c2 c3 (z5.1 rfl) z6
theorem T_tstN {a p : Nat} (hd : 9 ≤ d) (hX : CtX tx L kd N) (h : MPr M tx L kd N i pt n) (hD : Der kd 3 0 i pt dV0 (a, p, none)) (hq : ∀ M', FPr M' tx L a → Fr KMp M M' → Q vU M') : C G Y_X12_readExpression d 0 0 [vA 67, vI 1] M Q := by
  refine ex_start hd h ⟨by decide, by decide⟩ (fun M1 S1 F1 C1 => ?_)
  rw [if_neg (by decide)]
  exact (sim_all (G := G) (Q := Q) (tst := 1) hd hX ⟨by decide, by decide⟩ hD).1 (by decide) M1 n [] 0 S1 (by decide) (fun w => absurd w (by decide)) (fun _ => ⟨rfl, by show (-1 : Int) ≠ 31; decide, Or.inr (by decide)⟩) ⟨fun _ M' t' q1 q2 => XE_fin hd q1 (fun M2 z1 z2 => hq M2 z1 ((F1.tr q2).tr z2)), fun v e => by cases e⟩
theorem T_tstY {a p : Nat} {v : SV} (hd : 9 ≤ d) (hX : CtX tx L kd N) (h : MPr M tx L kd N i pt n) (hD : Der kd 3 0 i pt dV0 (a, p, some v)) (hq : ∀ M' n', MPr M' tx L kd N a p n' → Fr KMp M M' → CdS n M M' → n < n' → Frg (rd M' 74) (rd M' 75) n n' (p - pt) v → pt < p → Q vU M') : C G Y_X12_readExpression d 0 0 [vA 67, vI 1] M Q := by
  refine ex_start hd h ⟨by decide, by decide⟩ (fun M1 S1 F1 C1 => ?_)
  rw [if_neg (by decide)]
  refine (sim_all (G := G) (Q := Q) (tst := 1) hd hX ⟨by decide, by decide⟩ hD).1 (by decide) M1 n [] 0 S1 (by decide) (fun w => absurd w (by decide)) (fun _ => ⟨rfl, by show (-1 : Int) ≠ 31; decide, Or.inr (by decide)⟩) ⟨fun e => (by cases e), fun u e M2 n2 ρ z1 z2 z3 z4 z5 z6 _ => ?_⟩
  have eu : v = u := Option.some.inj e
  subst eu
  rw [List.append_nil] at z1
  have z5' := z5.2.2.1 rfl
  refine XE_tover hd hX z1 z5'.1 z5'.2 (fun x hx => ⟨(z4.2.1 x hx).1, (z4.2.1 x hx).2.2.1⟩) (fun M3 S3 F3 E3 => ?_)
  obtain ⟨c1, c2, c3⟩ := stl_cds z4 E3
  exact hq M3 (n2 + cntP ρ) S3.pr ((F1.tr z2).tr F3) (fun k hk => ⟨(c1 k hk).1.trans ((z3 k hk).1.trans (congrFun C1.1 k)), (c1 k hk).2.trans ((z3 k hk).2.trans (congrFun C1.2 k))⟩) c2 c3 z6
end EX
