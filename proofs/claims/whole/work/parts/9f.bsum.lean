/-! ===== behind sums and tests ===== -/
section SR
variable {G : GG} {d : Nat} {M M' M1 M2 : MM} {Q : PV → MM → Prop} {tx : Int → Int} {L : Int} {kd : Nat → Int} {N i pt n br : Nat} {π ρ : Pil} {tst : Int}
def nOp (k : Int) : Prop := k ≠ 43 ∧ k ≠ 45 ∧ k ≠ 42 ∧ k ≠ 47
/-- a square bracket is closed -/
theorem XE_close (hd : 9 ≤ d) (hX : CtX tx L kd N) (h : MSt M tx L kd N i pt n (ρ ++ (31, 0) :: π) (br + 1)) (hk : kd i = 93) (hρ : ∀ e ∈ ρ, 5 ≤ bnd12 e.1 ∧ e.1 < 30) (htst : inR tst)
    (hq : ∀ M1 M', MSt M' tx L kd N (i + 1) pt (n + cntP ρ) π br → Fr KMp M M' → SmC M1 M' → (rd M1 74, rd M1 75, ((n + cntP ρ : Nat) : Int)) = stl ρ (rd M 74, rd M 75, (n : Int)) → XE G d tst Q 3 M') : XE G d tst Q 3 M := by
  have hi : i < N := hX.lt h.2.2.2.2.1 (by rw [hk]; decide)
  have hin : inrP (ρ ++ (31, 0) :: π) = 31 := by rw [inrP_app ρ (fun e he => (hρ e he).2)]; rfl
  have hd3 : 3 ≤ d := by omega
  have hd4 : 4 ≤ d - 1 := by omega
  refine XE_3 hd3 h.1.1 h.1.2.2.2 (bs_no hd4 hX h (by rw [hk]; decide) (by rw [hk]; decide) (by rw [hk]; decide) (by rw [hk]; decide) htst (fun _ => ?_) (fun w => absurd (hin.symm.trans w) (by decide)) (fun w => absurd hin w))
  rw [if_pos hk]
  refine T_mustY (by omega) hX h hi ⟨by decide, by decide⟩ (by decide) (fun M6 S6 F6 => ⟨S6.1.1, by rw [S6.1.2.2.2]; exact ⟨by decide, by decide⟩, fun w => absurd S6.1.2.2.2 w, fun _ => ?_⟩)
  have c6 := SmC.fr F6
  refine T_stl (by omega) hX S6 ⟨by decide, by decide⟩ (by show bnd12 31 < 5; decide) (fun e he => (hρ e he).1) (fun M7 S7 F7 E7 => ⟨S7.1.1, fun M24 e24 s24 M25 e25 s25 => ?_⟩)
  obtain ⟨S8, F8, C8⟩ := S7.pop e24 s24 e25 s25
  rw [c6.1, c6.2] at E7
  exact ⟨s25, hq M7 M25 S8 (((F6.mono (fun _ _ => KTm_p)).tr (F7.mono (fun _ _ => KSe_p))).tr F8) C8 E7⟩
theorem XE_closeN (hd : 9 ≤ d) (hX : CtX tx L kd N) (h : MSt M tx L kd N i pt n π br) (ho : nOp (kd i)) (hk : kd i ≠ 93) (hin : inrP π = 31) (htst : inR tst) (hq : ∀ M' t', FSt M' tx L i → Fr KMp M M' → XE G d tst Q t' M') : XE G d tst Q 3 M := by
  have hd3 : 3 ≤ d := by omega
  have hd4 : 4 ≤ d - 1 := by omega
  refine XE_3 hd3 h.1.1 h.1.2.2.2 (bs_no hd4 hX h ho.1 ho.2.1 ho.2.2.1 ho.2.2.2 htst (fun _ => ?_) (fun w => absurd (hin.symm.trans w) (by decide)) (fun w => absurd hin w))
  rw [if_neg hk]
  exact T_mustN (by omega) hX h (fun M6 S6 F6 => ⟨S6.1, S6.nb.2.2, fun _ => ⟨S6.1, hq M6 3 S6 F6⟩, fun w => absurd w S6.nb.2.1⟩)
/-- a sum that is over -/
theorem XE_over (hd : 9 ≤ d) (hX : CtX tx L kd N) (h : MSt M tx L kd N i pt n ρ br) (ho : nOp (kd i)) (hρ : ∀ e ∈ ρ, 1 ≤ bnd12 e.1 ∧ e.1 < 30) (htst : tst = 0)
    (hq : ∀ M', MSt M' tx L kd N i pt (n + cntP ρ) [] br → Fr KMp M M' → (rd M' 74, rd M' 75, ((n + cntP ρ : Nat) : Int)) = stl ρ (rd M 74, rd M 75, (n : Int)) → Q vU M') : XE G d tst Q 3 M := by
  have hin : inrP ρ = -1 := by
    have := inrP_app (π := []) ρ (fun e he => (hρ e he).2)
    rw [List.append_nil] at this
    exact this
  have hd3 : 3 ≤ d := by omega
  have hd4 : 4 ≤ d - 1 := by omega
  refine XE_3 hd3 h.1.1 h.1.2.2.2 (bs_no hd4 hX h ho.1 ho.2.1 ho.2.2.1 ho.2.2.2 (by rw [htst]; exact ⟨by decide, by decide⟩) (fun w => absurd (hin.symm.trans w) (by decide)) (fun _ _ => ⟨h.1.1, ?_⟩) (fun _ w => ?_))
  · refine XE_4 hd3 h.1.1 h.1.2.2.2 ?_
    have h' : MSt M tx L kd N i pt n (ρ ++ []) br := by rw [List.append_nil]; exact h
    exact T_stl (by omega) hX h' ⟨by decide, by decide⟩ (by decide) (fun e he => (hρ e he).1) (fun M7 S7 F7 E7 => ⟨S7.1.1, hq M7 S7 (F7.mono (fun _ _ => KSe_p)) E7⟩)
  · rcases w with w | w
    · exact absurd hin w
    · exact absurd htst w
theorem topB_arith (ht : topB π < 4) : (∀ e π', π = e :: π' → ¬ (20 ≤ e.1 ∧ e.1 ≤ 23)) ∧ cmpP π = 0 := by
  cases π with
  | nil => exact ⟨(fun e π' w => by cases w), rfl⟩
  | cons e π =>
    have ht' : bnd12 e.1 < 4 := ht
    have key : ¬ (20 ≤ e.1 ∧ e.1 ≤ 26) := fun w => by
      unfold bnd12 at ht'
      rw [if_pos (by omega), if_pos (by omega), if_pos (by omega), if_pos (by omega)] at ht'
      split at ht'
      · split at ht' <;> omega
      · omega
    refine ⟨fun e' π' w => ?_, ?_⟩
    · have : e' = e := by injection w with a b; exact a.symm
      rw [this]; exact fun z => key ⟨z.1, by omega⟩
    · show (if 24 ≤ e.1 ∧ e.1 ≤ 26 then (1 : Int) else 0) = 0
      exact if_neg (fun z => key ⟨by omega, z.2⟩)
/-- a comparison begins -/
theorem cmp_go {o : Int} (hd : 4 ≤ d) (hX : CtX tx L kd N) (h : MSt M tx L kd N i pt n (ρ ++ π) br) (hi : i < N) (hρ : ∀ e ∈ ρ, 5 ≤ bnd12 e.1) (ht : topB π < 4) (ho : 24 ≤ o ∧ o ≤ 26) {Qx : PV → MM → Prop}
    (hq : ∀ M1 M', MSt M' tx L kd N (i + 1) pt (n + cntP ρ) ((o, 0) :: π) br → Fr KMp M M' → SmC M1 M' → (rd M1 74, rd M1 75, ((n + cntP ρ : Nat) : Int)) = stl ρ (rd M 74, rd M 75, (n : Int)) → Qx (vI 1) M') :
    C G Y_X12_must d 0 0 [vA 67, vI 1] M (rU (fun M12 => Sh M12 ∧ inR (rd M12 67 14) ∧ (((rd M12 67 14) ≠ 0 → Qx (vI 1) M12) ∧ ((rd M12 67 14) = 0 → C G Y_X12_settle d 0 0 [vA 67, vI 5] M12 (rU (fun M14 => Sh M14 ∧ C G Y_X12_push d 0 0 [vA 67, vI o, vI 0] M14 (rU (fun M15 => Sh M15 ∧ Qx (vI 1) M15)))))))) := by
  have hbud := h.2.2.2.2.2.2.2
  rw [cntP_app, List.length_append] at hbud
  refine T_mustY (by omega) hX h hi ⟨by decide, by decide⟩ (by decide) (fun M6 S6 F6 => ⟨S6.1.1, by rw [S6.1.2.2.2]; exact ⟨by decide, by decide⟩, fun w => absurd S6.1.2.2.2 w, fun _ => ?_⟩)
  have c6 := SmC.fr F6
  refine T_stl (by omega) hX S6 ⟨by decide, by decide⟩ (by omega) hρ (fun M7 S7 F7 E7 => ⟨S7.1.1, ?_⟩)
  rw [c6.1, c6.2] at E7
  exact T_push1 (by omega) hX S7 (by omega) (by omega) (by omega) (by omega) (fun w => by omega) (fun M8 S8 F8 C8 => ⟨S8.1.1, hq M7 M8 S8 (((F6.mono (fun _ _ => KTm_p)).tr (F7.mono (fun _ _ => KSe_p))).tr F8) C8 E7⟩)
theorem arith_b {e : Int × Int} (h : 20 ≤ e.1 ∧ e.1 ≤ 23) : 5 ≤ bnd12 e.1 ∧ e.1 < 30 := by
  refine ⟨?_, by omega⟩
  unfold bnd12
  rw [if_pos (by omega), if_pos (by omega), if_pos (by omega), if_pos (by omega), if_pos (by omega)]
  split <;> decide
theorem XE_cmp {o : Int} (hd : 9 ≤ d) (hX : CtX tx L kd N) (h : MSt M tx L kd N i pt n (ρ ++ π) br) (hρ : ∀ e ∈ ρ, 20 ≤ e.1 ∧ e.1 ≤ 23) (ht : topB π < 4) (hin : inrP π ≠ 31) (hin2 : inrP π ≠ -1 ∨ tst ≠ 0) (htst : inR tst) (hc : (kd i = 60 ∧ o = 24) ∨ (kd i = 62 ∧ o = 25) ∨ (kd i = 61 ∧ o = 26))
    (hq : ∀ M1 M', MSt M' tx L kd N (i + 1) pt (n + cntP ρ) ((o, 0) :: π) br → Fr KMp M M' → SmC M1 M' → (rd M1 74, rd M1 75, ((n + cntP ρ : Nat) : Int)) = stl ρ (rd M 74, rd M 75, (n : Int)) → XE G d tst Q 1 M') : XE G d tst Q 3 M := by
  have hi : i < N := hX.lt h.2.2.2.2.1 (by omega)
  have ho : 24 ≤ o ∧ o ≤ 26 := by omega
  have hno : nOp (kd i) := by unfold nOp; omega
  have hta := topB_arith ht
  have hlen : (ρ ++ π).length ≤ 400 := by have := h.2.2.2.2.2.2.2.2; have := h.2.2.2.2.1; have := hX.n400; omega
  have hd3 : 3 ≤ d := by omega
  have hd4 : 4 ≤ d - 1 := by omega
  have hd2 : 2 ≤ d - 1 := by omega
  have hd5 : 2 ≤ d - 1 - 1 := by omega
  have hd6 : 4 ≤ d - 1 - 1 := by omega
  have hia : inrP (ρ ++ π) = inrP π := inrP_app ρ (fun e he => (arith_b (hρ e he)).2)
  have go := cmp_go (G := G) (d := d - 1 - 1) (Qx := rI (fun r M' => Sh M' ∧ XE G d tst Q r M')) hd6 hX h hi (fun e he => (arith_b (hρ e he)).1) ht ho (fun M1 M' q1 q2 q3 q4 => ⟨q1.1.1, hq M1 M' q1 q2 q3 q4⟩)
  have s60 := h.sg (c := 60) (by decide) (by decide)
  have s62 := h.sg (c := 62) (by decide) (by decide)
  have s61 := h.sg (c := 61) (by decide) (by decide)
  refine XE_3 hd3 h.1.1 h.1.2.2.2 (bs_no hd4 hX h hno.1 hno.2.1 hno.2.2.1 hno.2.2.2 htst (fun w => absurd (hia.symm.trans w) hin) (fun w z => ?_) (fun _ _ => B_X12_behindSum_149 hd2 h.1.1 ?_))
  · rcases hin2 with y | y
    · exact absurd (hia.symm.trans w) y
    · exact absurd z y
  · refine T_X12_isCompared hd5 h.1.1 hta.1 h.2.1.2.2.1 hρ hlen h.2.2.1.1 h.2.2.1.2 ?_
    rw [hta.2]
    refine ⟨h.1.1, ⟨by decide, by decide⟩, fun _ => ⟨h.w.1, h.w.2, fun w v10 e10 => ?_, fun w => ?_⟩, fun w => absurd rfl w⟩
    · rcases hc with a | a | a
      · exact absurd (s60.mpr a.1) w
      · rw [if_neg (fun z => z (s62.mpr a.1))] at e10
        subst e10
        refine ⟨⟨by decide, by decide⟩, fun _ => ?_, fun z => absurd z (by decide)⟩
        rw [a.2] at go
        exact go
      · rw [if_pos (fun z => absurd ((s62.mp z).symm.trans a.1) (by decide))] at e10
        subst e10
        refine ⟨⟨by decide, by decide⟩, fun z => absurd rfl z, fun _ => ?_⟩
        rw [if_pos (s61.mpr a.1)]
        rw [a.2] at go
        exact go
    · have k := s60.mp w
      have e : o = 24 := by
        rcases hc with a | a | a
        · exact a.2
        · exact absurd (k.symm.trans a.1) (by decide)
        · exact absurd (k.symm.trans a.1) (by decide)
      rw [e] at go
      exact go
theorem XE_cmpN (hd : 9 ≤ d) (hX : CtX tx L kd N) (h : MSt M tx L kd N i pt n (ρ ++ π) br) (hno : nOp (kd i)) (hρ : ∀ e ∈ ρ, 20 ≤ e.1 ∧ e.1 ≤ 23) (ht : topB π < 4) (hin : inrP π ≠ 31) (hin2 : inrP π ≠ -1 ∨ tst ≠ 0) (htst : inR tst) (hc : ¬ cpK (kd i)) (hq : ∀ M' t', FSt M' tx L i → Fr KMp M M' → XE G d tst Q t' M') : XE G d tst Q 3 M := by
  have hta := topB_arith ht
  have hlen : (ρ ++ π).length ≤ 400 := by have := h.2.2.2.2.2.2.2.2; have := h.2.2.2.2.1; have := hX.n400; omega
  have hd3 : 3 ≤ d := by omega
  have hd4 : 4 ≤ d - 1 := by omega
  have hd2 : 2 ≤ d - 1 := by omega
  have hd5 : 2 ≤ d - 1 - 1 := by omega
  have hia : inrP (ρ ++ π) = inrP π := inrP_app ρ (fun e he => (arith_b (hρ e he)).2)
  have s60 := h.sg (c := 60) (by decide) (by decide)
  have s62 := h.sg (c := 62) (by decide) (by decide)
  have s61 := h.sg (c := 61) (by decide) (by decide)
  refine XE_3 hd3 h.1.1 h.1.2.2.2 (bs_no hd4 hX h hno.1 hno.2.1 hno.2.2.1 hno.2.2.2 htst (fun w => absurd (hia.symm.trans w) hin) (fun w z => ?_) (fun _ _ => B_X12_behindSum_149 hd2 h.1.1 ?_))
  · rcases hin2 with y | y
    · exact absurd (hia.symm.trans w) y
    · exact absurd z y
  · refine T_X12_isCompared hd5 h.1.1 hta.1 h.2.1.2.2.1 hρ hlen h.2.2.1.1 h.2.2.1.2 ?_
    rw [hta.2]
    refine ⟨h.1.1, ⟨by decide, by decide⟩, fun _ => ⟨h.w.1, h.w.2, fun w v10 e10 => ?_, fun w => absurd (Or.inl (s60.mp w)) hc⟩, fun w => absurd rfl w⟩
    rw [if_pos (fun z => hc (Or.inr (Or.inl (s62.mp z))))] at e10
    subst e10
    refine ⟨⟨by decide, by decide⟩, fun z => absurd rfl z, fun _ => ?_⟩
    rw [if_neg (fun z => hc (Or.inr (Or.inr (s61.mp z))))]
    exact T_mustN hd5 hX h (fun M6 S6 F6 => ⟨S6.1, S6.nb.2.2, fun _ => ⟨S6.1, hq M6 1 S6 F6⟩, fun w => absurd w S6.nb.2.1⟩)
/-- the second sum of a comparison is over -/
theorem XE_told {o t : Int} (hd : 9 ≤ d) (hX : CtX tx L kd N) (h : MSt M tx L kd N i pt n (ρ ++ (o, t) :: π) br) (hno : nOp (kd i)) (hρ : ∀ e ∈ ρ, 20 ≤ e.1 ∧ e.1 ≤ 23) (ho : 24 ≤ o ∧ o ≤ 26) (hin : inrP π ≠ 31) (hin2 : inrP π ≠ -1 ∨ tst ≠ 0) (htst : inR tst) (hq : XE G d tst Q 2 M) : XE G d tst Q 3 M := by
  have hlen : (ρ ++ (o, t) :: π).length ≤ 400 := by have := h.2.2.2.2.2.2.2.2; have := h.2.2.2.2.1; have := hX.n400; omega
  have hd3 : 3 ≤ d := by omega
  have hd4 : 4 ≤ d - 1 := by omega
  have hd2 : 2 ≤ d - 1 := by omega
  have hd5 : 2 ≤ d - 1 - 1 := by omega
  have hio : inrP ((o, t) :: π) = inrP π := if_neg (by show ¬ 30 ≤ o; omega)
  have hia : inrP (ρ ++ (o, t) :: π) = inrP π := (inrP_app ρ (fun e he => (arith_b (hρ e he)).2)).trans hio
  have hcm : cmpP ((o, t) :: π) = 1 := if_pos ho
  refine XE_3 hd3 h.1.1 h.1.2.2.2 (bs_no hd4 hX h hno.1 hno.2.1 hno.2.2.1 hno.2.2.2 htst (fun w => absurd (hia.symm.trans w) hin) (fun w z => ?_) (fun _ _ => B_X12_behindSum_149 hd2 h.1.1 ?_))
  · rcases hin2 with y | y
    · exact absurd (hia.symm.trans w) y
    · exact absurd z y
  · refine T_X12_isCompared hd5 h.1.1 (fun e π' w => ?_) h.2.1.2.2.1 hρ hlen h.2.2.1.1 h.2.2.1.2 ?_
    · have : (o, t) = e := by injection w
      rw [← this]; show ¬ (20 ≤ o ∧ o ≤ 23); omega
    · rw [hcm]
      exact ⟨h.1.1, ⟨by decide, by decide⟩, fun w => absurd w (by decide), fun _ => ⟨h.1.1, hq⟩⟩
end SR
