/-! ===== the turns of a test ===== -/
section ST9
variable {G : GG} {d : Nat} {M M' M1 M2 : MM} {Q : PV → MM → Prop} {tx : Int → Int} {L : Int} {kd : Nat → Int} {N i pt n br : Nat} {π ρ : Pil} {tst : Int}
/-- a joint: pushed with its place, put into the code, then the next token -/
theorem push_emit_go {o : Int} {Qx : MM → Prop} (hd : 2 ≤ d) (hX : CtX tx L kd N) (h : MSt M tx L kd N i pt n π br) (hi : i < N) (ho : o = 28 ∨ o = 29) (hq : ∀ M', MSt M' tx L kd N (i + 1) pt (n + 1) ((o, (n : Int)) :: π) br → Fr KMp M M' → rd M' 74 = upF (rd M 74) n o → rd M' 75 = upF (rd M 75) n 0 → Qx M') : C G Y_X12_push d 0 0 [vA 67, vI o, vI n] M (rU (fun M11 => Sh M11 ∧ C G Y_X12_emit d 0 0 [vA 67, vI o, vI 0] M11 (rU (fun M16 => Sh M16 ∧ C G Y_X12_goOn d 0 0 [vA 67] M16 (rU (fun M17 => Sh M17 ∧ Qx M17)))))) := by
  obtain ⟨⟨a1, a2, a3, a4⟩, ⟨b1, b2, b3, b4⟩, ⟨c1, c2⟩, e1, ⟨f1, f2, f3, f4, f5⟩⟩ := h
  have hn := hX.n400
  refine T_X12_push (by omega) a1 b3 (by omega) c1 (fun M5 s5 F5 g1 g2 => ⟨s5, ?_⟩)
  have r : ∀ j, j ≠ 23 → rd M5 67 j = rd M 67 j := fun j q => F5.2.2 67 j (by unfold KPu; omega)
  have r2 : ∀ a j, a ≠ 67 → a ≠ 76 → a ≠ 77 → rd M5 a j = rd M a j := fun a j q q2 q3 => F5.2.2 a j (by unfold KPu; omega)
  refine T_X12_emit (by omega) s5 (by rw [r 17 (by decide)]; exact b2) (by omega) (fun M7 s7 F7 k1 k2 k3 k4 => ⟨s7, ?_⟩)
  have y : ∀ j, j ≠ 17 → j ≠ 23 → rd M7 67 j = rd M5 67 j := fun j q q2 => F7.2.2 67 j (by unfold KSe; omega)
  have y2 : ∀ a j, a ≠ 67 → a ≠ 74 → a ≠ 75 → rd M7 a j = rd M5 a j := fun a j q q2 q3 => F7.2.2 a j (by unfold KSe; omega)
  have T7 : TpM M7 tx L := ⟨fun j => by rw [y2 72 j (by decide) (by decide) (by decide), r2 72 j (by decide) (by decide) (by decide)]; exact a2.1 j, by rw [y 8 (by decide) (by decide), r 8 (by decide)]; exact a2.2.1, by rw [y 13 (by decide) (by decide), r 13 (by decide)]; exact a2.2.2⟩
  have A7 := (a3.fr (r 9 (by decide)) (r 10 (by decide)) (r 11 (by decide)) (r 12 (by decide))).fr (y 9 (by decide) (by decide)) (y 10 (by decide) (by decide)) (y 11 (by decide) (by decide)) (y 12 (by decide) (by decide))
  refine T_go hd hX s7 T7 A7 hi (fun M6 s6 F6 A6 => ⟨s6, ?_⟩)
  have q : ∀ j, ¬ (j = 9 ∨ j = 10 ∨ j = 11 ∨ j = 12) → rd M6 67 j = rd M7 67 j := fun j q => F6.2.2 67 j (fun w => q w.2)
  have q2 : ∀ a j, a ≠ 67 → rd M6 a j = rd M7 a j := fun a j q => F6.2.2 a j (fun w => q w.1)
  have sc := SmC.fr F6
  have sp := SmC.fp F5
  refine hq M6 ⟨⟨s6, T7.fr F6, A6, by rw [q 14 (by decide), y 14 (by decide) (by decide), r 14 (by decide)]; exact a4⟩, ⟨by rw [q 20 (by decide), y 20 (by decide) (by decide), r 20 (by decide)]; exact b1, by rw [q 17 (by decide), k3]; omega, by rw [q 23 (by decide), k4]; exact g1, by rw [q 24 (by decide), y 24 (by decide) (by decide), r 24 (by decide)]; exact b4⟩, ⟨PlM.fr _ g2 (fun j _ _ => ⟨by rw [q2 76 j (by decide), y2 76 j (by decide) (by decide) (by decide)], by rw [q2 77 j (by decide), y2 77 j (by decide) (by decide) (by decide)]⟩), c2.cons (by show 20 ≤ o; omega) (by show o ≤ 31; omega) (fun _ => ⟨by show (0 : Int) ≤ n; omega, by show (n : Int) < 400; omega⟩)⟩, fun k k0 k1' => by rw [q2 78 k (by decide), y2 78 k (by decide) (by decide) (by decide), r2 78 k (by decide) (by decide) (by decide)]; exact e1 k k0 k1', ⟨by omega, f2, f3, ?_, ?_⟩⟩ (((F5.mono (fun _ _ => KPu_p)).tr (F7.mono (fun _ _ => KSe_p))).tr (F6.mono (fun _ _ => KTm_p))) ?_ ?_
  · rw [cntP, if_pos ho]; omega
  · simp only [List.length_cons]; omega
  · rw [sc.1, k1, sp.1]
  · rw [sc.2, k2, sp.2]
theorem MSt.wA (h : MSt M tx L kd N i pt n π br) : ((rd M 67 11 = 1 ∧ rd M 67 12 = 1476) ↔ kd i = 304) ∧ ((rd M 67 11 = 1 ∧ rd M 67 12 = 498) ↔ kd i = 303) := by
  have w4 := h.wd (q := 4) (by decide) (by decide)
  have w3 := h.wd (q := 3) (by decide) (by decide)
  rw [show gt wcdL 4 = 1476 by decide] at w4
  rw [show gt wcdL 3 = 498 by decide] at w3
  exact ⟨w4, w3⟩
theorem XE_jn {lv : Nat} (hd : 9 ≤ d) (hX : CtX tx L kd N) (h : MSt M tx L kd N i pt n (ρ ++ π) br) (hlv : lv < 2) (hk : kd i = jA lv) (hρ : ∀ e ∈ ρ, bnd12 (jO lv) ≤ bnd12 e.1) (ht : topB π < bnd12 (jO lv))
    (hq : ∀ M1 M', MSt M' tx L kd N (i + 1) pt (n + cntP ρ + 1) ((jO lv, ((n + cntP ρ : Nat) : Int)) :: π) br → Fr KMp M M' → rd M' 74 = upF (rd M1 74) ((n + cntP ρ : Nat) : Int) (jO lv) → rd M' 75 = upF (rd M1 75) ((n + cntP ρ : Nat) : Int) 0 → (rd M1 74, rd M1 75, ((n + cntP ρ : Nat) : Int)) = stl ρ (rd M 74, rd M 75, (n : Int)) → XE G d tst Q 0 M') : XE G d tst Q 2 M := by
  have hi : i < N := hX.lt h.2.2.2.2.1 (by rw [hk]; exact jA_ne.1)
  have hd3 : 3 ≤ d := by omega
  have hd2 : 2 ≤ d - 1 := by omega
  have hd5 : 2 ≤ d - 1 - 1 := by omega
  have hjo : jO lv = 28 ∨ jO lv = 29 := by unfold jO; split <;> decide
  have go : ∀ x1 : Int, x1 = (if lv = 0 then 0 else 1) → X G Y_X12_behindTest (d - 1) 0 0 22 [vA 67, vI x1] [] M (rI (fun r M' => Sh M' ∧ XE G d tst Q r M')) := by
    intro x1 ex
    have e1 : (if x1 = 0 then (1 : Int) else 2) = bnd12 (jO lv) := by
      rw [ex]; unfold jO
      by_cases y : lv = 0
      · rw [if_pos y, if_pos y]; rfl
      · rw [if_neg y, if_neg y]; rfl
    have e2 : (if x1 = 0 then (29 : Int) else 28) = jO lv := by
      rw [ex]; unfold jO
      by_cases y : lv = 0
      · rw [if_pos y, if_pos y]; rfl
      · rw [if_neg y, if_neg y]; rfl
    refine B_X12_behindTest_22 hd2 h.1.1 ⟨by rw [ex]; split <;> exact ⟨by decide, by decide⟩, ?_⟩
    rw [e1, e2]
    refine T_stl hd5 hX h bnd12_r.1 ht hρ (fun M6 S6 F6 E6 => ⟨S6.1.1, ?_⟩)
    rw [S6.2.1.2.1]
    exact push_emit_go hd5 hX S6 hi hjo (fun M7 S7 F7 k1 k2 => ⟨S7.1.1, hq M6 M7 S7 ((F6.mono (fun _ _ => KSe_p)).tr F7) k1 k2 E6⟩)
  have wa := h.wA
  refine XE_2 hd3 h.1.1 h.1.2.2.2 (C_X12_behindTest (B_X12_behindTest_0 hd2 h.1.1 ⟨h.w.1, h.w.2, fun v3 e3 => ?_⟩))
  by_cases y : lv = 0
  · have k : kd i = 303 := by rw [hk]; unfold jA; rw [if_pos y]
    rw [if_neg (fun z => absurd ((wa.1.mp z).symm.trans k) (by decide))] at e3
    subst e3
    exact ⟨⟨by decide, by decide⟩, fun z => absurd rfl z, fun _ => ⟨fun z => absurd (wa.2.mpr k) z, fun _ => go 0 (by rw [if_pos y])⟩⟩
  · have k : kd i = 304 := by rw [hk]; unfold jA; rw [if_neg y]
    rw [if_pos (wa.1.mpr k)] at e3
    subst e3
    exact ⟨⟨by decide, by decide⟩, fun _ => go 1 (by rw [if_neg y]), fun z => absurd z (by decide)⟩
/-- behind a test, no joint -/
theorem bt_no {Qx : PV → MM → Prop} (hd : 4 ≤ d) (hX : CtX tx L kd N) (h : MSt M tx L kd N i pt n π br) (h1 : kd i ≠ 303) (h2 : kd i ≠ 304)
    (hC : inrP π ≠ -1 → C G Y_X12_must (d - 1) 0 0 [vA 67, vI (if kd i = 41 then 1 else 0)] M (rU (fun M10 => Sh M10 ∧ inR (rd M10 67 14) ∧ (((rd M10 67 14) ≠ 0 → Qx (vI 2) M10) ∧ ((rd M10 67 14) = 0 → C G Y_X12_settle (d - 1) 0 0 [vA 67, vI 1] M10 (rU (fun M12 => Sh M12 ∧ ∀ M13, M13 = wr M12 67 23 ((rd M12 67 23) - 1) → Sh M13 → ∀ M14, M14 = wr M13 67 24 ((rd M13 67 24) - 1) → Sh M14 → Qx (vI 2) M14)))))))
    (hO : inrP π = -1 → Qx (vI 4) M) : C G Y_X12_behindTest d 0 0 [vA 67] M Qx := by
  have hn := hX.n400
  have f := h.2.2.2.2
  have hl : π.length ≤ 400 := by omega
  have ir := inrP_r h.2.2.1.2
  have irR : inR (inrP π) := ⟨by omega, by omega⟩
  have hd1 : 1 ≤ d - 1 := by omega
  have hd2 : 2 ≤ d := by omega
  have wa := h.wA
  have s41 := h.sg (c := 41) (by decide) (by decide)
  refine C_X12_behindTest (B_X12_behindTest_0 hd2 h.1.1 ⟨h.w.1, h.w.2, fun v3 e3 => ?_⟩)
  rw [if_neg (fun z => h2 (wa.1.mp z))] at e3
  subst e3
  refine ⟨⟨by decide, by decide⟩, fun z => absurd rfl z, fun _ => ⟨fun _ => ?_, fun z => absurd (wa.2.mp z) h1⟩⟩
  refine T_X12_inner hd1 h.1.1 h.2.1.2.2.1 hl h.2.2.1.1 h.2.2.1.2 ⟨h.1.1, irR, fun w => ⟨h.w.1, h.w.2, ?_⟩, hO⟩
  have hh := hC w
  have e : (if (rd M 67 11 = 3) ∧ (rd M 67 12 = (41 : Int)) then (1 : Int) else 0) = if kd i = 41 then 1 else 0 := by
    by_cases y : kd i = 41
    · rw [if_pos y, if_pos (s41.mpr y)]
    · rw [if_neg y, if_neg (fun z => y (s41.mp z))]
  rw [e]
  exact hh
theorem XE_tclose (hd : 9 ≤ d) (hX : CtX tx L kd N) (h : MSt M tx L kd N i pt n (ρ ++ (30, 0) :: π) (br + 1)) (hk : kd i = 41) (hρ : ∀ e ∈ ρ, 1 ≤ bnd12 e.1 ∧ e.1 < 30)
    (hq : ∀ M1 M', MSt M' tx L kd N (i + 1) pt (n + cntP ρ) π br → Fr KMp M M' → SmC M1 M' → (rd M1 74, rd M1 75, ((n + cntP ρ : Nat) : Int)) = stl ρ (rd M 74, rd M 75, (n : Int)) → XE G d tst Q 2 M') : XE G d tst Q 2 M := by
  have hi : i < N := hX.lt h.2.2.2.2.1 (by rw [hk]; decide)
  have hin : inrP (ρ ++ (30, 0) :: π) = 30 := by rw [inrP_app ρ (fun e he => (hρ e he).2)]; rfl
  have hd3 : 3 ≤ d := by omega
  have hd4 : 4 ≤ d - 1 := by omega
  refine XE_2 hd3 h.1.1 h.1.2.2.2 (bt_no hd4 hX h (by rw [hk]; decide) (by rw [hk]; decide) (fun _ => ?_) (fun w => absurd (hin.symm.trans w) (by decide)))
  rw [if_pos hk]
  refine T_mustY (by omega) hX h hi ⟨by decide, by decide⟩ (by decide) (fun M6 S6 F6 => ⟨S6.1.1, by rw [S6.1.2.2.2]; exact ⟨by decide, by decide⟩, fun w => absurd S6.1.2.2.2 w, fun _ => ?_⟩)
  have c6 := SmC.fr F6
  refine T_stl (by omega) hX S6 ⟨by decide, by decide⟩ (by show bnd12 30 < 1; decide) (fun e he => (hρ e he).1) (fun M7 S7 F7 E7 => ⟨S7.1.1, fun M24 e24 s24 M25 e25 s25 => ?_⟩)
  obtain ⟨S8, F8, C8⟩ := S7.pop e24 s24 e25 s25
  rw [c6.1, c6.2] at E7
  exact ⟨s25, hq M7 M25 S8 (((F6.mono (fun _ _ => KTm_p)).tr (F7.mono (fun _ _ => KSe_p))).tr F8) C8 E7⟩
theorem XE_tcloseN (hd : 9 ≤ d) (hX : CtX tx L kd N) (h : MSt M tx L kd N i pt n π br) (h1 : kd i ≠ 303) (h2 : kd i ≠ 304) (hk : kd i ≠ 41) (hin : inrP π ≠ -1) (hq : ∀ M' t', FSt M' tx L i → Fr KMp M M' → XE G d tst Q t' M') : XE G d tst Q 2 M := by
  have hd3 : 3 ≤ d := by omega
  have hd4 : 4 ≤ d - 1 := by omega
  refine XE_2 hd3 h.1.1 h.1.2.2.2 (bt_no hd4 hX h h1 h2 (fun _ => ?_) (fun w => absurd w hin))
  rw [if_neg hk]
  exact T_mustN (by omega) hX h (fun M6 S6 F6 => ⟨S6.1, S6.nb.2.2, fun _ => ⟨S6.1, hq M6 2 S6 F6⟩, fun w => absurd w S6.nb.2.1⟩)
theorem XE_tover (hd : 9 ≤ d) (hX : CtX tx L kd N) (h : MSt M tx L kd N i pt n ρ br) (h1 : kd i ≠ 303) (h2 : kd i ≠ 304) (hρ : ∀ e ∈ ρ, 1 ≤ bnd12 e.1 ∧ e.1 < 30)
    (hq : ∀ M', MSt M' tx L kd N i pt (n + cntP ρ) [] br → Fr KMp M M' → (rd M' 74, rd M' 75, ((n + cntP ρ : Nat) : Int)) = stl ρ (rd M 74, rd M 75, (n : Int)) → Q vU M') : XE G d tst Q 2 M := by
  have hin : inrP ρ = -1 := by
    have := inrP_app (π := []) ρ (fun e he => (hρ e he).2)
    rw [List.append_nil] at this
    exact this
  have hd3 : 3 ≤ d := by omega
  have hd4 : 4 ≤ d - 1 := by omega
  refine XE_2 hd3 h.1.1 h.1.2.2.2 (bt_no hd4 hX h h1 h2 (fun w => absurd hin w) (fun _ => ⟨h.1.1, ?_⟩))
  refine XE_4 hd3 h.1.1 h.1.2.2.2 ?_
  have h' : MSt M tx L kd N i pt n (ρ ++ []) br := by rw [List.append_nil]; exact h
  exact T_stl (by omega) hX h' ⟨by decide, by decide⟩ (by decide) (fun e he => (hρ e he).1) (fun M7 S7 F7 E7 => ⟨S7.1.1, hq M7 S7 (F7.mono (fun _ _ => KSe_p)) E7⟩)
theorem XE_not (hd : 9 ≤ d) (hX : CtX tx L kd N) (h : MSt M tx L kd N i pt n π br) (hk : kd i = 305) (hq : ∀ M', MSt M' tx L kd N (i + 1) pt n ((27, 0) :: π) br → Fr KMp M M' → SmC M M' → XE G d tst Q 0 M') : XE G d tst Q 0 M := by
  have hi : i < N := hX.lt h.2.2.2.2.1 (by rw [hk]; decide)
  have hd3 : 3 ≤ d := by omega
  have hd2 : 2 ≤ d - 1 := by omega
  have hd5 : 2 ≤ d - 1 - 1 := by omega
  have w5 := h.wd (q := 5) (by decide) (by decide)
  rw [show gt wcdL 5 = 14836 by decide] at w5
  refine XE_0 hd3 h.1.1 h.1.2.2.2 (C_X12_readPlain (B_X12_readPlain_0 hd2 h.1.1 ⟨h.w.1, h.w.2, fun w => absurd (w5.mpr hk) w, fun _ => ?_⟩))
  exact push_go hd5 hX h hi (by decide) (by decide) (fun w => absurd w (by decide)) (fun M7 S7 F7 C7 => ⟨S7.1.1, hq M7 S7 F7 C7⟩)
theorem XE_rd (hd : 9 ≤ d) (hX : CtX tx L kd N) (h : MSt M tx L kd N i pt n π br) (hk : kd i = 40) (hb : br < 8) (hq : ∀ M', MSt M' tx L kd N (i + 1) pt n ((30, 0) :: π) (br + 1) → Fr KMp M M' → SmC M M' → XE G d tst Q 0 M') : XE G d tst Q 0 M := by
  have hi : i < N := hX.lt h.2.2.2.2.1 (by rw [hk]; decide)
  have hd3 : 3 ≤ d := by omega
  have hd2 : 2 ≤ d - 1 := by omega
  have hd5 : 4 ≤ d - 1 - 1 := by omega
  have w5 := h.wd (q := 5) (by decide) (by decide)
  rw [show gt wcdL 5 = 14836 by decide] at w5
  have s40 := h.sg (c := 40) (by decide) (by decide)
  refine XE_0 hd3 h.1.1 h.1.2.2.2 (C_X12_readPlain (B_X12_readPlain_0 hd2 h.1.1 ⟨h.w.1, h.w.2, fun _ => ⟨fun w => absurd (s40.mpr hk) w, fun _ => ?_⟩, fun w => absurd ((w5.mp w).symm.trans hk) (by decide)⟩))
  exact T_open hd5 hX h hi hb (Or.inl rfl) (fun M7 S7 F7 C7 => ⟨S7.1.1, S7.1.1, hq M7 S7 F7 C7⟩)
theorem XE_rdN (hd : 9 ≤ d) (hX : CtX tx L kd N) (h : MSt M tx L kd N i pt n π 8) (hk : kd i = 40) (hq : ∀ M' t', FSt M' tx L i → Fr KMp M M' → XE G d tst Q t' M') : XE G d tst Q 0 M := by
  have hd3 : 3 ≤ d := by omega
  have hd2 : 2 ≤ d - 1 := by omega
  have hd5 : 4 ≤ d - 1 - 1 := by omega
  have w5 := h.wd (q := 5) (by decide) (by decide)
  rw [show gt wcdL 5 = 14836 by decide] at w5
  have s40 := h.sg (c := 40) (by decide) (by decide)
  refine XE_0 hd3 h.1.1 h.1.2.2.2 (C_X12_readPlain (B_X12_readPlain_0 hd2 h.1.1 ⟨h.w.1, h.w.2, fun _ => ⟨fun w => absurd (s40.mpr hk) w, fun _ => ?_⟩, fun w => absurd ((w5.mp w).symm.trans hk) (by decide)⟩))
  exact T_openN hd5 hX h (fun M7 S7 F7 => ⟨S7.1, S7.1, hq M7 0 S7 F7⟩)
end ST9
