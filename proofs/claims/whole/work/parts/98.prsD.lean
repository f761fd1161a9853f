/-! ===== the class reads tests, clauses, a law ===== -/
section PC2
variable {G : GG} {d : Nat} {M M1 : MM} {Q : PV → MM → Prop} {kd : Nat → Int} {N at' pt sz br : Nat}
theorem jA_ne {lv : Nat} : jA lv ≠ 256 ∧ inR (jA lv) := by
  unfold jA
  split
  · exact ⟨by decide, ⟨by decide, by decide⟩⟩
  · exact ⟨by decide, ⟨by decide, by decide⟩⟩
theorem tests_loop {k n lv at0 pt0 sz0 : Nat} {M0 : MM} (hlv : lv < 2) (hd : 2 ≤ d) (hK : KD kd N) (hC : PsT G kd N (d - 1) (lv + 1) br) (hQ : ∀ M' r, PsR kd N (lv + 3) br at0 pt0 sz0 M0 M' r → Q (vI r) M') :
    ∀ (m : Nat) (M : MM) (at' pt sz c : Nat) (v : SV), N - at' ≤ m → RI M kd N at' pt sz → Fr KRd M0 M → (∀ k : Int, 0 ≤ k → k < sz0 → rd M 21 k = rd M0 21 k) → c ≤ at' → at0 < at' → pt0 < pt → sz0 < sz → sz + at0 ≤ sz0 + at' → Frg (opC (rd M 21)) (arC (rd M 21)) sz0 sz (pt - pt0) v → z01 v → (∀ res, Der kd (8 + lv) br at' pt v res → Der kd (lv + 3) br at0 pt0 dV0 res) → X G Y_X7_tests d k n 41 [vA 16, vI lv, vI br, vI (jA lv), vI c, vU] [] M Q := by
  intro m
  induction m with
  | zero =>
    intro M at' pt sz c v hm hI hF hc cc ha hp hs hsa hf hz hD
    have hN := hI.2.2.2.2.2.1
    have eN : at' = N := by omega
    have hk : kd at' = 256 := by rw [eN]; exact hK.2.2
    have ho := @jA_ne lv
    have fin : Q (vI 1) M := hQ M 1 ⟨hI.1, hF, hc, Or.inr ⟨rfl, at', pt, sz, v, hD _ (Der_T.2.2.1 lv br at' pt v hlv (by rw [hk]; exact fun w => ho.1 w.symm)), hI, ha, hp, hs, hsa, hf, fun _ => hz⟩⟩
    have hK1 := hK.1
    refine B_X7_tests_41 hd hI.1 ⟨⟨by omega, by omega⟩, fun _ => fin, fun _ => ⟨(hI.b hK).1, (hI.b hK).2, by rw [hI.k]; exact hK.r hN, ho.2, fun _ => fin, fun w => ?_⟩⟩
    rw [hI.k, hk] at w; exact absurd w.symm ho.1
  | succ m ih =>
    intro M at' pt sz c v hm hI hF hc cc ha hp hs hsa hf hz hD
    have hN := hI.2.2.2.2.2.1
    have h8 := hI.2.2.2.2.2.2.2
    have ho := @jA_ne lv
    have hK1 := hK.1
    have fin : kd at' ≠ jA lv → Q (vI 1) M := fun q1 => hQ M 1 ⟨hI.1, hF, hc, Or.inr ⟨rfl, at', pt, sz, v, hD _ (Der_T.2.2.1 lv br at' pt v hlv q1), hI, ha, hp, hs, hsa, hf, fun _ => hz⟩⟩
    refine B_X7_tests_41 hd hI.1 ⟨⟨by omega, by omega⟩, fun w => ?_, fun _ => ⟨(hI.b hK).1, (hI.b hK).2, by rw [hI.k]; exact hK.r hN, ho.2, fun w => fin (by rw [hI.k] at w; exact w), fun w M6 e6 s6 v7 e7 => ⟨⟨by omega, by omega⟩, ?_⟩⟩⟩
    · have eN : at' = N := by omega
      have hk : kd at' = 256 := by rw [eN]; exact hK.2.2
      exact fin (by rw [hk]; exact fun w => ho.1 w.symm)
    rw [hI.k] at w
    have aN : at' < N := hK.lt hN (by rw [w]; exact ho.1)
    obtain ⟨I6, F6, C6⟩ := hI.adv e6 s6 aN
    rw [I6.2.2.2.2.1] at e7
    subst e7
    have hoo : (if (lv : Int) ≠ 0 then 11 else 10) = (if lv = 0 then 10 else (11 : Int)) := by
      by_cases y : lv = 0
      · rw [if_neg (by omega), if_pos y]
      · rw [if_pos (by omega), if_neg y]
    rw [hoo]
    have hoR : 0 ≤ (if lv = 0 then 10 else (11 : Int)) ∧ (if lv = 0 then 10 else (11 : Int)) < 16 := by split <;> decide
    refine T_X7_emit (by omega) hK I6 (by omega) hoR.1 hoR.2 (by decide) (by decide) (fun M13 I13 F13 C13 E13 => ⟨I13.1, ?_⟩)
    have hh := hC M13 (rI (fun r15 M14 => Sh M14 ∧ inR r15 ∧ ((r15 ≠ 0 → inR (sz : Int) ∧ ((400 ≤ (sz : Int) → X G Y_X7_tests d k n 41 [vA 16, vI lv, vI br, vI (jA lv), vI ((c : Int) + 1), vU] [] M14 Q) ∧ ((sz : Int) < 400 → 0 ≤ (sz : Int) ∧ (sz : Int) < 400 ∧ ∀ M20, M20 = wr M14 21 sz (iOr (rd M14 21 sz) (iShl (rd M14 16 8) 4)) → Sh M20 → X G Y_X7_tests d k n 41 [vA 16, vI lv, vI br, vI (jA lv), vI ((c : Int) + 1), vU] [] M20 Q))) ∧ (r15 = 0 → Q (vI 0) M14)))) (at' + 1) pt (sz + 1) I13 (fun M14 r hR => ?_)
    · rw [show ((lv + 1 : Nat) : Int) = (lv : Int) + 1 by omega] at hh
      exact hh
    have c14 : ∀ k : Int, 0 ≤ k → k < sz → rd M14 21 k = rd M 21 k := fun k k0 k1 => by rw [hR.2.2.1 k k0 (by omega), C13 k (by omega), C6]
    have F14 := ((hF.tr F6).tr F13).tr hR.2.1
    refine ⟨hR.1, hR.z.1, fun r1 => ⟨⟨by omega, by omega⟩, fun y => by omega, fun _ => ⟨by omega, by omega, fun M20 e20 s20 => ?_⟩⟩, fun r0 => ?_⟩
    · obtain ⟨a, p, s, u, D1, I1, a1, p1, s1, sa1, f1, hz1⟩ := hR.good r1
      have hz1' := hz1 (by omega)
      have hs4 : s ≤ 400 := by have := I1.2.2.2.2.2.2.2; have := I1.2.2.2.2.2.1; omega
      have E14 : rd M14 21 sz = 0 * 16 + (if lv = 0 then 10 else (11 : Int)) := by rw [hR.2.2.1 sz (by omega) (by omega)]; exact E13
      have E20 : rd M20 21 sz = s * 16 + (if lv = 0 then 10 else (11 : Int)) := by
        rw [e20, rd_wr, if_pos ⟨rfl, rfl⟩, E14, I1.2.2.2.2.1, Int.zero_mul, Int.zero_add]
        exact (cod_ok hoR.1 hoR.2 (by omega) (by omega)).1
      have C20 : ∀ k, k ≠ (sz : Int) → rd M20 21 k = rd M14 21 k := fun k hk => by rw [e20, rd_wr, if_neg (fun y => hk y.2)]
      have I20 : RI M20 kd N a p s := by
        obtain ⟨g1, g2, g3, g4, g5, g6, g7, g8⟩ := I1
        refine ⟨s20, fun i hi => ?_, ?_, ?_, ?_, g6, g7, g8⟩
        · rw [e20, rd_wr, if_neg (by omega)]; exact g2 i hi
        · rw [e20, rd_wr, if_neg (by omega)]; exact g3
        · rw [e20, rd_wr, if_neg (by omega)]; exact g4
        · rw [e20, rd_wr, if_neg (by omega)]; exact g5
      have F20 : Fr KRd M0 M20 := by rw [e20]; exact F14.wr (Or.inl rfl)
      obtain ⟨o1, o2⟩ := opC_of (f := rd M20 21) (k := sz) E20 hoR.1 hoR.2 (by omega) (by omega)
      have hop : opC (rd M20 21) sz = jO lv := by
        rw [o1]; unfold opO jO
        by_cases y : lv = 0
        · rw [if_pos y, if_pos y]; rfl
        · rw [if_neg y, if_neg y]; rfl
      have hjO : jO lv = 28 ∨ jO lv = 29 := by unfold jO; split <;> decide
      have fu : Frg (opC (rd M20 21)) (arC (rd M20 21)) sz0 sz (pt - pt0) v := hf.cg (opC_cg (fun k k0 k1 => by rw [C20 k (by omega), c14 k (by omega) k1]))
      have fw : Frg (opC (rd M20 21)) (arC (rd M20 21)) ((sz : Int) + 1) s (p - pt) u := by
        rw [show ((sz + 1 : Nat) : Int) = (sz : Int) + 1 by omega] at f1
        exact f1.cg (opC_cg (fun k k0 k1 => C20 k (by omega)))
      have fb := Frg_jn (by omega) (by omega) (by omega) (by omega) fu hz fw (by rw [hop]; exact hjO) o2
      rw [hop, show pt - pt0 + (p - pt) = p - pt0 by omega] at fb
      have go := ih M20 a p s (c + 1) _ (by omega) I20 F20 (fun k k0 k1 => by rw [C20 k (by omega), c14 k k0 (by omega)]; exact hc k k0 k1) (by omega) (by omega) (by omega) (by omega) (by omega) fb (z01_jn hz hz1') (fun res h => hD res (Der_T.2.2.2.2.1 lv br at' pt v a p u res hlv w (by rw [show lv + 4 = lv + 1 + 3 by omega]; exact D1) h))
      rw [show ((c + 1 : Nat) : Int) = (c : Int) + 1 by omega] at go
      exact go
    · subst r0
      obtain ⟨a, p, D1, b1, b2⟩ := hR.fail
      exact hQ M14 0 ⟨hR.1, F14, fun k k0 k1 => by rw [c14 k k0 (by omega)]; exact hc k k0 k1, Or.inl ⟨rfl, a, p, hD _ (Der_T.2.2.2.1 lv br at' pt v a p hlv w (by rw [show lv + 4 = lv + 1 + 3 by omega]; exact D1)), b1, b2⟩⟩
theorem PsT_lv {lv : Nat} (hlv : lv < 2) (hd : 2 ≤ d) (hK : KD kd N) (hC : PsT G kd N (d - 1) (lv + 1) br) : PsT G kd N d lv br := by
  intro M Q at' pt sz hI hQ
  refine C_X7_tests (B_X7_tests_0 hd hI.1 ⟨⟨by omega, by omega⟩, fun _ => ?_, fun w => by omega⟩)
  have hh := hC M (rI (fun r3 M2 => Sh M2 ∧ inR r3 ∧ ((r3 ≠ 0 → ∀ v9, v9 = (if (lv : Int) ≠ 0 then 304 else 303) → X G Y_X7_tests d 0 0 41 [vA 16, vI lv, vI br, vI v9, vI 0, vU] [] M2 Q) ∧ (r3 = 0 → Q (vI 0) M2)))) at' pt sz hI (fun M2 r hR => ?_)
  · rw [show ((lv + 1 : Nat) : Int) = (lv : Int) + 1 by omega] at hh
    exact hh
  · refine ⟨hR.1, hR.z.1, fun r1 v9 e9 => ?_, fun r0 => ?_⟩
    · obtain ⟨a, p, s, w, D1, I1, a1, p1, s1, sa1, f1, hz1⟩ := hR.good r1
      have e9' : v9 = jA lv := by
        rw [e9]; unfold jA
        by_cases y : lv = 0
        · rw [if_neg (by omega), if_pos y]
        · rw [if_pos (by omega), if_neg y]
      rw [e9']
      exact tests_loop hlv hd hK hC hQ (N - a) M2 a p s 0 w (Nat.le_refl _) I1 hR.2.1 hR.2.2.1 (Nat.zero_le _) a1 p1 s1 sa1 f1 (hz1 (by omega)) (fun res h => Der_T.2.1 lv br at' pt a p w res hlv (by rw [show lv + 4 = lv + 1 + 3 by omega]; exact D1) h)
    · subst r0
      obtain ⟨a, p, D1, b1, b2⟩ := hR.fail
      exact hQ M2 0 ⟨hR.1, hR.2.1, hR.2.2.1, Or.inl ⟨rfl, a, p, Der_T.1 lv br at' pt a p hlv (by rw [show lv + 4 = lv + 1 + 3 by omega]; exact D1), b1, b2⟩⟩
theorem PsT_2 (hd : 2 ≤ d) (hC : PsN G kd N (d - 1) br) : PsT G kd N d 2 br := by
  intro M Q at' pt sz hI hQ
  refine C_X7_tests (B_X7_tests_0 hd hI.1 ⟨⟨by decide, by decide⟩, fun w => absurd rfl w, fun _ => ?_⟩)
  exact hC M _ at' pt sz hI (fun M2 r hR => ⟨hR.1, hR.z.2, hQ M2 r hR⟩)
def nxV (x : Int) (v : SV) : SV := if x = 0 then v else notV v
/-- behind a plain test: the denial -/
theorem plain_fin {at0 pt0 sz0 a p s : Nat} {M0 : MM} {x2 : Int} {v : SV} (hd : 2 ≤ d) (hK : KD kd N) (hx : x2 = 0 ∨ x2 = 1) (hI : RI M kd N a p s) (hF : Fr KRd M0 M) (hc : ∀ k : Int, 0 ≤ k → k < sz0 → rd M 21 k = rd M0 21 k) (ha : at0 < a) (hp : pt0 < p) (hs : sz0 < s) (hsa : s + at0 ≤ sz0 + a) (hx1 : x2 = 1 → s + at0 + 1 ≤ sz0 + a) (hz0 : sz0 ≤ at0) (hf : Frg (opC (rd M 21)) (arC (rd M 21)) sz0 s (p - pt0) v) (hz : z01 v) (hD : Der kd 5 br at0 pt0 dV0 (a, p, some (nxV x2 v))) (hQ : ∀ M' r, PsR kd N 5 br at0 pt0 sz0 M0 M' r → Q (vI r) M') :
    inR x2 ∧ ((x2 = 0 → Q (vI 1) M) ∧ (x2 ≠ 0 → C G Y_X7_emit (d - 1) 0 0 [vA 16, vI 9, vI 0] M (rU (fun M31 => Sh M31 ∧ Q (vI 1) M31)))) := by
  refine ⟨⟨by omega, by omega⟩, fun w => ?_, fun w => ?_⟩
  · unfold nxV at hD
    rw [if_pos w] at hD
    exact hQ M 1 ⟨hI.1, hF, hc, Or.inr ⟨rfl, a, p, s, v, hD, hI, ha, hp, hs, hsa, hf, fun _ => hz⟩⟩
  · have := hx1 (by omega)
    unfold nxV at hD
    rw [if_neg w] at hD
    refine T_X7_emit (by omega) hK hI (by omega) (by decide) (by decide) (by decide) (by decide) (fun M5 I5 F5 C5 E5 => ⟨I5.1, ?_⟩)
    obtain ⟨o1, o2⟩ := opC_of (f := rd M5 21) (k := s) (o := 9) (t := 0) E5 (by decide) (by decide) (by decide) (by decide)
    have fu : Frg (opC (rd M5 21)) (arC (rd M5 21)) sz0 s (p - pt0) v := hf.cg (opC_cg (fun k k0 k1 => C5 k (by omega)))
    have fb := Frg_not (by omega) (by omega) (by omega) fu hz (by rw [o1]; rfl)
    refine hQ M5 1 ⟨I5.1, hF.tr F5, fun k k0 k1 => by rw [C5 k (by omega)]; exact hc k k0 k1, Or.inr ⟨rfl, a, p, s + 1, _, hD, I5, ha, hp, by omega, by omega, ?_, fun _ => z01_not hz⟩⟩
    rw [show ((s + 1 : Nat) : Int) = (s : Int) + 1 by omega]
    exact fb
theorem plain_52 {k n at0 pt0 sz0 : Nat} {M0 : MM} {x2 x3 : Int} (hd : 2 ≤ d) (hK : KD kd N) (hbr : br ≤ 8) (hCS : PsS G kd N (d - 1) 0 br) (hCT : br < 8 → PsT G kd N (d - 1) 0 (br + 1)) (hx : x2 = 0 ∨ x2 = 1) (hI : RI M kd N at' pt0 sz0) (hF : Fr KRd M0 M) (hc : ∀ k : Int, 0 ≤ k → k < sz0 → rd M 21 k = rd M0 21 k) (ha : at0 ≤ at') (hx1 : x2 = 1 → at0 < at') (hz0 : sz0 ≤ at0) (nn : kd at' ≠ 305) (hD : ∀ a p o, Der kd 5 br at' pt0 dV0 (a, p, o) → Der kd 5 br at0 pt0 dV0 (a, p, o.map (nxV x2))) (hQ : ∀ M' r, PsR kd N 5 br at0 pt0 sz0 M0 M' r → Q (vI r) M') : X G Y_X7_plain d k n 52 [vA 16, vI br, vI x2, vI x3] [] M Q := by
  have hN := hI.2.2.2.2.2.1
  refine B_X7_plain_52 hd hI.1 ⟨(hI.b hK).1, (hI.b hK).2, by rw [hI.k]; exact hK.r hN, fun n40 => ?_, fun y40 => ⟨⟨by omega, by omega⟩, fun b8 M22 e22 s22 => ?_, fun b8 => ?_⟩⟩
  · rw [hI.k] at n40
    refine hCS M _ at' pt0 sz0 hI (fun M4 r hR => ⟨hR.1, hR.z.1, fun r1 => ?_, fun r0 => ?_⟩)
    · obtain ⟨a, p, s, v, D1, I1, a1, p1, s1, sa1, f1, -⟩ := hR.good r1
      have hNa := I1.2.2.2.2.2.1
      refine ⟨(I1.b hK).1, (I1.b hK).2, fun v9 e9 => ?_⟩
      rw [I1.k] at e9
      subst e9
      refine ⟨hK.r hNa, fun cp => ?_, fun cp => ?_⟩
      · have aN : a < N := hK.lt hNa (by omega)
        have hcp : cpK (kd a) := cp
        refine B_X7_plain_165 hd hR.1 (fun M1 e1 s1' => ?_)
        obtain ⟨I2, F2, C2⟩ := I1.adv e1 s1' aN
        refine hCS M1 _ (a + 1) p s I2 (fun M2 r2 hR2 => ⟨hR2.1, hR2.z.1, fun r1' => ⟨hK.r hNa, ?_⟩, fun r0' => ?_⟩)
        · obtain ⟨a2, p2, s2, u, D2, I3, a3, p3, s3, sa3, f3, -⟩ := hR2.good r1'
          have hso : ∃ o : Int, (if kd a ≠ 60 then (if kd a ≠ 62 then 8 else 7) else (6 : Int)) = o ∧ 6 ≤ o ∧ o < 9 ∧ o + 18 = cpO (kd a) := by
            unfold cpO
            rcases cp with y | y | y
            · exact ⟨6, by rw [y]; rfl, by decide, by decide, by rw [y]; rfl⟩
            · exact ⟨7, by rw [y]; rfl, by decide, by decide, by rw [y]; rfl⟩
            · exact ⟨8, by rw [y]; rfl, by decide, by decide, by rw [y]; rfl⟩
          obtain ⟨o, eo, o0, o1, o2⟩ := hso
          rw [eo]
          have g8 := I1.2.2.2.2.2.2.2
          refine T_X7_emit (by omega) hK I3 (by omega) (by omega) (by omega) (by decide) (by decide) (fun M15 I15 F15 C15 E15 => ⟨I15.1, ?_⟩)
          obtain ⟨q1, q2⟩ := opC_of (f := rd M15 21) (k := s2) (o := o) (t := 0) E15 (by omega) (by omega) (by decide) (by decide)
          have ho9 : opC (rd M15 21) s2 = cpO (kd a) := by
            rw [q1]; unfold opO
            rw [if_neg (by omega), if_neg (by omega), if_neg (by omega), if_neg (by omega), if_neg (by omega)]; exact o2
          have fu : Frg (opC (rd M15 21)) (arC (rd M15 21)) sz0 s (p - pt0) v := f1.cg (opC_cg (fun k k0 k1 => by rw [C15 k (by omega), hR2.2.2.1 k (by omega) k1, C2]))
          have fw : Frg (opC (rd M15 21)) (arC (rd M15 21)) s s2 (p2 - p) u := f3.cg (opC_cg (fun k k0 k1 => C15 k (by omega)))
          have fb := Frg_bin (by omega) (by omega) (by omega) (by omega) (by omega) fu fw (by rw [ho9]; omega)
          rw [ho9, show p - pt0 + (p2 - p) = p2 - pt0 by omega] at fb
          refine plain_fin hd hK hx I15 ((hF.tr hR.2.1).tr ((F2.tr hR2.2.1).tr F15)) (fun k k0 k1 => by rw [C15 k (by omega), hR2.2.2.1 k k0 (by omega), C2, hR.2.2.1 k k0 k1]; exact hc k k0 k1) (by omega) (by omega) (by omega) (by omega) (fun w => by have := hx1 w; omega) hz0 (by rw [show ((s2 + 1 : Nat) : Int) = (s2 : Int) + 1 by omega]; exact fb) (z01_bin (by rw [← o2]; omega)) ?_ hQ
          exact hD a2 p2 (some (binV (cpO (kd a)) v u)) (Der_T.2.2.2.2.2.2.2.2.2.2.2.2.2.2 br at' pt0 a p v a2 p2 u nn n40 D1 hcp D2)
        · subst r0'
          obtain ⟨a2, p2, D2, b1, b2⟩ := hR2.fail
          exact hQ M2 0 ⟨hR2.1, (hF.tr hR.2.1).tr (F2.tr hR2.2.1), fun k k0 k1 => by rw [hR2.2.2.1 k k0 (by omega), C2, hR.2.2.1 k k0 k1]; exact hc k k0 k1, Or.inl ⟨rfl, a2, p2, hD a2 p2 none (Der_T.2.2.2.2.2.2.2.2.2.2.2.2.2.1 br at' pt0 a p v a2 p2 nn n40 D1 hcp D2), b1, b2⟩⟩
      · exact hQ M4 0 ⟨hR.1, hF.tr hR.2.1, fun k k0 k1 => by rw [hR.2.2.1 k k0 k1]; exact hc k k0 k1, Or.inl ⟨rfl, a, p, hD a p none (Der_T.2.2.2.2.2.2.2.2.2.2.2.2.1 br at' pt0 a p v nn n40 D1 cp), I1.2.2.1, hNa⟩⟩
    · subst r0
      obtain ⟨a, p, D1, b1, b2⟩ := hR.fail
      exact hQ M4 0 ⟨hR.1, hF.tr hR.2.1, fun k k0 k1 => by rw [hR.2.2.1 k k0 k1]; exact hc k k0 k1, Or.inl ⟨rfl, a, p, hD a p none (Der_T.2.2.2.2.2.2.2.2.2.2.2.1 br at' pt0 a p nn n40 D1), b1, b2⟩⟩
  · rw [hI.k] at y40
    have b8' : br < 8 := by omega
    have aN : at' < N := hK.lt hN (by rw [y40]; decide)
    obtain ⟨I22, F22, C22⟩ := hI.adv e22 s22 aN
    have hh := hCT b8' M22 (rI (fun r24 M23 => Sh M23 ∧ inR r24 ∧ ((r24 = 0 → Q (vI 0) M23) ∧ (r24 ≠ 0 → 0 ≤ (rd M23 16 2) ∧ (rd M23 16 2) < 401 ∧ inR (rd M23 17 (rd M23 16 2)) ∧ (((rd M23 17 (rd M23 16 2)) = 41 → ∀ M29, M29 = wr M23 16 2 ((rd M23 16 2) + 1) → Sh M29 → inR x2 ∧ ((x2 = 0 → Q (vI 1) M29) ∧ (x2 ≠ 0 → C G Y_X7_emit (d - 1) 0 0 [vA 16, vI 9, vI 0] M29 (rU (fun M31 => Sh M31 ∧ Q (vI 1) M31))))) ∧ ((rd M23 17 (rd M23 16 2)) ≠ 41 → Q (vI 0) M23)))))) (at' + 1) pt0 sz0 I22 (fun M23 r hR => ?_)
    · rw [show ((br + 1 : Nat) : Int) = (br : Int) + 1 by omega] at hh
      exact hh
    · have c23 : ∀ k : Int, 0 ≤ k → k < sz0 → rd M23 21 k = rd M0 21 k := fun k k0 k1 => by rw [hR.2.2.1 k k0 k1, C22]; exact hc k k0 k1
      have F23 := hF.tr (F22.tr hR.2.1)
      refine ⟨hR.1, hR.z.1, fun r0 => ?_, fun r1 => ?_⟩
      · subst r0
        obtain ⟨a, p, D1, q1, q2⟩ := hR.fail
        exact hQ M23 0 ⟨hR.1, F23, c23, Or.inl ⟨rfl, a, p, hD a p none (Der_T.2.2.2.2.2.2.2.2.1 br at' pt0 a p b8' y40 D1), q1, q2⟩⟩
      · obtain ⟨a, p, s, w, D1, I1, a1, p1, s1, sa1, f1, hz1⟩ := hR.good r1
        have hNa := I1.2.2.2.2.2.1
        refine ⟨(I1.b hK).1, (I1.b hK).2, by rw [I1.k]; exact hK.r hNa, fun y M29 e29 s29 => ?_, fun y => ?_⟩
        · rw [I1.k] at y
          obtain ⟨I29, F29, C29⟩ := I1.adv e29 s29 (hK.lt hNa (by rw [y]; decide))
          exact plain_fin hd hK hx I29 (F23.tr F29) (fun k k0 k1 => by rw [C29]; exact c23 k k0 k1) (by omega) p1 s1 (by omega) (fun w => by omega) hz0 (f1.cg (opC_cg (fun k _ _ => C29 k))) (hz1 (by decide)) (hD (a + 1) p (some w) (Der_T.2.2.2.2.2.2.2.2.2.2.1 br at' pt0 a p w b8' y40 D1 y)) hQ
        · rw [I1.k] at y
          exact hQ M23 0 ⟨hR.1, F23, c23, Or.inl ⟨rfl, a, p, hD a p none (Der_T.2.2.2.2.2.2.2.2.2.1 br at' pt0 a p w b8' y40 D1 y), I1.2.2.1, hNa⟩⟩
  · rw [hI.k] at y40
    have : br = 8 := by omega
    subst this
    exact hQ M 0 ⟨hI.1, hF, hc, Or.inl ⟨rfl, at', pt0, hD at' pt0 none (Der_T.2.2.2.2.2.2.2.1 at' pt0 y40), hI.2.2.1, hN⟩⟩
theorem plain_loop {k n at0 pt0 sz0 : Nat} {M0 : MM} (hd : 2 ≤ d) (hK : KD kd N) (hbr : br ≤ 8) (hCS : PsS G kd N (d - 1) 0 br) (hCT : br < 8 → PsT G kd N (d - 1) 0 (br + 1)) (hz0 : sz0 ≤ at0) (hQ : ∀ M' r, PsR kd N 5 br at0 pt0 sz0 M0 M' r → Q (vI r) M') :
    ∀ (m : Nat) (M : MM) (at' c : Nat) (x2 : Int), N - at' ≤ m → (x2 = 0 ∨ x2 = 1) → RI M kd N at' pt0 sz0 → Fr KRd M0 M → (∀ k : Int, 0 ≤ k → k < sz0 → rd M 21 k = rd M0 21 k) → c ≤ at' → at0 ≤ at' → (x2 = 1 → at0 < at') → (∀ a p o, Der kd 5 br at' pt0 dV0 (a, p, o) → Der kd 5 br at0 pt0 dV0 (a, p, o.map (nxV x2))) → X G Y_X7_plain d k n 4 [vA 16, vI br, vI x2, vI c] [] M Q := by
  intro m
  induction m with
  | zero =>
    intro M at' c x2 hm hx hI hF hc cc ha hx1 hD
    have hN := hI.2.2.2.2.2.1
    have eN : at' = N := by omega
    have hk : kd at' = 256 := by rw [eN]; exact hK.2.2
    have hK1 := hK.1
    have go : X G Y_X7_plain d k n 52 [vA 16, vI br, vI x2, vI c] [] M Q := plain_52 hd hK hbr hCS hCT hx hI hF hc ha hx1 hz0 (by rw [hk]; decide) hD hQ
    refine B_X7_plain_4 (by omega) hI.1 ⟨⟨by omega, by omega⟩, fun _ => go, fun _ => ⟨(hI.b hK).1, (hI.b hK).2, by rw [hI.k]; exact hK.r hN, fun _ => go, fun w => ?_⟩⟩
    rw [hI.k, hk] at w; exact absurd w (by decide)
  | succ m ih =>
    intro M at' c x2 hm hx hI hF hc cc ha hx1 hD
    have hN := hI.2.2.2.2.2.1
    have hK1 := hK.1
    have go : kd at' ≠ 305 → X G Y_X7_plain d k n 52 [vA 16, vI br, vI x2, vI c] [] M Q := fun nn => plain_52 hd hK hbr hCS hCT hx hI hF hc ha hx1 hz0 nn hD hQ
    refine B_X7_plain_4 (by omega) hI.1 ⟨⟨by omega, by omega⟩, fun w => ?_, fun _ => ⟨(hI.b hK).1, (hI.b hK).2, by rw [hI.k]; exact hK.r hN, fun w => go (by rw [hI.k] at w; exact w), fun w => ⟨⟨by omega, by omega⟩, fun v10 e10 M11 e11 s11 => ?_⟩⟩⟩
    · have eN : at' = N := by omega
      exact go (by rw [eN, hK.2.2]; decide)
    · rw [hI.k] at w
      obtain ⟨I11, F11, C11⟩ := hI.adv e11 s11 (hK.lt hN (by rw [w]; decide))
      have hv : v10 = 0 ∨ v10 = 1 := by rw [e10]; split; exact Or.inr rfl; exact Or.inl rfl
      have nn : ∀ v : SV, nxV x2 (notV v) = nxV v10 v := fun v => by
        unfold nxV
        rcases hx with y | y
        · rw [if_pos y] at e10
          rw [if_pos y, if_neg (by omega)]
        · rw [if_neg (by omega)] at e10
          rw [if_neg (by omega), if_pos e10, notV2]
      have g := ih M11 (at' + 1) (c + 1) v10 (by omega) hv I11 (hF.tr F11) (fun k k0 k1 => by rw [C11]; exact hc k k0 k1) (by omega) (by omega) (fun _ => by omega) (fun a p o h => by
        cases o with
        | none => exact hD a p none (Der_T.2.2.2.2.2.1 br at' pt0 a p w h)
        | some v =>
          have := hD a p (some (notV v)) (Der_T.2.2.2.2.2.2.1 br at' pt0 a p v w h)
          rw [Option.map_some, nn] at this
          exact this)
      rw [show ((c + 1 : Nat) : Int) = (c : Int) + 1 by omega] at g
      exact g
theorem PsN_ok (hd : 2 ≤ d) (hK : KD kd N) (hbr : br ≤ 8) (hCS : PsS G kd N (d - 1) 0 br) (hCT : br < 8 → PsT G kd N (d - 1) 0 (br + 1)) : PsN G kd N d br := by
  intro M Q at' pt sz hI hQ
  refine C_X7_plain (B_X7_plain_0 (by omega) hI.1 ?_)
  exact plain_loop hd hK hbr hCS hCT hI.2.2.2.2.2.2.2 hQ (N - at') M at' 0 0 (Nat.le_refl _) (Or.inl rfl) hI Fr.rf (fun _ _ _ => rfl) (Nat.zero_le _) (Nat.le_refl _) (fun w => absurd w (by decide)) (fun a p o h => by
    have : nxV 0 = id := by funext v; unfold nxV; rw [if_pos rfl]; rfl
    rw [this, Option.map_id]; exact h)
theorem PsT_all (hK : KD kd N) : ∀ (b d br : Nat), br + b = 8 → 4 * b + 9 ≤ d → PsT G kd N d 0 br
  | 0, d, br, hb, hd => PsT_lv (by decide) (by omega) hK (PsT_lv (by decide) (by omega) hK (PsT_2 (by omega) (PsN_ok (by omega) hK (by omega) (PsS_all hK 0 _ br (by omega) (by omega)) (fun w => by omega))))
  | b + 1, d, br, hb, hd => PsT_lv (by decide) (by omega) hK (PsT_lv (by decide) (by omega) hK (PsT_2 (by omega) (PsN_ok (by omega) hK (by omega) (PsS_all hK (b + 1) _ br (by omega) (by omega)) (fun w => PsT_all hK b _ (br + 1) (by omega) (by omega)))))
end PC2
