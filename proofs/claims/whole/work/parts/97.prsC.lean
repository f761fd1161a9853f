/-! ===== the class reads sums and tests ===== -/
def KRd (a j : Int) : Prop := a = 21 ∨ (a = 16 ∧ (j = 2 ∨ j = 3 ∨ j = 8))
def KD (kd : Nat → Int) (N : Nat) : Prop := N ≤ 400 ∧ (∀ i : Nat, i < N → 0 ≤ kd i ∧ kd i ≤ 2001 ∧ kd i ≠ 256) ∧ kd N = 256
def RI (M : MM) (kd : Nat → Int) (N at' pt sz : Nat) : Prop := Sh M ∧ (∀ i : Nat, i ≤ N → rd M 17 i = kd i) ∧ rd M 16 2 = at' ∧ rd M 16 3 = pt ∧ rd M 16 8 = sz ∧ at' ≤ N ∧ pt ≤ 50 ∧ sz ≤ at'
section PC1
variable {G : GG} {d : Nat} {M M1 : MM} {Q : PV → MM → Prop} {kd : Nat → Int} {N at' pt sz br : Nat}
theorem KD.r (hK : KD kd N) {i : Nat} (hi : i ≤ N) : inR (kd i) := by
  by_cases q : i < N
  · have := hK.2.1 i q; exact ⟨by omega, by omega⟩
  · have : i = N := by omega
    rw [this, hK.2.2]; exact ⟨by decide, by decide⟩
theorem KD.lt (hK : KD kd N) {i : Nat} (hi : i ≤ N) (h : kd i ≠ 256) : i < N := by
  by_cases q : i = N
  · rw [q] at h; exact absurd hK.2.2 h
  · omega
theorem RI.k (h : RI M kd N at' pt sz) : rd M 17 (rd M 16 2) = kd at' := by rw [h.2.2.1]; exact h.2.1 at' h.2.2.2.2.2.1
theorem RI.b (h : RI M kd N at' pt sz) (hK : KD kd N) : 0 ≤ rd M 16 2 ∧ rd M 16 2 < 401 := by
  have := h.2.2.1; have := h.2.2.2.2.2.1; have := hK.1; omega
theorem RI.adv (h : RI M kd N at' pt sz) (e : M1 = wr M 16 2 (rd M 16 2 + 1)) (hS : Sh M1) (hN : at' < N) : RI M1 kd N (at' + 1) pt sz ∧ Fr KRd M M1 ∧ ∀ k, rd M1 21 k = rd M 21 k := by
  obtain ⟨h1, h2, h3, h4, h5, h6, h7, h8⟩ := h
  refine ⟨⟨hS, fun i hi => ?_, ?_, ?_, ?_, by omega, h7, by omega⟩, ?_, fun k => ?_⟩
  · rw [e, rd_wr, if_neg (by omega)]; exact h2 i hi
  · rw [e, rd_wr, if_pos ⟨rfl, rfl⟩, h3]; omega
  · rw [e, rd_wr, if_neg (by omega)]; exact h4
  · rw [e, rd_wr, if_neg (by omega)]; exact h5
  · rw [e]; exact Fr.rf.wr (Or.inr ⟨rfl, Or.inl rfl⟩)
  · rw [e, rd_wr, if_neg (by omega)]
theorem cod_ok {o t : Int} (o0 : 0 ≤ o) (o1 : o < 16) (t0 : 0 ≤ t) (t1 : t ≤ 2000) : iOr o (iShl t 4) = t * 16 + o ∧ iAnd (t * 16 + o) 15 = o ∧ iShr (t * 16 + o) 4 = t := by
  have e1 : iShl t 4 = t * 16 := iShl_4 t0 (by omega)
  have e2 : iOr o (t * 16) = iOr (t * 16) o := by unfold iOr; rw [Int32.or_comm]
  refine ⟨?_, ?_, ?_⟩
  · rw [e1, e2]
    exact iOr_add (i := 4) t rfl t0 (by omega) o0 (by show o < 16; exact o1) (by omega)
  · have := iAnd_mod (x := t * 16 + o) 15 4 rfl (by omega) (by omega) (by decide)
    rw [show ((15 : Nat) : Int) = 15 from rfl] at this
    rw [this, show ((2 ^ 4 : Nat) : Int) = 16 from rfl]
    omega
  · rw [iShr_4 ⟨by omega, by omega⟩]; omega
def opO (o t : Int) : Int := if o = 0 then 0 else if o = 1 then (if 0 ≤ t ∧ t < 7 then t + 1 else 99) else if o = 9 then 27 else if o = 10 then 29 else if o = 11 then 28 else o + 18
theorem opC_of {f : Int → Int} {k o t : Int} (hf : f k = t * 16 + o) (o0 : 0 ≤ o) (o1 : o < 16) (t0 : 0 ≤ t) (t1 : t ≤ 2000) : opC f k = opO o t ∧ arC f k = t := by
  obtain ⟨h1, h2, h3⟩ := cod_ok o0 o1 t0 t1
  unfold opC arC opO
  rw [hf, h2, h3]
  exact ⟨rfl, rfl⟩
theorem opC_cg {f g : Int → Int} {i j : Int} (h : ∀ k, i ≤ k → k < j → g k = f k) : ∀ k, i ≤ k → k < j → opC g k = opC f k ∧ arC g k = arC f k := fun k k0 k1 => by
  unfold opC arC
  rw [h k k0 k1]
  exact ⟨rfl, rfl⟩
theorem T_X7_emit {o t : Int} (hd : 1 ≤ d) (hK : KD kd N) (h : RI M kd N at' pt sz) (hs : sz < at') (o0 : 0 ≤ o) (o1 : o < 16) (t0 : 0 ≤ t) (t1 : t ≤ 2000)
    (hq : ∀ M', RI M' kd N at' pt (sz + 1) → Fr KRd M M' → (∀ k, k ≠ (sz : Int) → rd M' 21 k = rd M 21 k) → rd M' 21 sz = t * 16 + o → Q vU M') : C G Y_X7_emit d 0 0 [vA 16, vI o, vI t] M Q := by
  obtain ⟨h1, h2, h3, h4, h5, h6, h7, h8⟩ := h
  have hN := hK.1
  refine C_X7_emit (B_X7_emit_0 hd h1 ⟨⟨by omega, by omega⟩, fun q => by omega, fun _ => ⟨by omega, by omega, fun M4 e4 s4 M5 e5 s5 => ?_⟩⟩)
  have r4 : rd M4 16 8 = sz := by rw [e4, rd_wr, if_neg (by omega)]; exact h5
  have r5 : ∀ a j, ¬ KRd a j → rd M5 a j = rd M a j := fun a j q => by
    rw [e5, rd_wr, if_neg (fun w => q (Or.inr ⟨w.1, Or.inr (Or.inr w.2)⟩)), e4, rd_wr, if_neg (fun w => q (Or.inl w.1))]
  refine hq M5 ⟨s5, fun i hi => ?_, ?_, ?_, ?_, h6, h7, by omega⟩ ?_ (fun k hk => ?_) ?_
  · rw [r5 17 i (by unfold KRd; omega)]; exact h2 i hi
  · rw [e5, rd_wr, if_neg (by omega), e4, rd_wr, if_neg (by omega)]; exact h3
  · rw [e5, rd_wr, if_neg (by omega), e4, rd_wr, if_neg (by omega)]; exact h4
  · rw [e5, rd_wr, if_pos ⟨rfl, rfl⟩, r4]; omega
  · rw [e5, e4]; exact (Fr.rf.wr (Or.inl rfl)).wr (Or.inr ⟨rfl, Or.inr (Or.inr rfl)⟩)
  · rw [e5, rd_wr, if_neg (by omega), e4, rd_wr, if_neg (by omega)]
  · rw [e5, rd_wr, if_neg (by omega), e4, rd_wr, if_pos ⟨rfl, h5.symm⟩, (cod_ok o0 o1 t0 t1).1]
/-- what a piece of reading leaves -/
def PsR (kd : Nat → Int) (N m br at' pt sz : Nat) (M M' : MM) (r : Int) : Prop :=
  Sh M' ∧ Fr KRd M M' ∧ (∀ k : Int, 0 ≤ k → k < sz → rd M' 21 k = rd M 21 k) ∧
  ((r = 0 ∧ ∃ a p : Nat, Der kd m br at' pt dV0 (a, p, none) ∧ rd M' 16 2 = a ∧ a ≤ N) ∨
   (r = 1 ∧ ∃ (a p s : Nat) (v : SV), Der kd m br at' pt dV0 (a, p, some v) ∧ RI M' kd N a p s ∧ at' < a ∧ pt < p ∧ sz < s ∧ s + at' ≤ sz + a ∧ Frg (opC (rd M' 21)) (arC (rd M' 21)) sz s (p - pt) v ∧ (3 ≤ m → z01 v)))
def PsC (G : GG) (kd : Nat → Int) (N m br : Nat) (y : YY) (as : List PV) (d : Nat) : Prop := ∀ (M : MM) (Q : PV → MM → Prop) (at' pt sz : Nat), RI M kd N at' pt sz → (∀ M' r, PsR kd N m br at' pt sz M M' r → Q (vI r) M') → C G y d 0 0 as M Q
def PsS (G : GG) (kd : Nat → Int) (N d lv br : Nat) : Prop := PsC G kd N lv br Y_X7_sums [vA 16, vI lv, vI br] d
def PsP (G : GG) (kd : Nat → Int) (N d br : Nat) : Prop := PsC G kd N 2 br Y_X7_part [vA 16, vI br] d
def PsT (G : GG) (kd : Nat → Int) (N d lv br : Nat) : Prop := PsC G kd N (lv + 3) br Y_X7_tests [vA 16, vI lv, vI br] d
def PsN (G : GG) (kd : Nat → Int) (N d br : Nat) : Prop := PsC G kd N 5 br Y_X7_plain [vA 16, vI br] d
theorem PsR.z {m : Nat} {M M' : MM} {r : Int} (h : PsR kd N m br at' pt sz M M' r) : inR r ∧ (r = 0 ∨ r = 1) := by
  rcases h.2.2.2 with q | q
  · rw [q.1]; exact ⟨⟨by decide, by decide⟩, Or.inl rfl⟩
  · rw [q.1]; exact ⟨⟨by decide, by decide⟩, Or.inr rfl⟩
theorem PsR.fail {m : Nat} {M M' : MM} (h : PsR kd N m br at' pt sz M M' 0) : ∃ a p : Nat, Der kd m br at' pt dV0 (a, p, none) ∧ rd M' 16 2 = a ∧ a ≤ N := by
  rcases h.2.2.2 with q | q
  · exact q.2
  · exact absurd q.1 (by decide)
theorem PsR.good {m : Nat} {M M' : MM} {r : Int} (h : PsR kd N m br at' pt sz M M' r) (hr : r ≠ 0) : ∃ (a p s : Nat) (v : SV), Der kd m br at' pt dV0 (a, p, some v) ∧ RI M' kd N a p s ∧ at' < a ∧ pt < p ∧ sz < s ∧ s + at' ≤ sz + a ∧ Frg (opC (rd M' 21)) (arC (rd M' 21)) sz s (p - pt) v ∧ (3 ≤ m → z01 v) := by
  rcases h.2.2.2 with q | q
  · exact absurd q.1 hr
  · exact q.2
theorem oA_ne {lv : Nat} : oA lv ≠ 256 ∧ oB lv ≠ 256 ∧ inR (oA lv) ∧ inR (oB lv) := by
  unfold oA oB
  split
  · exact ⟨by decide, by decide, ⟨by decide, by decide⟩, ⟨by decide, by decide⟩⟩
  · exact ⟨by decide, by decide, ⟨by decide, by decide⟩, ⟨by decide, by decide⟩⟩
theorem sums_loop {k n lv at0 pt0 sz0 : Nat} {M0 : MM} (hlv : lv < 2) (hd : 2 ≤ d) (hK : KD kd N) (hC : PsS G kd N (d - 1) (lv + 1) br) (hQ : ∀ M' r, PsR kd N lv br at0 pt0 sz0 M0 M' r → Q (vI r) M') :
    ∀ (m : Nat) (M : MM) (at' pt sz c : Nat) (v : SV), N - at' ≤ m → RI M kd N at' pt sz → Fr KRd M0 M → (∀ k : Int, 0 ≤ k → k < sz0 → rd M 21 k = rd M0 21 k) → c ≤ at' → at0 < at' → pt0 < pt → sz0 < sz → sz + at0 ≤ sz0 + at' → Frg (opC (rd M 21)) (arC (rd M 21)) sz0 sz (pt - pt0) v → (∀ res, Der kd (6 + lv) br at' pt v res → Der kd lv br at0 pt0 dV0 res) → X G Y_X7_sums d k n 52 [vA 16, vI lv, vI br, vI (oA lv), vI (oB lv), vI c, vU] [] M Q := by
  intro m
  induction m with
  | zero =>
    intro M at' pt sz c v hm hI hF hc cc ha hp hs hsa hf hD
    have hN := hI.2.2.2.2.2.1
    have eN : at' = N := by omega
    have hk : kd at' = 256 := by rw [eN]; exact hK.2.2
    have ho := @oA_ne lv
    have fin : Q (vI 1) M := hQ M 1 ⟨hI.1, hF, hc, Or.inr ⟨rfl, at', pt, sz, v, hD _ (Der_S.2.2.1 lv br at' pt v hlv (by rw [hk]; exact fun w => ho.1 w.symm) (by rw [hk]; exact fun w => ho.2.1 w.symm)), hI, ha, hp, hs, hsa, hf, fun w => by omega⟩⟩
    have hK1 := hK.1
    refine B_X7_sums_52 (by omega) hI.1 ⟨⟨by omega, by omega⟩, fun _ => fin, fun _ => ⟨(hI.b hK).1, (hI.b hK).2, by rw [hI.k]; exact hK.r hN, ho.2.2.1, fun w => ?_, fun _ => ⟨ho.2.2.2, fun _ => fin, fun w => ?_⟩⟩⟩
    · rw [hI.k, hk] at w; exact absurd w.symm ho.1
    · rw [hI.k, hk] at w; exact absurd w.symm ho.2.1
  | succ m ih =>
    intro M at' pt sz c v hm hI hF hc cc ha hp hs hsa hf hD
    have hN := hI.2.2.2.2.2.1
    have ho := @oA_ne lv
    have hK1 := hK.1
    have fin : kd at' ≠ oA lv → kd at' ≠ oB lv → Q (vI 1) M := fun q1 q2 => hQ M 1 ⟨hI.1, hF, hc, Or.inr ⟨rfl, at', pt, sz, v, hD _ (Der_S.2.2.1 lv br at' pt v hlv q1 q2), hI, ha, hp, hs, hsa, hf, fun w => by omega⟩⟩
    have step : (kd at' = oA lv ∨ kd at' = oB lv) → X G Y_X7_sums d k n 87 [vA 16, vI lv, vI br, vI (oA lv), vI (oB lv), vI c, vU] [] M Q := by
      intro q
      have aN : at' < N := hK.lt hN (by rcases q with q | q <;> rw [q]; exact ho.1; exact ho.2.1)
      refine B_X7_sums_87 hd hI.1 ⟨⟨by omega, by omega⟩, (hI.b hK).1, (hI.b hK).2, by rw [hI.k]; exact hK.r hN, ho.2.2.2, fun v14 e14 M15 e15 s15 => ?_⟩
      obtain ⟨I15, F15, C15⟩ := hI.adv e15 s15 aN
      have hh := hC M15 (rI (fun r17 M16 => Sh M16 ∧ inR r17 ∧ ((r17 ≠ 0 → C G Y_X7_emit (d - 1) 0 0 [vA 16, vI v14, vI 0] M16 (rU (fun M19 => Sh M19 ∧ X G Y_X7_sums d k n 52 [vA 16, vI lv, vI br, vI (oA lv), vI (oB lv), vI ((c : Int) + 1), vU] [] M19 Q))) ∧ (r17 = 0 → Q (vI 0) M16)))) (at' + 1) pt sz I15 (fun M16 r hR => ?_)
      · rw [show ((lv + 1 : Nat) : Int) = (lv : Int) + 1 by omega] at hh
        exact hh
      · have c16 : ∀ k : Int, 0 ≤ k → k < sz → rd M16 21 k = rd M 21 k := fun k k0 k1 => by rw [hR.2.2.1 k k0 k1, C15]
        refine ⟨hR.1, hR.z.1, fun r1 => ?_, fun r0 => ?_⟩
        · obtain ⟨a, p, s, w, D1, I1, a1, p1, s1, sa1, f1, -⟩ := hR.good r1
          have h8 := hI.2.2.2.2.2.2.2
          have ev : v14 = (if lv = 0 then 2 else 4) + (if kd at' = oB lv then 1 else 0) := by
            rw [e14, hI.k]
            by_cases y : lv = 0
            · rw [if_neg (by omega), if_pos y]
            · rw [if_pos (by omega), if_neg y]
          have hv : v14 + 18 = opN lv (kd at') ∧ 2 ≤ v14 ∧ v14 < 6 := by
            rw [ev]; unfold opN
            constructor
            · split <;> split <;> omega
            · split <;> split <;> omega
          refine T_X7_emit (by omega) hK I1 (by omega) (by omega) (by omega) (by decide) (by decide) (fun M19 I19 F19 C19 E19 => ⟨I19.1, ?_⟩)
          obtain ⟨o1, o2⟩ := opC_of (f := rd M19 21) (k := s) (o := v14) (t := 0) E19 (by omega) (by omega) (by decide) (by decide)
          have ho9 : opC (rd M19 21) s = opN lv (kd at') := by
            rw [o1]; unfold opO
            rw [if_neg (by omega), if_neg (by omega), if_neg (by omega), if_neg (by omega), if_neg (by omega)]; exact hv.1
          have hop : 20 ≤ opC (rd M19 21) s ∧ opC (rd M19 21) s < 27 := by rw [ho9]; omega
          have fu : Frg (opC (rd M19 21)) (arC (rd M19 21)) sz0 sz (pt - pt0) v := hf.cg (opC_cg (fun k k0 k1 => by rw [C19 k (by omega), c16 k (by omega) k1]))
          have fw : Frg (opC (rd M19 21)) (arC (rd M19 21)) sz s (p - pt) w := f1.cg (opC_cg (fun k k0 k1 => C19 k (by omega)))
          have fb := Frg_bin (by omega) (by omega) (by omega) (by omega) (by omega) fu fw hop
          rw [ho9, show pt - pt0 + (p - pt) = p - pt0 by omega] at fb
          have go := ih M19 a p (s + 1) (c + 1) _ (by omega) I19 ((hF.tr F15).tr (hR.2.1.tr F19)) (fun k k0 k1 => by rw [C19 k (by omega), c16 k k0 (by omega)]; exact hc k k0 k1) (by omega) (by omega) (by omega) (by omega) (by omega) (by rw [show ((s + 1 : Nat) : Int) = (s : Int) + 1 by omega]; exact fb) (fun res h => hD res (Der_S.2.2.2.2.1 lv br at' pt v a p w res hlv q D1 h))
          rw [show ((c + 1 : Nat) : Int) = (c : Int) + 1 by omega] at go
          exact go
        · subst r0
          obtain ⟨a, p, D1, b1, b2⟩ := hR.fail
          exact hQ M16 0 ⟨hR.1, (hF.tr F15).tr hR.2.1, fun k k0 k1 => by rw [c16 k k0 (by omega)]; exact hc k k0 k1, Or.inl ⟨rfl, a, p, hD _ (Der_S.2.2.2.1 lv br at' pt v a p hlv q D1), b1, b2⟩⟩
    refine B_X7_sums_52 (by omega) hI.1 ⟨⟨by omega, by omega⟩, fun w => ?_, fun _ => ⟨(hI.b hK).1, (hI.b hK).2, by rw [hI.k]; exact hK.r hN, ho.2.2.1, fun w => step (Or.inl (by rw [hI.k] at w; exact w)), fun w1 => ⟨ho.2.2.2, fun w2 => fin (by rw [hI.k] at w1; exact w1) (by rw [hI.k] at w2; exact w2), fun w => step (Or.inr (by rw [hI.k] at w; exact w))⟩⟩⟩
    have eN : at' = N := by omega
    have hk : kd at' = 256 := by rw [eN]; exact hK.2.2
    exact fin (by rw [hk]; exact fun w => ho.1 w.symm) (by rw [hk]; exact fun w => ho.2.1 w.symm)
theorem PsS_lv {lv : Nat} (hlv : lv < 2) (hd : 2 ≤ d) (hK : KD kd N) (hC : PsS G kd N (d - 1) (lv + 1) br) : PsS G kd N d lv br := by
  intro M Q at' pt sz hI hQ
  refine C_X7_sums (B_X7_sums_0 hd hI.1 ⟨⟨by omega, by omega⟩, fun _ => ?_, fun w => by omega⟩)
  have hh := hC M (rI (fun r3 M2 => Sh M2 ∧ inR r3 ∧ ((r3 ≠ 0 → ∀ v9, v9 = (if (lv : Int) ≠ 0 then 42 else 43) → ∀ v14, v14 = (if (lv : Int) ≠ 0 then 47 else 45) → X G Y_X7_sums d 0 0 52 [vA 16, vI lv, vI br, vI v9, vI v14, vI 0, vU] [] M2 Q) ∧ (r3 = 0 → Q (vI 0) M2)))) at' pt sz hI (fun M2 r hR => ?_)
  · rw [show ((lv + 1 : Nat) : Int) = (lv : Int) + 1 by omega] at hh
    exact hh
  · refine ⟨hR.1, hR.z.1, fun r1 v9 e9 v14 e14 => ?_, fun r0 => ?_⟩
    · obtain ⟨a, p, s, w, D1, I1, a1, p1, s1, sa1, f1, -⟩ := hR.good r1
      have e9' : v9 = oA lv := by
        rw [e9]; unfold oA
        by_cases y : lv = 0
        · rw [if_neg (by omega), if_pos y]
        · rw [if_pos (by omega), if_neg y]
      have e14' : v14 = oB lv := by
        rw [e14]; unfold oB
        by_cases y : lv = 0
        · rw [if_neg (by omega), if_pos y]
        · rw [if_pos (by omega), if_neg y]
      rw [e9', e14']
      exact sums_loop hlv hd hK hC hQ (N - a) M2 a p s 0 w (Nat.le_refl _) I1 hR.2.1 hR.2.2.1 (Nat.zero_le _) a1 p1 s1 sa1 f1 (fun res h => Der_S.2.1 lv br at' pt a p w res hlv D1 h)
    · subst r0
      obtain ⟨a, p, D1, b1, b2⟩ := hR.fail
      exact hQ M2 0 ⟨hR.1, hR.2.1, hR.2.2.1, Or.inl ⟨rfl, a, p, Der_S.1 lv br at' pt a p hlv D1, b1, b2⟩⟩
theorem PsS_2 (hd : 2 ≤ d) (hC : PsP G kd N (d - 1) br) : PsS G kd N d 2 br := by
  intro M Q at' pt sz hI hQ
  refine C_X7_sums (B_X7_sums_0 hd hI.1 ⟨⟨by decide, by decide⟩, fun w => absurd rfl w, fun _ => ?_⟩)
  exact hC M _ at' pt sz hI (fun M2 r hR => ⟨hR.1, hR.z.2, hQ M2 r hR⟩)
theorem PsP_ok (hd : 2 ≤ d) (hK : KD kd N) (hbr : br ≤ 8) (hC : br < 8 → PsS G kd N (d - 1) 0 (br + 1)) : PsP G kd N d br := by
  intro M Q at' pt sz hI hQ
  have hN := hI.2.2.2.2.2.1
  have fail0 : Der kd 2 br at' pt dV0 (at', pt, none) → Q (vI 0) M := fun D => hQ M 0 ⟨hI.1, Fr.rf, fun _ _ _ => rfl, Or.inl ⟨rfl, at', pt, D, hI.2.2.1, hN⟩⟩
  have leaf : ∀ (x3 x4 : Int), kd at' ≠ 91 → lfK (kd at') → (x3 = 0 ∨ x3 = 1) → (x3 = 0 → 306 ≤ kd at' ∧ kd at' ≤ 312) → (x3 = 1 → 1000 ≤ kd at' ∧ kd at' ≤ 2000) → X G Y_X7_part d 0 0 123 [vA 16, vI br, vI (kd at'), vI x3, vI x4] [] M Q := by
    intro x3 x4 n91 hl hx h0 h1
    have aN : at' < N := hK.lt hN (by unfold lfK at hl; omega)
    have hp := hI.2.2.2.2.2.2.1
    refine B_X7_part_123 hd hI.1 ⟨by rw [hI.2.2.2.1]; exact ⟨by omega, by omega⟩, fun w M2 e2 s2 M3 e3 s3 => ⟨⟨by omega, by omega⟩, ?_⟩, fun w => fail0 (Der_S.2.2.2.2.2.2.2.2.2.1 br at' pt n91 (Or.inr (by have := hI.2.2.2.1; omega)))⟩
    have w' : pt < 50 := by rw [hI.2.2.2.1] at w; omega
    have I2 : RI M2 kd N at' (pt + 1) sz := by
      obtain ⟨h1, h2, h3, h4, h5, h6, h7, h8⟩ := hI
      refine ⟨s2, fun i hi => ?_, ?_, ?_, ?_, h6, by omega, h8⟩
      · rw [e2, rd_wr, if_neg (by omega)]; exact h2 i hi
      · rw [e2, rd_wr, if_neg (by omega)]; exact h3
      · rw [e2, rd_wr, if_pos ⟨rfl, rfl⟩, h4]; omega
      · rw [e2, rd_wr, if_neg (by omega)]; exact h5
    obtain ⟨I3, F3, C3⟩ := I2.adv e3 s3 aN
    have F2 : Fr KRd M M2 := by rw [e2]; exact Fr.rf.wr (Or.inr ⟨rfl, Or.inr (Or.inl rfl)⟩)
    have C2 : ∀ k, rd M2 21 k = rd M 21 k := fun k => by rw [e2, rd_wr, if_neg (by omega)]
    have DD : Der kd 2 br at' pt dV0 (at' + 1, pt + 1, some (lfV (kd at'))) := Der_S.2.2.2.2.2.2.2.2.2.2 br at' pt n91 hl w'
    have h8 := hI.2.2.2.2.2.2.2
    have fin : ∀ (o t : Int), 0 ≤ o → o < 2 → 0 ≤ t → t ≤ 1000 → (o = 1 → t < 7) → (fun F : Int → Int => some (if opO o t = 0 then t else F (opO o t))) = lfV (kd at') → C G Y_X7_emit (d - 1) 0 0 [vA 16, vI o, vI t] M3 (rU (fun M5 => Sh M5 ∧ Q (vI 1) M5)) := by
      intro o t o0 o1 t0 t1 ot hv
      refine T_X7_emit (by omega) hK I3 (by omega) o0 (by omega) t0 (by omega) (fun M5 I5 F5 C5 E5 => ⟨I5.1, ?_⟩)
      obtain ⟨q1, q2⟩ := opC_of (f := rd M5 21) (k := sz) E5 o0 (by omega) t0 (by omega)
      have hop : 0 ≤ opO o t ∧ opO o t < 8 := by
        unfold opO
        by_cases y : o = 0
        · rw [if_pos y]; decide
        · have := ot (by omega)
          rw [if_neg y, if_pos (by omega), if_pos ⟨t0, this⟩]; omega
      have fl := Frg_leaf (op := opC (rd M5 21)) (ar := arC (rd M5 21)) (k := sz) (by omega) (by rw [q1]; exact hop) (by rw [q2]; exact fun _ => ⟨t0, t1⟩)
      rw [q1, q2, hv] at fl
      refine hQ M5 1 ⟨I5.1, (F2.tr F3).tr F5, fun k k0 k1 => by rw [C5 k (by omega), C3, C2], Or.inr ⟨rfl, at' + 1, pt + 1, sz + 1, _, DD, I5, by omega, by omega, by omega, by omega, ?_, fun w => by omega⟩⟩
      rw [show pt + 1 - pt = 1 by omega, show ((sz + 1 : Nat) : Int) = (sz : Int) + 1 by omega]
      exact fl
    refine ⟨fun x0 => fin 1 (kd at' - 306) (by decide) (by decide) (by have := h0 x0; omega) (by have := h0 x0; omega) (fun _ => by have := h0 x0; omega) ?_, fun x1 => fin 0 (kd at' - 1000) (by decide) (by decide) (by have := h1 (by omega); omega) (by have := h1 (by omega); omega) (fun w => absurd w (by decide)) ?_⟩
    · have := h0 x0
      have eo : opO 1 (kd at' - 306) = kd at' - 305 := by
        unfold opO
        rw [if_neg (by decide), if_pos rfl, if_pos ⟨by omega, by omega⟩]; omega
      funext F
      rw [eo]
      unfold lfV
      rw [if_neg (by omega), if_neg (by omega)]
    · have := h1 (by omega)
      funext F
      unfold opO lfV
      rw [if_pos rfl, if_pos rfl, if_pos (by omega)]
  refine C_X7_part (B_X7_part_0 hd hI.1 ⟨(hI.b hK).1, (hI.b hK).2, fun v3 e3 => ?_⟩)
  rw [hI.k] at e3
  subst e3
  refine ⟨hK.r hN, fun n91 => ⟨fun q => ?_, fun q v19 e19 => ?_⟩, fun y91 => ⟨⟨by omega, by omega⟩, fun b8 M22 e22 s22 => ?_, fun b8 => ?_⟩⟩
  · refine B_X7_part_91 (by omega) hI.1 ⟨hK.r hN, fun v10 e10 => ⟨by rw [e10]; split <;> exact ⟨by decide, by decide⟩, fun z => ?_, fun z => ?_⟩⟩
    · have nf : ¬ (306 ≤ kd at' ∧ kd at' ≤ 312) := fun y => by rw [if_pos y] at e10; omega
      exact fail0 (Der_S.2.2.2.2.2.2.2.2.2.1 br at' pt n91 (Or.inl (by unfold lfK; omega)))
    · have yf : 306 ≤ kd at' ∧ kd at' ≤ 312 := by
        by_cases y : 306 ≤ kd at' ∧ kd at' ≤ 312
        · exact y
        · rw [if_neg y] at e10; exact absurd e10 z
      exact leaf 0 v10 n91 (Or.inr yf) (Or.inl rfl) (fun _ => yf) (fun w => absurd w (by decide))
  · exact leaf 1 v19 n91 (Or.inl (by omega)) (Or.inr rfl) (fun w => absurd w (by decide)) (fun _ => by omega)
  · have b8' : br < 8 := by omega
    have aN : at' < N := hK.lt hN (by rw [y91]; decide)
    obtain ⟨I22, F22, C22⟩ := hI.adv e22 s22 aN
    have hh := hC b8' M22 (rI (fun r24 M23 => Sh M23 ∧ inR r24 ∧ ((r24 = 0 → Q (vI 0) M23) ∧ (r24 ≠ 0 → 0 ≤ (rd M23 16 2) ∧ (rd M23 16 2) < 401 ∧ inR (rd M23 17 (rd M23 16 2)) ∧ (((rd M23 17 (rd M23 16 2)) = 93 → ∀ M29, M29 = wr M23 16 2 ((rd M23 16 2) + 1) → Sh M29 → Q (vI 1) M29) ∧ ((rd M23 17 (rd M23 16 2)) ≠ 93 → Q (vI 0) M23)))))) (at' + 1) pt sz I22 (fun M23 r hR => ?_)
    · rw [show ((br + 1 : Nat) : Int) = (br : Int) + 1 by omega] at hh
      exact hh
    · have c23 : ∀ k : Int, 0 ≤ k → k < sz → rd M23 21 k = rd M 21 k := fun k k0 k1 => by rw [hR.2.2.1 k k0 k1, C22]
      refine ⟨hR.1, hR.z.1, fun r0 => ?_, fun r1 => ?_⟩
      · subst r0
        obtain ⟨a, p, D1, q1, q2⟩ := hR.fail
        exact hQ M23 0 ⟨hR.1, F22.tr hR.2.1, c23, Or.inl ⟨rfl, a, p, Der_S.2.2.2.2.2.2.1 br at' pt a p b8' y91 D1, q1, q2⟩⟩
      · obtain ⟨a, p, s, w, D1, I1, a1, p1, s1, sa1, f1, -⟩ := hR.good r1
        have hNa := I1.2.2.2.2.2.1
        refine ⟨(I1.b hK).1, (I1.b hK).2, by rw [I1.k]; exact hK.r hNa, fun y M29 e29 s29 => ?_, fun y => ?_⟩
        · rw [I1.k] at y
          obtain ⟨I29, F29, C29⟩ := I1.adv e29 s29 (hK.lt hNa (by rw [y]; decide))
          refine hQ M29 1 ⟨s29, (F22.tr hR.2.1).tr F29, fun k k0 k1 => by rw [C29, c23 k k0 k1], Or.inr ⟨rfl, a + 1, p, s, w, Der_S.2.2.2.2.2.2.2.2.1 br at' pt a p w b8' y91 D1 y, I29, by omega, p1, s1, by omega, f1.cg (opC_cg (fun k _ _ => C29 k)), fun w => by omega⟩⟩
        · rw [I1.k] at y
          exact hQ M23 0 ⟨hR.1, F22.tr hR.2.1, c23, Or.inl ⟨rfl, a, p, Der_S.2.2.2.2.2.2.2.1 br at' pt a p w b8' y91 D1 y, I1.2.2.1, hNa⟩⟩
  · have : br = 8 := by omega
    subst this
    exact fail0 (Der_S.2.2.2.2.2.1 at' pt y91)
theorem PsS_all (hK : KD kd N) : ∀ (b d br : Nat), br + b = 8 → 4 * b + 5 ≤ d → PsS G kd N d 0 br
  | 0, d, br, hb, hd => PsS_lv (by decide) (by omega) hK (PsS_lv (by decide) (by omega) hK (PsS_2 (by omega) (PsP_ok (by omega) hK (by omega) (fun w => by omega))))
  | b + 1, d, br, hb, hd => PsS_lv (by decide) (by omega) hK (PsS_lv (by decide) (by omega) hK (PsS_2 (by omega) (PsP_ok (by omega) hK (by omega) (fun w => PsS_all hK b _ (br + 1) (by omega) (by omega)))))
end PC1
