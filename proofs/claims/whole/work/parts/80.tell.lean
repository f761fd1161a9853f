/-! ===== the plan tells ===== -/
def tlV (r : Int → Int) (sm : Int → LSm) (c g : Int) : Int := (VV r sm g (canC r sm c) 0 (-1) (r 30) (r 33)).1
def PC (r : Int → Int) (sm : Int → LSm) (M : MM) : Prop :=
  Sh M ∧ CIn M r sm ∧ (rd M 32 11 = 8 ∧ rd M 32 10 = 4) ∧ tIn r sm 8 (cBs r) M 32 ∧ tB0 M 44 ∧ (0 ≤ rd M 44 10 ∧ rd M 44 10 ≤ 4) ∧ (0 ≤ rd M 44 11 ∧ rd M 44 11 ≤ 10)
theorem PL.pc {r : Int → Int} {sm : Int → LSm} {M : MM} (h : PL r sm M) : PC r sm M := ⟨h.1, h.2.1, h.2.2.1, h.2.2.2.1, h.2.2.2.2.1, h.2.2.2.2.2.1, h.2.2.2.2.2.2.1⟩
/-- what touches neither the tables nor the house -/
theorem PC.fr {r : Int → Int} {sm : Int → LSm} {M M' : MM} {K : Int → Int → Prop} (h : PC r sm M) (f : Fr K M M') (hK : ∀ a j, K a j → (a = 31 ∨ (a = 30 ∧ j = 4) ∨ (39 ≤ a ∧ a ≤ 43))) (hS : Sh M') : PC r sm M' := by
  obtain ⟨h1, h2, h3, h4, h5, h6, h7⟩ := h
  have e : ∀ a j : Int, ¬ (a = 31 ∨ (a = 30 ∧ j = 4) ∨ (39 ≤ a ∧ a ≤ 43)) → rd M' a j = rd M a j := fun a j w => f.2.2 _ _ (fun y => w (hK a j y))
  have e1 : ∀ a : Int, (32 ≤ a ∧ a ≤ 38) ∨ 44 ≤ a → rd M' a = rd M a := fun a w => funext fun j => e a j (by omega)
  exact ⟨hS, h2.fr f (fun a j w => by have := hK a j w; omega), ⟨by rw [e _ _ (by omega)]; exact h3.1, by rw [e _ _ (by omega)]; exact h3.2⟩, h4.eq (e1 _ (by decide)) (e1 _ (by decide)) (e _ _ (by omega)), h5.eq (e1 _ (by decide)) (e _ _ (by omega)), by rw [e _ _ (by omega)]; exact h6, by rw [e _ _ (by omega)]; exact h7⟩
/-- the other table begins anew -/
theorem PC.beg {r : Int → Int} {sm : Int → LSm} {M M1 : MM} {c g : Int} {can : CAN} (h : PC r sm M) (hc : 0 ≤ c ∧ c ≤ 4) (hg : 0 ≤ g ∧ g ≤ 10) (h9 : rd M 44 9 < 90000000) (e : M1 = begM M 44 c g) (hS : Sh M1) : PC r sm M1 ∧ tIn r sm g can M1 44 ∧ rd M1 44 10 = c ∧ rd M1 44 11 = g ∧ rd M1 44 9 = rd M 44 9 + 1 ∧ Fr (fun a j => a = 44 ∧ (j = 9 ∨ j = 10 ∨ j = 11)) M M1 := by
  obtain ⟨h1, h2, h3, h4, h5, h6, h7⟩ := h
  have f : Fr (fun a j => a = 44 ∧ (j = 9 ∨ j = 10 ∨ j = 11)) M M1 := by rw [e]; exact ((Fr.rf.wr ⟨rfl, by omega⟩).wr ⟨rfl, by omega⟩).wr ⟨rfl, by omega⟩
  have e10 : rd M1 44 10 = c := by rw [e]; simp [begM, rd_wr]
  have e11 : rd M1 44 11 = g := by rw [e]; simp [begM, rd_wr]
  have e9 : rd M1 44 9 = rd M 44 9 + 1 := by rw [e]; simp [begM, rd_wr]
  have ea : ∀ a j : Int, a ≠ 44 → rd M1 a j = rd M a j := fun a j w => f.2.2 _ _ (fun y => w y.1)
  have e1 : ∀ a : Int, a ≠ 44 → rd M1 a = rd M a := fun a w => funext fun j => ea a j w
  have b0 : tB0 M1 44 := by
    refine ⟨by rw [e9]; have := h5.1; omega, by rw [e9]; omega, fun i i0 i1 => ?_⟩
    have := h5.2.2 i i0 i1
    rw [ea _ _ (by decide), e9]; omega
  have hno : ∀ p l z o : Int, NS p l → RZ z o → ¬ tMk M1 44 p l z o := by
    intro p l z o hn hz w
    have hs := slo_rng hn hz.1 hz.2
    have := h5.2.2 _ hs.1 hs.2
    unfold tMk at w
    rw [ea _ _ (by decide), e9] at w
    omega
  refine ⟨⟨hS, h2.fr f (fun a j w => by omega), ⟨by rw [ea _ _ (by decide)]; exact h3.1, by rw [ea _ _ (by decide)]; exact h3.2⟩, h4.eq (e1 _ (by decide)) (e1 _ (by decide)) (ea _ _ (by decide)), b0, by rw [e10]; exact hc, by rw [e11]; exact hg⟩, ⟨b0, fun p l z o hn hz w => absurd w (hno p l z o hn hz), fun p l z o s a b hn hz _ w => absurd w (hno p l z o hn hz)⟩, e10, e11, e9, f⟩
section TE
variable {G : GG} {d : Nat} {M : MM} {Q : PV → MM → Prop} {r : Int → Int} {sm : Int → LSm}
theorem cx_get {c g z o : Int} (hP : PC r sm M) (hc : 0 ≤ c ∧ c ≤ 4) (hg : 0 ≤ g ∧ g ≤ 10) (h2 : c = 2 → tMk M 32 0 (-1) z o) (h3 : c = 3 → FxI (fixL r sm) M) : ∃ Rch I, tCx G r sm 44 g c (canC r sm c) Rch I ∧ I M ∧ Rch 0 (-1) z o := by
  have hV := hP.2.1.1.2.1
  have hc' : c = 0 ∨ c = 1 ∨ c = 2 ∨ c = 3 ∨ c = 4 := by omega
  rcases hc' with rfl | rfl | rfl | rfl | rfl
  · refine ⟨Top4, TopM, ?_, trivial, trivial⟩
    have e : canC r sm 0 = cF (fun p _ _ _ => nxt r (bkf r) (r 3) p) r := by simp [canC, chC]
    rw [e]; exact cx_0 hV hg
  · refine ⟨Top4, TopM, ?_, trivial, trivial⟩
    have e : canC r sm 1 = cF (mst r sm) r := by simp [canC, chC]
    rw [e]; exact cx_1 hV hg
  · refine ⟨AhR r M, AhI r sm M, ?_, ⟨rfl, rfl, rfl⟩, Or.inl (h2 rfl)⟩
    have e : canC r sm 2 = cF (aheadC r sm) r := by simp [canC, chC]
    rw [e]; exact cx_2 hV hg hP.2.2.2.1
  · refine ⟨Top4, FxI (fixL r sm), ?_, h3 rfl, trivial⟩
    have e : canC r sm 3 = cF (fun p _ _ _ => nxt r (rowf (fixL r sm)) (fixL r sm).length p) r := by simp [canC, chC]
    have hf := (fixL_ok sm hV).2.1
    rw [e]; exact cx_3 hV ⟨hf.1, hf.2.1⟩ hg
  · refine ⟨Top4, TopM, ?_, trivial, trivial⟩
    have e : canC r sm 4 = cBs r := by simp [canC]
    rw [e]; exact cx_all (Or.inr ⟨rfl, rfl⟩) hg
/-- the root of the other table is settled -/
theorem T_other0 {c g z o : Int} {can : CAN} {Rch : Int → Int → Int → Int → Prop} {I : MM → Prop} (hx : tCx G r sm 44 g c can Rch I) (hP : PC r sm M) (h10 : rd M 44 10 = c) (h11 : rd M 44 11 = g) (hI : tIn r sm g can M 44) (hi : I M) (hR : Rch 0 (-1) z o) (hz : RZ z o) (hd : 24 ≤ d)
    (h : ∀ M', PC r sm M' → Fr (KZ 44) M M' → tIn r sm g can M' 44 → tMk M' 44 0 (-1) z o → Q vU M') : C G Y_X9_settle d 0 0 [vA 44, vI 0, vI (-1), vI z, vI o, vI 0] M Q := by
  have e5 : (5 - pop 0).toNat = 5 := by decide +kernel
  have := T_settle hx 5 M Q d 0 (-1) z o NS0 hz e5 (by omega) ⟨hP.1, hP.2.1, ⟨h11, h10, hi⟩, hI⟩ hR (fun _ => Or.inl rfl) (fun M' s' m' => ?_)
  · rw [pop0] at this; exact this
  · obtain ⟨h1, h2, h3, h4, h5, h6, h7⟩ := hP
    have e : ∀ a j : Int, (30 ≤ a ∧ a ≤ 44) → rd M' a j = rd M a j := fun a j w => s'.1.2.2 _ _ (by unfold KZ KTd KX; omega)
    have e1 : ∀ a : Int, (30 ≤ a ∧ a ≤ 44) → rd M' a = rd M a := fun a w => funext fun j => e a j w
    exact h M' ⟨s'.2.1.1, s'.2.1.2.1, ⟨by rw [e _ _ (by decide)]; exact h3.1, by rw [e _ _ (by decide)]; exact h3.2⟩, h4.eq (e1 _ (by decide)) (e1 _ (by decide)) (e _ _ (by decide)), s'.2.1.2.2.2.1, by rw [e _ _ (by decide)]; exact h6, by rw [e _ _ (by decide)]; exact h7⟩ s'.1 s'.2.1.2.2.2 m'
theorem HRp (h : HR M r) : rd M 5 0 = r 30 ∧ rd M 5 1 = r 33 := ⟨(h.2.2.1 0 (by decide) (by decide)).1, (h.2.2.1 1 (by decide) (by decide)).1⟩
theorem RZp (hV : RS r) : RZ (r 30) (r 33) := ⟨hV.p0, hV.p1⟩
theorem T_X6_tells {c g : Int} (hP : PL r sm M) (hc : 0 ≤ c ∧ c ≤ 4) (hg : 0 ≤ g ∧ g ≤ 10) (h3 : c = 3 → rd M 39 8 = 1) (h9 : rd M 44 9 < 90000000) (hd : 26 ≤ d)
    (h : ∀ a M', (a = 41 ∨ a = 42) → PL r sm M' → Fr KPl M M' → rd M' 39 8 = rd M 39 8 → (rd M' 32 9 = rd M 32 9 ∧ rd M' 44 9 ≤ rd M 44 9 + 1) → nrm (rd M' a) 0 14 → vl (rd M' a) 0 14 = tlV r sm c g → Q (vA a) M') : C G Y_X6_tells d 0 0 [vA 39, vI c, vI g] M Q := by
  have hV := hP.2.1.1.2.1
  have hz := RZp hV
  refine C_X6_tells (B_X6_tells_0 (by omega) hP.1 ⟨⟨by omega, by omega⟩, ⟨by omega, by omega⟩, fun q => ?_, fun q => ?_⟩)
  · have h5 := HRp hP.2.1.1.1
    refine B_X6_tells_16 (by omega) hP.1 ?_
    rw [h5.1, h5.2]
    intro v1 e1 v2 e2
    rw [e1, e2]
    -- AHEAD's table is settled where it is asked for
    have k58 : ∀ Ma, PL r sm Ma → Fr (KZ 32) M Ma → (c = 2 → tMk Ma 32 0 (-1) (r 30) (r 33)) → X G Y_X6_tells d 0 0 58 [vA 39, vI c, vI g, vI (r 30), vI (r 33), vU] [] Ma Q := by
      intro Ma hPa fa ma
      have ea : ∀ a j : Int, (a = 30 ∨ a = 31 ∨ a = 32 ∨ (39 ≤ a ∧ a ≤ 94)) → rd Ma a j = rd M a j := fun a j w => fa.2.2 _ _ (by unfold KZ KTd KX; omega)
      have fa' : Fr KPl M Ma := fa.mono (fun a j w => KZ_Pl (Or.inl rfl) w)
      refine B_X6_tells_58 (by omega) hPa.1 ⟨⟨by omega, by omega⟩, ⟨by omega, by omega⟩, fun q2 => ?_, fun q2 => ?_⟩
      · have ha10 := hPa.2.2.2.2.2.1
        have ha11 := hPa.2.2.2.2.2.2.1
        have k137 : ∀ Mb, PL r sm Mb → Fr KPl M Mb → rd Mb 39 4 = 1 → rd Mb 44 10 = c → rd Mb 44 11 = g → rd Mb 39 8 = rd M 39 8 → (rd Mb 32 9 = rd M 32 9 ∧ rd Mb 44 9 ≤ rd M 44 9 + 1) → (c = 2 → tMk Mb 32 0 (-1) (r 30) (r 33)) → X G Y_X6_tells d 0 0 137 [vA 39, vI c, vI g, vI (r 30), vI (r 33), vA 44] [] Mb Q := by
          intro Mb hPb fb b4 b10 b11 b8 b9 mb
          have hIb := (hPb.2.2.2.2.2.2.2.2.2.2.1 b4).1
          rw [b10, b11] at hIb
          obtain ⟨Rch, I, hx, hi, hR⟩ := cx_get (G := G) (g := g) (z := r 30) (o := r 33) hPb.pc hc hg mb (fun w => (hPb.2.2.2.2.2.2.2.2.2.2.2.2 (by rw [b8]; exact h3 w)).1)
          refine B_X6_tells_137 (by omega) hPb.1 ?_
          refine T_other0 hx hPb.pc b10 b11 hIb hi hR hz (by omega) (fun M1 hP1 f1 hI1 m1 => ?_)
          show Sh M1 ∧ _
          have e1 : ∀ a j : Int, (30 ≤ a ∧ a ≤ 44) → rd M1 a j = rd Mb a j := fun a j w => f1.2.2 _ _ (by unfold KZ KTd KX; omega)
          have hP1' : PL r sm M1 := by
            obtain ⟨_, _, _, _, _, _, _, h8, h9', h10, h11, h12, h13⟩ := hPb
            refine ⟨hP1.1, hP1.2.1, hP1.2.2.1, hP1.2.2.2.1, hP1.2.2.2.2.1, hP1.2.2.2.2.2.1, hP1.2.2.2.2.2.2, by rw [e1 _ _ (by decide)]; exact h8, by rw [e1 _ _ (by decide)]; exact h9', by rw [e1 _ _ (by decide)]; exact h10, fun w => ?_, fun w => ?_, fun w => ?_⟩
            · rw [e1 44 11 (by decide), e1 44 10 (by decide), e1 39 8 (by decide)]
              exact ⟨by rw [b10, b11]; exact hI1, (h11 b4).2⟩
            · rw [e1 _ _ (by decide)] at w
              exact (h12 w).eq (e1 _ _ (by decide)) (fun j => e1 _ _ (by decide))
            · rw [e1 _ _ (by decide)] at w
              exact (h13 w).eq (e1 _ _ (by decide)) (fun j => e1 _ _ (by decide)) (funext fun j => e1 _ _ (by decide))
          refine ⟨hP1.1, sO_44 hP1.1, ?_⟩
          refine T_copyRoot (Or.inr rfl) hP1.1 hP1.2.1.2.1 (Or.inl rfl) hI1 hz m1 (by omega) (fun M3 c3 hS3 n3 v3 => ?_)
          show Sh M3 ∧ _
          have e3 : ∀ a j : Int, a ≠ 42 → rd M3 a j = rd M1 a j := fun a j w => c3.2.2 _ _ (fun y => w y.1)
          refine ⟨hS3, h 42 M3 (Or.inr rfl) (hP1'.ch c3 (Or.inl rfl)) ((fb.tr (f1.mono (fun a j w => KZ_Pl (Or.inr rfl) w))).tr (Fr.ch c3 (fun j _ _ => by unfold KPl; omega))) ?_ ⟨?_, ?_⟩ n3 v3⟩
          · rw [e3 _ _ (by decide), e1 _ _ (by decide)]; exact b8
          · rw [e3 _ _ (by decide), e1 _ _ (by decide)]; exact b9.1
          · rw [e3 _ _ (by decide), e1 _ _ (by decide)]; exact b9.2
        have hf4 := hPa.2.2.2.2.2.2.2.1
        refine B_X6_tells_79 (by omega) hPa.1 ⟨⟨by omega, by omega⟩, ⟨by omega, by omega⟩, ⟨by omega, by omega⟩, ⟨by omega, by omega⟩, ⟨by omega, by omega⟩, fun w M18 e18 hS18 M19 e19 hS19 => ?_, fun w => ?_⟩
        · obtain ⟨c1, c2, c3, c4, c5, c6⟩ := hPa.pc.beg (can := canC r sm c) hc hg (by rw [ea _ _ (by decide)]; exact h9) e18 hS18
          have e19' : ∀ a j : Int, ¬ (a = 39 ∧ j = 4) → rd M19 a j = rd M18 a j := fun a j y => by rw [e19, rd_wr, if_neg y]
          have b4 : rd M19 39 4 = 1 := by rw [e19, rd_wr, if_pos ⟨rfl, rfl⟩]
          have e18' : ∀ a j : Int, a ≠ 44 → rd M18 a j = rd Ma a j := fun a j y => c6.2.2 _ _ (fun y2 => y y2.1)
          have f19 : Fr KPl M M19 := by
            rw [e19]
            exact (fa'.tr (c6.mono (fun a j y => by unfold KPl; omega))).wr (by unfold KPl; omega)
          have x1 : ∀ a : Int, a ≠ 39 → rd M19 a = rd M18 a := fun a y => funext fun j => e19' a j (fun y2 => y y2.1)
          have hP19 : PL r sm M19 := by
            obtain ⟨_, _, _, _, _, _, _, h8, h9', h10, h11, h12, h13⟩ := hPa
            have pc := c1.fr (M' := M19) (K := fun a j => a = 39) (by rw [e19]; exact Fr.rf.wr rfl) (fun a j y => by omega) hS19
            refine ⟨pc.1, pc.2.1, pc.2.2.1, pc.2.2.2.1, pc.2.2.2.2.1, pc.2.2.2.2.2.1, pc.2.2.2.2.2.2, Or.inr b4, by rw [e19' _ _ (by decide), e18' _ _ (by decide)]; exact h9', by rw [e19' _ _ (by decide), e18' _ _ (by decide)]; exact h10, fun _ => ⟨?_, fun y => ?_⟩, fun y => ?_, fun y => ?_⟩
            · rw [e19' 44 11 (by decide), e19' 44 10 (by decide), c3, c4]
              exact c2.eq (x1 _ (by decide)) (x1 _ (by decide)) (e19' _ _ (by decide))
            · rw [e19' _ _ (by decide), c3] at y
              rw [e19' _ _ (by decide), e18' _ _ (by decide), ea _ _ (by decide)]; exact h3 y
            · rw [e19' _ _ (by decide), e18' _ _ (by decide)] at y
              exact (h12 y).eq (by rw [e19' _ _ (by decide), e18' _ _ (by decide)]) (fun j => by rw [e19' _ _ (by omega), e18' _ _ (by decide)])
            · rw [e19' _ _ (by decide), e18' _ _ (by decide)] at y
              exact (h13 y).eq (by rw [e19' _ _ (by decide), e18' _ _ (by decide)]) (fun j => by rw [e19' _ _ (by omega), e18' _ _ (by decide)]) (funext fun j => by rw [e19' _ _ (by omega), e18' _ _ (by decide)])
          refine k137 M19 hP19 f19 b4 (by rw [e19' _ _ (by decide)]; exact c3) (by rw [e19' _ _ (by decide)]; exact c4) (by rw [e19' _ _ (by decide), e18' _ _ (by decide), ea _ _ (by decide)]) ⟨by rw [e19' _ _ (by decide), e18' _ _ (by decide), ea _ _ (by decide)], ?_⟩ (fun y => ?_)
          · rw [e19' _ _ (by decide), c5, ea _ _ (by decide)]; omega
          · have := ma y
            unfold tMk at this ⊢
            rw [e19' _ _ (by omega), e19' _ _ (by decide), e18' _ _ (by decide), e18' _ _ (by decide)]; exact this
        · refine k137 Ma hPa fa' (by omega) (by omega) (by omega) (ea _ _ (by decide)) ⟨ea _ _ (by decide), by rw [ea _ _ (by decide)]; omega⟩ ma
      · have c2 : c = 2 := by omega
        have g8 : g = 8 := by omega
        refine T_copyRoot (Or.inl rfl) hPa.1 hPa.2.1.2.1 (Or.inl rfl) hPa.2.2.2.1 hz (ma c2) (by omega) (fun M3 c3 hS3 n3 v3 => ?_)
        show Sh M3 ∧ _
        have e3 : ∀ a j : Int, a ≠ 42 → rd M3 a j = rd Ma a j := fun a j w => c3.2.2 _ _ (fun y => w y.1)
        refine ⟨hS3, h 42 M3 (Or.inr rfl) (hPa.ch c3 (Or.inl rfl)) (fa'.tr (Fr.ch c3 (fun j _ _ => by unfold KPl; omega))) ?_ ⟨?_, ?_⟩ n3 ?_⟩
        · rw [e3 _ _ (by decide), ea _ _ (by decide)]
        · rw [e3 _ _ (by decide), ea _ _ (by decide)]
        · rw [e3 _ _ (by decide), ea _ _ (by decide)]; omega
        · rw [v3, c2, g8]
          unfold tlV
          have e : canC r sm 2 = cF (aheadC r sm) r := by simp [canC, chC]
          rw [e, ahd_eq hV 5 0 (-1) (r 30) (r 33) (by decide) (by decide) (by decide +kernel)]
    refine ⟨⟨by omega, by omega⟩, fun q2 => k58 M hP Fr.rf (fun w => absurd w q2), fun q2 => ?_⟩
    refine T_ahead0 hP hz (by omega) (fun M4 hP4 f4 m4 _ => ?_)
    show Sh M4 ∧ _
    exact ⟨hP4.1, k58 M4 hP4 f4 (fun _ => m4)⟩
  · have c3 : c = 3 := by omega
    have g8 : g = 8 := by omega
    have hk := hP.2.2.2.2.2.2.2.2.2.2.2.2 (h3 c3)
    refine h 41 M (Or.inl rfl) hP Fr.rf rfl ⟨rfl, by omega⟩ hk.2.1 ?_
    rw [hk.2.2, c3, g8]
    unfold tlV
    have e : canC r sm 3 = cF (fun p _ _ _ => nxt r (rowf (fixL r sm)) (fixL r sm).length p) r := by simp [canC, chC]
    rw [e]; rfl
end TE
