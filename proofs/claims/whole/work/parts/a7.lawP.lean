/-! ===== pairs of calls: law ===== -/
section LP
variable {G : GG} {d : Nat} {M : MM} {q : Int}
theorem KRa_ok {a j : Int} (h : KRa a j) : (16 ≤ a ∧ a ≤ 21) ∧ ¬ (a = 20 ∧ j = 0) := by unfold KRa KRl KRd KTk at h; omega
theorem P_law (hq : 0 ≤ q ∧ q ≤ 1000) (h : INV q M) (hd : 60 ≤ d) : PR G d 4 1204 Y_X11_law Y_X12_law [] q M := by
  obtain ⟨r, sm, s, tx, L, ri, si, hC, hM⟩ := h
  unfold PR
  have hV := hM.2.2.1.1
  have hV' := hV
  obtain ⟨_, _, _, _, _, _, _, _, _, _, b0, b6, b2, b3, _⟩ := hV'
  have e9 : rd M 1 9 = r 1 := hC.1.2.1.1.1.2.2.2.2.1
  have e3 : rd M 0 3 = s 3 := hC.2.1.2.1
  have hb := hM.2.2.2.2.2.2.2.2
  have h9t := hC.2.2.1
  refine C_X11_law (B_X11_law_0 (by omega) hC.1.1 (fun v1 ev M2 e2 s2 => ?_))
  rw [e3] at ev
  subst ev
  have f2 : Fr (fun a j => a = 0 ∧ j = 3) M M2 := by rw [e2]; exact Fr.rf.wr ⟨rfl, rfl⟩
  have C2 : CI q r sm (upF s 3 0) tx L ri si M2 := by rw [e2]; exact hC.w0 (Or.inl rfl)
  have z9 : rd M2 1 9 = r 1 := by rw [f2.2.2 1 9 (by omega)]; exact e9
  rw [z9]
  refine ⟨⟨by omega, by omega⟩, fun w6 => ?_, fun w6 M18 e18 s18 => ?_⟩
  · refine T_X7_reads (tx := tx) (L := s 3) (by omega) s2 C2.2.1.1 (fun i _ _ => hb.2.1 i) hb.1.2 hb.1.1 C2.2.1.2.2.2.2.2.2 (fun M4 kd N a s4 F4 T4 W4 => ⟨s4, fun M6 e6 s6 => ?_⟩) (fun M4 kd N cs s4 F4 T4 W4 hl12 y4 hcr hmx z0 z4 zl => ⟨s4, fun M6 e6 s6 => ?_⟩)
    · -- a fault
      have hp := plT_ok (tx := tx) hb.1.1 a
      have z5 : rd M6 0 5 = plT tx (s 3) a := by rw [e6, rd_wr, if_pos ⟨rfl, rfl⟩]
      rw [z5]
      refine ⟨⟨by omega, by omega⟩, fun w => by omega, fun _ M17 e17 s17 => ?_⟩
      have P4 : PL r sm M4 := C2.1.frM F4 (fun a j z => by have := KRa_ok z; omega) s4
      have kp := F4.kp (fun a j z => by have := KRa_ok z; omega)
      have E4 : ∀ a j, ¬ (16 ≤ a ∧ a ≤ 21) → rd M4 a j = rd M2 a j := fun a j w => F4.2.2 a j (fun z => w (KRa_ok z).1)
      have C4 : CI q r sm (upF s 3 0) tx L ri si M4 := by
        obtain ⟨a1, ⟨b1, b2, b3, b4, b5, b6, b7⟩, c1, d1, x1, f1⟩ := C2
        exact ⟨P4, ⟨fun j => by rw [E4 14 j (by omega)]; exact b1 j, by rw [E4 _ _ (by omega)]; exact b2, by rw [E4 _ _ (by omega)]; exact b3, by rw [E4 _ _ (by omega)]; exact b4, by rw [E4 _ _ (by omega)]; exact b5, fun i i0 i1 => by rw [E4 _ _ (by omega)]; exact b6 i i0 i1, by rw [F4.2.2 20 0 (fun z => (KRa_ok z).2 ⟨rfl, rfl⟩)]; exact b7⟩, by rw [E4 32 9 (by omega), E4 44 9 (by omega)]; exact c1, d1.eq (E4 _ _ (by omega)) (fun a j w => E4 a j (by omega)), x1.kp kp, f1.kp kp x1 (fun _ _ => rfl)⟩
      have C6 : CI q r sm (upF (upF s 3 0) 5 (plT tx (s 3) a)) tx L ri si M6 := by rw [e6]; exact C4.w0 (Or.inr (Or.inr rfl))
      have fM : Fr (fun a _ => a < 67) M M6 := by rw [e6]; exact ((f2.mono (fun a j z => by omega)).tr (F4.mono (fun a j z => by have := KRa_ok z; omega))).wr (by decide)
      subst e17
      have fR : Fr (fun a _ => a < 67) M (refM M6 (-6)) := (fM.wr (by decide)).wr (by decide)
      have m7 : MI r sm s tx L ri si (refM M6 (-6)) := hM.fc fR (fun a j z => z) s17
      show CM G Y_X12_law d [vA 67] (refM M6 (-6)) _
      refine CM.of m7.1 ?_
      refine lawM_F (by omega) m7 w6 T4 W4 (fun N n fn => ⟨rfl, ?_⟩)
      exact INV.mk' ((C6.ref (c := -6) (by decide)).up (by omega)) n fn (fun a j z => z)
    · -- a law
      have z5 : rd M6 0 5 = -1 := by rw [e6, rd_wr, if_pos ⟨rfl, rfl⟩]
      rw [z5]
      refine ⟨⟨by decide, by decide⟩, fun _ M8 e8 s8 => ?_, fun w => absurd rfl w⟩
      have f6 : Fr (fun a j => (a = 0 ∧ (j = 3 ∨ j = 5)) ∨ KRa a j) M M6 := by
        rw [e6]
        exact (((f2.mono (fun a j z => Or.inl ⟨z.1, Or.inl z.2⟩)).tr (F4.mono (fun a j z => Or.inr z)))).wr (Or.inl ⟨rfl, Or.inr rfl⟩)
      have nM := hC.1.1.1
      have n6 : mN M6 = mN M := f6.1
      have z19 : rd M6 1 9 = r 1 := by rw [f6.2.2 1 9 (fun z => by rcases z with z | z; omega; have := KRa_ok z; omega)]; exact e9
      have e8r : ∀ a j, a ≠ mN M → rd M8 a j = rd M6 a j := fun a j w => by rw [e8, rd_al, if_neg (by rw [n6]; exact w)]
      have n8 : mN M8 = mN M + 1 := by rw [e8, mN_al, n6]
      have o8 : okO M8 (mN M) 4 := ⟨by omega, by omega, by rw [e8, mT_al, if_pos n6.symm]⟩
      have y6 : rd M8 16 4 = cs.length := by rw [e8r 16 4 (by omega), e6, rd_wr, if_neg (by omega)]; exact y4
      have y8 : rd M8 16 8 = rd M4 16 8 := by rw [e8r 16 8 (by omega), e6, rd_wr, if_neg (by omega)]
      rw [n6, z19]
      refine ⟨by omega, T_X5_init s8 o8 (by omega) y6 y8 ⟨by omega, by omega⟩ ⟨z0, z4⟩ (by omega) (fun M10 s10 n10 t10 u10 v10 c1 c2 c3 o10 => ⟨s10, by omega, by omega, ?_, fun M13 e13 s13 M15 e15 s15 M16 e16 s16 => ?_⟩)⟩
      · exact ⟨by omega, by omega, by rw [t10 _ (by omega)]; exact o8.2.2⟩
      · rw [n8] at n10 t10 u10 v10 c1 c2 c3 o10
        have z13 : rd M13 1 9 = r 1 := by rw [e13, rd_wr, if_neg (by omega), o10 1 (by omega) (by omega), e8r 1 9 (by omega)]; exact z19
        rw [z13] at e15
        have z15 : rd M15 1 9 = r 1 + 1 := by rw [e15, rd_wr, if_pos ⟨rfl, rfl⟩]
        rw [z15, show r 1 + 1 - 1 = r 1 by omega]
        -- the cells from M to M15
        have B6 : ∀ a j, a < mN M → rd M10 a j = rd M6 a j := fun a j w => by rw [o10 a (by omega) (by omega), e8r a j (by omega)]
        have B15 : ∀ a j, ¬ (a = 9 ∧ j = r 1) → ¬ (a = 1 ∧ j = 9) → rd M15 a j = rd M10 a j := fun a j w w2 => by rw [e15, rd_wr, if_neg w2, e13, rd_wr, if_neg w]
        have BB : ∀ a j, a < mN M → ¬ (a = 0 ∧ (j = 3 ∨ j = 5)) → ¬ (16 ≤ a ∧ a ≤ 21) → ¬ (a = 9 ∧ j = r 1) → ¬ (a = 1 ∧ j = 9) → rd M15 a j = rd M a j := fun a j w0 w1 w2 w3 w4 => by
          rw [B15 a j w3 w4, B6 a j w0]
          exact f6.2.2 a j (fun z => z.elim w1 (fun y => w2 (KRa_ok y).1))
        have T15 : ∀ b, mT M15 b = mT M10 b := fun b => by rw [e15, mT_wr, e13, mT_wr]
        have N15 : mN M15 = mN M + 4 := by rw [e15, mN_wr, e13, mN_wr]; omega
        have T8 : ∀ b, b < mN M → mT M10 b = mT M b := fun b w => by rw [t10 b (by omega), e8, mT_al, if_neg (by omega), f6.2.1]
        have gr : Gr M M15 := ⟨by omega, fun b b0 b1 => by rw [T15]; exact T8 b b1, fun a j w => BB a j (by omega) (by omega) (by omega) (by omega) (by omega)⟩
        have V : ∀ j, rd M15 (mN M) j = rd M10 (mN M) j := fun j => B15 _ _ (by omega) (by omega)
        have W : ∀ a j, mN M < a → rd M15 a j = rd M10 a j := fun a j w => B15 _ _ (by omega) (by omega)
        have E46 : ∀ a j, (a = 19 ∨ a = 20 ∨ a = 21) → rd M8 a j = rd M4 a j := fun a j w => by rw [e8r a j (by omega), e6, rd_wr, if_neg (by omega)]
        have hcl : CLaw M15 (mN M) (lsm cs) := claw_of (M := M4) (a1 := mN M + 1) (a2 := mN M + 1 + 1) (a3 := mN M + 1 + 2) (sz := rd M4 16 8) (by omega) ⟨by omega, by omega, by rw [T15, t10 _ (by omega)]; exact o8.2.2⟩ hl12 hcr hmx ⟨by omega, by omega, by rw [T15]; exact u10.1⟩ ⟨by omega, by omega, by rw [T15]; exact u10.2.1⟩ ⟨by omega, by omega, by rw [T15]; exact u10.2.2⟩ (by rw [V]; exact v10.1) (by rw [V]; exact v10.2.1) (by rw [V]; exact v10.2.2.1) (by rw [V]; exact v10.2.2.2) (fun j j0 j1 => by rw [W _ _ (by omega), c1 j j0 j1, E46 _ _ (by omega)]) (fun j j0 j1 => by rw [W _ _ (by omega), c2 j j0 j1, E46 _ _ (by omega)]) (fun j j0 j1 => by rw [W _ _ (by omega), c3 j j0 j1, E46 _ _ (by omega)])
        have hp := hC.2.2.2.2.1
        have r91 : ∀ l : Int, l ≠ r 1 → rd M15 9 l = rd M 9 l := fun l w => BB 9 l (by omega) (by omega) (by omega) (by omega) (by omega)
        have r92 : rd M15 9 (r 1) = mN M := by rw [e15, rd_wr, if_neg (by omega), e13, rd_wr, if_pos ⟨rfl, rfl⟩]
        have nz : ∀ a, mN M ≤ a → ¬ inZ M15 a := fun a w z => by
          obtain ⟨k, k1, k2, k3, k4⟩ := (inZ.gr gr).mp z
          rcases hp.2.1 k k1 with y | y
          · exact k2 y
          · have := y.2.1.2.1; omega
        have hlw : LwO M15 (mN M) := ⟨hcl.2.1, by omega, nz _ (by omega), fun i i0 i1 => by
          have hi : i = 1 ∨ i = 2 ∨ i = 3 := by omega
          rcases hi with rfl | rfl | rfl
          · rw [V, v10.2.1]; exact ⟨by omega, by omega, nz _ (by omega)⟩
          · rw [V, v10.2.2.1]; exact ⟨by omega, by omega, nz _ (by omega)⟩
          · rw [V, v10.2.2.2]; exact ⟨by omega, by omega, nz _ (by omega)⟩⟩
        have hi := HPi.gr gr hp
        have hp15 : HP M15 := ⟨fun l l0 l1 => by
          by_cases w : l = r 1
          · rw [w, r92]; exact Or.inr hlw
          · rw [r91 l w]; exact (hp.1 l l0 l1).imp id (fun z => z.gr gr), hi.1, hi.2⟩
        -- the class's side for the new row
        have key : ∀ r', rlR r r' → CI (q + 1) r' (upL sm (r 1) (lsm cs)) (upF (upF s 3 0) 5 (-1)) tx L ri si M15 := by
          intro r' hrl
          have hV2 := RS_law hV w6 hrl
          have u1 : ∀ j : Int, 0 ≤ j → j < 60 → r' j = upF r 1 (r 1 + 1) j := fun j j0 j1 => by
            by_cases w : j = 1
            · rw [w, upF_eq]; exact hrl.2
            · rw [upF_ne w]; exact hrl.1 j j0 j1 w
          have H10 : HR M10 r := hC.1.2.1.1.1.fr (fun a j z => by
            unfold KH at z
            rw [B6 a j (by omega)]
            exact f6.2.2 a j (fun y => y.elim (fun x => by omega) (fun x => by have := KRa_ok x; omega)))
          have H13 : HR M13 r := by rw [e13]; exact HR_9 H10
          have H15 : HR M15 (upF r 1 (r 1 + 1)) := by rw [e15]; exact HR_wr H13 (Or.inr (Or.inr (Or.inr (Or.inr (Or.inr (Or.inr (Or.inr (Or.inr (Or.inl ⟨rfl, rfl, rfl⟩)))))))))
          have H15' : HR M15 r' := HRg_cg H15 u1
          have L15 : CLaws M15 r' (upL sm (r 1) (lsm cs)) := fun l l0 l1 => by
            rw [hrl.2] at l1
            unfold upL
            by_cases w : l = r 1
            · rw [if_pos w, w, r92]; exact hcl
            · rw [if_neg w, r91 l w]
              have hc := hC.1.2.1.1.2.2 l l0 (by omega)
              rcases hp.1 l l0 (by omega) with y | y
              · have := hc.1; omega
              · exact hc.gr gr y
          have hag : Ag r r' sm (upL sm (r 1) (lsm cs)) := ⟨⟨hrl.1 0 (by decide) (by decide) (by decide), hrl.1 2 (by decide) (by decide) (by decide), fun j j0 j1 => hrl.1 j (by omega) (by omega) (by omega), fun _ => by unfold upL; rw [if_neg (by omega)]⟩, fun j j0 j1 => hrl.1 j (by omega) (by omega) (by omega)⟩
          have P15 : PL r' (upL sm (r 1) (lsm cs)) M15 := PL_hs hC.1 hag (fun a j w w2 => BB a j (by omega) (by omega) (by omega) (by omega) (by omega)) s15 ⟨H15', hV2, L15⟩ (Or.inr ⟨BB 39 4 (by omega) (by omega) (by omega) (by omega) (by omega), hrl.1 3 (by decide) (by decide) (by decide), fun j j0 j1 => hrl.1 j (by omega) (by omega) (by omega)⟩)
          obtain ⟨a1, ⟨b1, b2, b3, b4, b5, b6, b7⟩, c1', d1, x1, g1⟩ := hC
          have Q0 : ∀ j, rd M15 0 j = rd M6 0 j := fun j => by rw [B15 0 j (by omega) (by omega), B6 0 j (by omega)]
          refine ⟨P15, ⟨fun j => by rw [BB 14 j (by omega) (by omega) (by omega) (by omega) (by omega)]; exact b1 j, ?_, ?_, ?_, ?_, fun i i0 i1 => ?_, ?_⟩, ?_, d1.eq (BB _ _ (by omega) (by omega) (by omega) (by omega) (by omega)) (fun a j w => BB a j (by omega) (by omega) (by omega) (by omega) (by omega)), hp15, x1 |> fun _ => g1.gr gr hp (fun k hk hs => ?_) (fun k hk => by rw [upF_ne (by omega), upF_ne (by omega)])⟩
          · rw [upF_ne (by decide), upF_eq, Q0, e6, rd_wr, if_neg (by omega), F4.2.2 0 3 (fun z => by have := KRa_ok z; omega), e2, rd_wr, if_pos ⟨rfl, rfl⟩]
          · rw [upF_ne (by decide), upF_ne (by decide), BB 0 4 (by omega) (by omega) (by omega) (by omega) (by omega)]; exact b3
          · rw [upF_eq, Q0]; exact z5
          · rw [upF_ne (by decide), upF_ne (by decide), BB 0 7 (by omega) (by omega) (by omega) (by omega) (by omega)]; exact b5
          · rw [upF_ne (by omega), upF_ne (by omega), BB 15 i (by omega) (by omega) (by omega) (by omega) (by omega)]; exact b6 i i0 i1
          · rw [B15 20 0 (by omega) (by omega), B6 20 0 (by omega), e6, rd_wr, if_neg (by omega)]; exact hcr.1
          · rw [BB 32 9 (by omega) (by omega) (by omega) (by omega) (by omega), BB 44 9 (by omega) (by omega) (by omega) (by omega) (by omega)]; omega
          · have hri := ((hM.2.2.2.2.2.2.1 k hk).2 hs).2.1
            obtain ⟨_, _, _, _, _, _, _, _, _, _, _, x6, _⟩ := hri
            exact x6
        subst e16
        have m16 : MI r sm s tx L ri si (accM M15) := hM.cls s16 (fun a j a0 a1 => by
          show rd (wr M15 0 7 0) a j = rd M a j
          rw [rd_wr, if_neg (by omega)]
          exact BB a j (by omega) (by omega) (by omega) (by omega) (by omega))
        show CM G Y_X12_law d [vA 67] (accM M15) _
        refine CM.of m16.1 ?_
        refine lawM_T (by omega) m16 w6 T4 W4 (fun N r' hrl n fn => ⟨rfl, ?_⟩)
        exact INV.mk' (key r' hrl).acc n fn (fun a j z => z)
  · -- full
    subst e18
    have fR : Fr (fun a _ => a < 67) M (refM M2 (-5)) := ((f2.mono (fun a j z => by omega)).wr (by decide)).wr (by decide)
    have m1 : MI r sm s tx L ri si (refM M2 (-5)) := hM.fc fR (fun a j z => z) s18
    have n1 := m1.thr (v := 0)
    show CM G Y_X12_law d [vA 67] (refM M2 (-5)) _
    refine CM.of s18 ?_
    refine C_X12_law (B_X12_law_0 (by omega) s18 (fun N1 g1 k1 => ?_))
    subst g1
    rw [n1.2.1]
    refine ⟨⟨by omega, by omega⟩, fun w => absurd w6 w, fun _ N8 g8 k8 N9 g9 k9 => ⟨rfl, ?_⟩⟩
    have n8 := n1.w67 (i := 3) (j := 8) (v := 0) (Or.inl ⟨rfl, rfl, by decide, by decide⟩)
    rw [g9, g8]
    exact INV.mk' ((C2.ref (c := -5) (by decide)).up (by omega)) (n8.telR (by decide)) (((Fr.rf.wr (K := KMd) ⟨by decide, by decide⟩).wr ⟨by decide, by decide⟩).tel ⟨by decide, by decide⟩ (fun _ => ⟨by decide, by decide⟩)) (fun a j z => z)
end LP
