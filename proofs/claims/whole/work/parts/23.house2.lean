set_option maxRecDepth 100000 in
theorem B_X4_open_0 {G : GG} {d : Nat} {k n : Nat} {x1 : Int} {r : Int → Int} {M : MM} {Q : PV → MM → Prop} (hd : 3 ≤ d) (hS : Sh M) (h : HR M r ∧ RS r ∧ ((¬ (endW r x1 = true) → ∀ v3, v3 = (rd M 8 2) - (mnO r x1) → X G Y_X4_open d k n 28 [vA 1, vI x1, vI v3, vI 0, vI 0, vU] [] M Q) ∧ (endW r x1 = true → Q (vI 0) M))) : X G Y_X4_open d k n 0 [vA 1, vI x1, vU, vU, vU, vU] [] M Q := by
  have hd1 : 1 ≤ d := by omega
  refine x_aload_n (dA D_X4_open 0 rfl) rfl ?_
  refine x_iload_n (dA D_X4_open 1 rfl) rfl ?_
  obtain ⟨h1, h⟩ := h
  obtain ⟨h2, h⟩ := h
  refine x_callV 3 [vI x1] [] (dA D_X4_open 2 rfl) cw_RX4_85 rfl rfl (Nat.le_of_ble_eq_true rfl) (by decide) rfl hd1 (zk k) (zk n) (sO_1 hS) (S_X4_endWithin hS h1 h2 (by omega) ?_) (kI (fun _ _ h => h))
  show X G Y_X4_open d k n 5 [vA 1, vI x1, vU, vU, vU, vU] [vI (if endW r x1 = true then 1 else 0)] M Q
  refine x_if_eqB (tgt := 10) (dA D_X4_open 3 rfl) (by decide) ⟨fun c => ?_, fun c => ?_⟩
  · have h := h.1 c
    refine x_aload_n (dA D_X4_open 6 rfl) rfl ?_
    refine x_get (v := vA 8) (dA D_X4_open 7 rfl) fw_RX4_34 (sO_1 hS) (congrArg (rfV G) (sR_1_7 hS)) ?_
    refine x_iconst (dA D_X4_open 8 rfl) ?_
    refine x_iald (dA D_X4_open 9 rfl) (sA_8 hS (by decide) (by decide)) ?_
    refine x_aload_n (dA D_X4_open 10 rfl) rfl ?_
    refine x_iload_n (dA D_X4_open 11 rfl) rfl ?_
    refine x_callV 3 [vI x1] [vI (rd M 8 2)] (dA D_X4_open 12 rfl) cw_RX4_88 rfl rfl (Nat.le_of_ble_eq_true rfl) (by decide) rfl hd1 (zk k) (zk n) (sO_1 hS) (S_X4_minutesOf hS h1 h2 (by omega) ?_) (kI (fun _ _ h => h))
    show X G Y_X4_open d k n 21 [vA 1, vI x1, vU, vU, vU, vU] [vI (mnO r x1), vI (rd M 8 2)] M Q
    refine x_isub (dA D_X4_open 13 rfl) ?_
    refine x_nmI (fun v3 ev3 => ?_)
    have h := h v3 ev3
    refine x_istore_n (xs' := [vA 1, vI x1, vI v3, vU, vU, vU]) (dA D_X4_open 14 rfl) (by decide) rfl ?_
    refine x_iconst (dA D_X4_open 15 rfl) ?_
    refine x_istore_n (xs' := [vA 1, vI x1, vI v3, vI 0, vU, vU]) (dA D_X4_open 16 rfl) (by decide) rfl ?_
    refine x_iconst (dA D_X4_open 17 rfl) ?_
    refine x_istore (xs' := [vA 1, vI x1, vI v3, vI 0, vI 0, vU]) (dA D_X4_open 18 rfl) (by decide) rfl ?_
    exact h
  · have h := h.2 c
    refine x_iconst (dA D_X4_open 4 rfl) ?_
    exact x_ireturn (dA D_X4_open 5 rfl) rfl h
theorem C_X4_open {G : GG} {d : Nat} {x1 : Int} {M : MM} {Q : PV → MM → Prop} (h : X G Y_X4_open d 0 0 0 [vA 1, vI x1, vU, vU, vU, vU] [] M Q) : C G Y_X4_open d 0 0 [vA 1, vI x1] M Q := X.entry (by decide) (Nat.le_of_ble_eq_true rfl) rfl rfl rfl h
set_option maxRecDepth 100000 in
theorem B_X4_open_28 {G : GG} {d : Nat} {k n : Nat} {x1 x2 x3 x4 : Int} {M : MM} {Q : PV → MM → Prop} (hd : 1 ≤ d) (hS : Sh M) (h : inR x4 ∧ inR (rd M 1 0) ∧ (((rd M 1 0) ≤ x4 → Q (vI x3) M) ∧ (x4 < (rd M 1 0) → (((iAnd (iShr x1 x4) 1) ≠ 0 → X G Y_X4_open d k n 64 [vA 1, vI x1, vI x2, vI x3, vI x4, vU] [] M Q) ∧ ((iAnd (iShr x1 x4) 1) = 0 → 0 ≤ x4 ∧ x4 < 5 ∧ (((iAnd (rd M 3 x4) (iXor x1 (-1))) ≠ 0 → X G Y_X4_open d k n 64 [vA 1, vI x1, vI x2, vI x3, vI x4, vU] [] M Q) ∧ ((iAnd (rd M 3 x4) (iXor x1 (-1))) = 0 → inR (rd M 2 x4) ∧ inR x2 ∧ ((x2 < (rd M 2 x4) → X G Y_X4_open d k n 28 [vA 1, vI x1, vI x2, vI x3, vI (x4 + 1), vU] [] M Q) ∧ ((rd M 2 x4) ≤ x2 → ∀ v7, v7 = iOr x3 (iShl 1 x4) → X G Y_X4_open d k n 28 [vA 1, vI x1, vI x2, vI v7, vI (x4 + 1), vU] [] M Q))))))))) : X G Y_X4_open d k n 28 [vA 1, vI x1, vI x2, vI x3, vI x4, vU] [] M Q := by
  have hd1 : 1 ≤ d := by omega
  refine x_iload (dA D_X4_open 19 rfl) rfl ?_
  refine x_aload_n (dA D_X4_open 20 rfl) rfl ?_
  refine x_get (v := vI (rd M 1 0)) (dA D_X4_open 21 rfl) fw_RX4_9 (sO_1 hS) rfl ?_
  obtain ⟨h1, h⟩ := h
  obtain ⟨h2, h⟩ := h
  refine x_icmp_geP (tgt := 96) (dA D_X4_open 22 rfl) (by decide) h1 h2 ⟨fun c => ?_, fun c => ?_⟩
  · have h := h.1 c
    refine x_iload_n (dA D_X4_open 58 rfl) rfl ?_
    exact x_ireturn (dA D_X4_open 59 rfl) rfl h
  · have h := h.2 c
    refine x_iload_n (dA D_X4_open 23 rfl) rfl ?_
    refine x_iload (dA D_X4_open 24 rfl) rfl ?_
    refine x_ishr (dA D_X4_open 25 rfl) ?_
    refine x_iconst (dA D_X4_open 26 rfl) ?_
    refine x_iand (dA D_X4_open 27 rfl) ?_
    refine x_if_neP (tgt := 64) (dA D_X4_open 28 rfl) (by decide) (inR_iAnd _ _) ⟨fun c => ?_, fun c => ?_⟩
    · have h := h.1 c
      exact h
    · have h := h.2 c
      refine x_aload_n (dA D_X4_open 29 rfl) rfl ?_
      refine x_get (v := vA 3) (dA D_X4_open 30 rfl) fw_RX4_19 (sO_1 hS) (congrArg (rfV G) (sR_1_2 hS)) ?_
      refine x_iload (dA D_X4_open 31 rfl) rfl ?_
      obtain ⟨h3, h⟩ := h
      obtain ⟨h4, h⟩ := h
      refine x_iald (dA D_X4_open 32 rfl) (sA_3 hS h3 h4) ?_
      refine x_iload_n (dA D_X4_open 33 rfl) rfl ?_
      refine x_iconst (dA D_X4_open 34 rfl) ?_
      refine x_ixor (dA D_X4_open 35 rfl) ?_
      refine x_iand (dA D_X4_open 36 rfl) ?_
      refine x_if_neP (tgt := 64) (dA D_X4_open 37 rfl) (by decide) (inR_iAnd _ _) ⟨fun c => ?_, fun c => ?_⟩
      · have h := h.1 c
        exact h
      · have h := h.2 c
        refine x_iconst (dA D_X4_open 38 rfl) ?_
        refine x_goto (tgt := 65) (dA D_X4_open 39 rfl) (by decide) ?_
        refine x_istore (xs' := [vA 1, vI x1, vI x2, vI x3, vI x4, vI 1]) (dA D_X4_open 41 rfl) (by decide) rfl ?_
        refine x_iload (dA D_X4_open 42 rfl) rfl ?_
        refine x_if_eqP (tgt := 90) (dA D_X4_open 43 rfl) (by decide) ⟨by decide, by decide⟩ ⟨fun c => ?_, fun c => ?_⟩
        · exact absurd c (by decide)
        · skip
          refine x_aload_n (dA D_X4_open 44 rfl) rfl ?_
          refine x_get (v := vA 2) (dA D_X4_open 45 rfl) fw_RX4_15 (sO_1 hS) (congrArg (rfV G) (sR_1_1 hS)) ?_
          refine x_iload (dA D_X4_open 46 rfl) rfl ?_
          refine x_iald (dA D_X4_open 47 rfl) (sA_2 hS h3 h4) ?_
          refine x_iload_n (dA D_X4_open 48 rfl) rfl ?_
          obtain ⟨h5, h⟩ := h
          obtain ⟨h6, h⟩ := h
          refine x_icmp_gtP (tgt := 90) (dA D_X4_open 49 rfl) (by decide) h5 h6 ⟨fun c => ?_, fun c => ?_⟩
          · have h := h.1 c
            refine x_iinc (xs' := [vA 1, vI x1, vI x2, vI x3, vI (x4 + 1), vI 1]) (dA D_X4_open 56 rfl) rfl (by decide) rfl ?_
            refine x_goto (tgt := 28) (dA D_X4_open 57 rfl) (by decide) ?_
            refine X.weak (xs' := [vA 1, vI x1, vI x2, vI x3, vI (x4 + 1), vU]) ⟨Or.inl rfl, Or.inl rfl, Or.inl rfl, Or.inl rfl, Or.inl rfl, Or.inr rfl, trivial⟩ ?_
            exact h
          · have h := h.2 c
            refine x_iload_n (dA D_X4_open 50 rfl) rfl ?_
            refine x_iconst (dA D_X4_open 51 rfl) ?_
            refine x_iload (dA D_X4_open 52 rfl) rfl ?_
            refine x_ishl (dA D_X4_open 53 rfl) ?_
            refine x_ior (dA D_X4_open 54 rfl) ?_
            refine x_nmI (fun v7 ev7 => ?_)
            have h := h v7 ev7
            refine x_istore_n (xs' := [vA 1, vI x1, vI x2, vI v7, vI x4, vI 1]) (dA D_X4_open 55 rfl) (by decide) rfl ?_
            refine x_iinc (xs' := [vA 1, vI x1, vI x2, vI v7, vI (x4 + 1), vI 1]) (dA D_X4_open 56 rfl) rfl (by decide) rfl ?_
            refine x_goto (tgt := 28) (dA D_X4_open 57 rfl) (by decide) ?_
            refine X.weak (xs' := [vA 1, vI x1, vI x2, vI v7, vI (x4 + 1), vU]) ⟨Or.inl rfl, Or.inl rfl, Or.inl rfl, Or.inl rfl, Or.inl rfl, Or.inr rfl, trivial⟩ ?_
            exact h
set_option maxRecDepth 100000 in
theorem B_X4_open_64 {G : GG} {d : Nat} {k n : Nat} {x1 x2 x3 x4 : Int} {M : MM} {Q : PV → MM → Prop} (hd : 1 ≤ d) (hS : Sh M) (h : X G Y_X4_open d k n 28 [vA 1, vI x1, vI x2, vI x3, vI (x4 + 1), vU] [] M Q) : X G Y_X4_open d k n 64 [vA 1, vI x1, vI x2, vI x3, vI x4, vU] [] M Q := by
  have hd1 : 1 ≤ d := by omega
  refine x_iconst (dA D_X4_open 40 rfl) ?_
  refine x_istore (xs' := [vA 1, vI x1, vI x2, vI x3, vI x4, vI 0]) (dA D_X4_open 41 rfl) (by decide) rfl ?_
  refine x_iload (dA D_X4_open 42 rfl) rfl ?_
  refine x_if_eqP (tgt := 90) (dA D_X4_open 43 rfl) (by decide) ⟨by decide, by decide⟩ ⟨fun c => ?_, fun c => ?_⟩
  · skip
    refine x_iinc (xs' := [vA 1, vI x1, vI x2, vI x3, vI (x4 + 1), vI 0]) (dA D_X4_open 56 rfl) rfl (by decide) rfl ?_
    refine x_goto (tgt := 28) (dA D_X4_open 57 rfl) (by decide) ?_
    refine X.weak (xs' := [vA 1, vI x1, vI x2, vI x3, vI (x4 + 1), vU]) ⟨Or.inl rfl, Or.inl rfl, Or.inl rfl, Or.inl rfl, Or.inl rfl, Or.inr rfl, trivial⟩ ?_
    exact h
  · exact absurd (by decide) c
set_option maxRecDepth 100000 in
theorem B_X4_couldBe_0 {G : GG} {d : Nat} {k n : Nat} {x1 x2 x3 : Int} {M : MM} {Q : PV → MM → Prop} (hd : 2 ≤ d) (hS : Sh M) (h : inR x1 ∧ inR x2 ∧ inR x3 ∧ ((((¬ (((0 : Int) = 0 ∧ 1 ≤ x1 ∧ x1 ≤ 60) ∨ ((0 : Int) = 1 ∧ 0 ≤ x1 ∧ x1 < 32) ∨ ((0 : Int) = 2 ∧ (x1 = 0 ∨ x1 = 1)))) ∨ ((¬ (((1 : Int) = 0 ∧ 1 ≤ x2 ∧ x2 ≤ 60) ∨ ((1 : Int) = 1 ∧ 0 ≤ x2 ∧ x2 < 32) ∨ ((1 : Int) = 2 ∧ (x2 = 0 ∨ x2 = 1)))) ∨ (¬ (((2 : Int) = 0 ∧ 1 ≤ x3 ∧ x3 ≤ 60) ∨ ((2 : Int) = 1 ∧ 0 ≤ x3 ∧ x3 < 32) ∨ ((2 : Int) = 2 ∧ (x3 = 0 ∨ x3 = 1)))))) → Q (vI 0) M) ∧ (¬ ((¬ (((0 : Int) = 0 ∧ 1 ≤ x1 ∧ x1 ≤ 60) ∨ ((0 : Int) = 1 ∧ 0 ≤ x1 ∧ x1 < 32) ∨ ((0 : Int) = 2 ∧ (x1 = 0 ∨ x1 = 1)))) ∨ ((¬ (((1 : Int) = 0 ∧ 1 ≤ x2 ∧ x2 ≤ 60) ∨ ((1 : Int) = 1 ∧ 0 ≤ x2 ∧ x2 < 32) ∨ ((1 : Int) = 2 ∧ (x2 = 0 ∨ x2 = 1)))) ∨ (¬ (((2 : Int) = 0 ∧ 1 ≤ x3 ∧ x3 ≤ 60) ∨ ((2 : Int) = 1 ∧ 0 ≤ x3 ∧ x3 < 32) ∨ ((2 : Int) = 2 ∧ (x3 = 0 ∨ x3 = 1)))))) → inR (rd M 1 0) ∧ Q (vI (if ¬ ((0 ≤ (rd M 1 0)) ∧ (((rd M 1 0) < 5) ∧ ((iAnd (iShr x2 (rd M 1 0)) 1) = 1))) then 1 else 0)) M))) : X G Y_X4_couldBe d k n 0 [vA 1, vI x1, vI x2, vI x3] [] M Q := by
  have hd1 : 1 ≤ d := by omega
  refine x_iconst (dA D_X4_couldBe 0 rfl) ?_
  refine x_iload_n (dA D_X4_couldBe 1 rfl) rfl ?_
  obtain ⟨h1, h⟩ := h
  refine x_callS [vI 0, vI x1] [] (dA D_X4_couldBe 2 rfl) cw_RX4_74 rfl rfl (Nat.le_of_ble_eq_true rfl) hd1 (zk k) (zk n) (S_X4_fitsScene ⟨by decide, by decide⟩ h1 (by omega) ?_) (kI (fun _ _ h => h))
  show X G Y_X4_couldBe d k n 5 [vA 1, vI x1, vI x2, vI x3] [vI (if ((0 : Int) = 0 ∧ 1 ≤ x1 ∧ x1 ≤ 60) ∨ ((0 : Int) = 1 ∧ 0 ≤ x1 ∧ x1 < 32) ∨ ((0 : Int) = 2 ∧ (x1 = 0 ∨ x1 = 1)) then 1 else 0)] M Q
  obtain ⟨h7, h⟩ := h
  obtain ⟨h13, h⟩ := h
  have hA : ((¬ (((0 : Int) = 0 ∧ 1 ≤ x1 ∧ x1 ≤ 60) ∨ ((0 : Int) = 1 ∧ 0 ≤ x1 ∧ x1 < 32) ∨ ((0 : Int) = 2 ∧ (x1 = 0 ∨ x1 = 1)))) ∨ ((¬ (((1 : Int) = 0 ∧ 1 ≤ x2 ∧ x2 ≤ 60) ∨ ((1 : Int) = 1 ∧ 0 ≤ x2 ∧ x2 < 32) ∨ ((1 : Int) = 2 ∧ (x2 = 0 ∨ x2 = 1)))) ∨ (¬ (((2 : Int) = 0 ∧ 1 ≤ x3 ∧ x3 ≤ 60) ∨ ((2 : Int) = 1 ∧ 0 ≤ x3 ∧ x3 < 32) ∨ ((2 : Int) = 2 ∧ (x3 = 0 ∨ x3 = 1)))))) → X G Y_X4_couldBe d k n 40 [vA 1, vI x1, vI x2, vI x3] [vI 0] M Q := by
    intro c25
    have h := h.1 c25
    exact x_zreturn (dA D_X4_couldBe 20 rfl) rfl (by decide) h
  have hB : ¬ ((¬ (((0 : Int) = 0 ∧ 1 ≤ x1 ∧ x1 ≤ 60) ∨ ((0 : Int) = 1 ∧ 0 ≤ x1 ∧ x1 < 32) ∨ ((0 : Int) = 2 ∧ (x1 = 0 ∨ x1 = 1)))) ∨ ((¬ (((1 : Int) = 0 ∧ 1 ≤ x2 ∧ x2 ≤ 60) ∨ ((1 : Int) = 1 ∧ 0 ≤ x2 ∧ x2 < 32) ∨ ((1 : Int) = 2 ∧ (x2 = 0 ∨ x2 = 1)))) ∨ (¬ (((2 : Int) = 0 ∧ 1 ≤ x3 ∧ x3 ≤ 60) ∨ ((2 : Int) = 1 ∧ 0 ≤ x3 ∧ x3 < 32) ∨ ((2 : Int) = 2 ∧ (x3 = 0 ∨ x3 = 1)))))) → X G Y_X4_couldBe d k n 24 [vA 1, vI x1, vI x2, vI x3] [] M Q := by
    intro c25
    have h := h.2 c25
    refine x_iload_n (dA D_X4_couldBe 12 rfl) rfl ?_
    refine x_aload_n (dA D_X4_couldBe 13 rfl) rfl ?_
    refine x_get (v := vI (rd M 1 0)) (dA D_X4_couldBe 14 rfl) fw_RX4_9 (sO_1 hS) rfl ?_
    obtain ⟨h20, h⟩ := h
    refine x_callS [vI x2, vI (rd M 1 0)] [] (dA D_X4_couldBe 15 rfl) cw_RX4_78 rfl rfl (Nat.le_of_ble_eq_true rfl) hd1 (zk k) (zk n) (S_X4_holds h20 (by omega) ?_) (kI (fun _ _ h => h))
    show X G Y_X4_couldBe d k n 32 [vA 1, vI x1, vI x2, vI x3] [vI (if (0 ≤ (rd M 1 0)) ∧ (((rd M 1 0) < 5) ∧ ((iAnd (iShr x2 (rd M 1 0)) 1) = 1)) then 1 else 0)] M Q
    have hJ : X G Y_X4_couldBe d k n 40 [vA 1, vI x1, vI x2, vI x3] [vI (if ¬ ((0 ≤ (rd M 1 0)) ∧ (((rd M 1 0) < 5) ∧ ((iAnd (iShr x2 (rd M 1 0)) 1) = 1))) then 1 else 0)] M Q := by
      exact x_zreturn (dA D_X4_couldBe 20 rfl) rfl (by split <;> decide) h
    refine x_if_neB (tgt := 39) (dA D_X4_couldBe 16 rfl) (by decide) ⟨fun c21 => ?_, fun c21 => ?_⟩
    · refine x_iconst (dA D_X4_couldBe 19 rfl) ?_
      have e0 : (if ¬ ((0 ≤ (rd M 1 0)) ∧ (((rd M 1 0) < 5) ∧ ((iAnd (iShr x2 (rd M 1 0)) 1) = 1))) then (1 : Int) else 0) = 0 := if_neg (by first | omega | grind)
      rw [e0] at hJ
      exact hJ
    · refine x_iconst (dA D_X4_couldBe 17 rfl) ?_
      refine x_goto (tgt := 40) (dA D_X4_couldBe 18 rfl) (by decide) ?_
      have e0 : (if ¬ ((0 ≤ (rd M 1 0)) ∧ (((rd M 1 0) < 5) ∧ ((iAnd (iShr x2 (rd M 1 0)) 1) = 1))) then (1 : Int) else 0) = 1 := if_pos (by first | omega | grind)
      rw [e0] at hJ
      exact hJ
  refine x_if_eqB (tgt := 39) (dA D_X4_couldBe 3 rfl) (by decide) ⟨fun c2 => ?_, fun c2 => ?_⟩
  · refine x_iconst (dA D_X4_couldBe 19 rfl) ?_
    exact hA (by first | omega | grind)
  · refine x_iconst (dA D_X4_couldBe 4 rfl) ?_
    refine x_iload_n (dA D_X4_couldBe 5 rfl) rfl ?_
    refine x_callS [vI 1, vI x2] [] (dA D_X4_couldBe 6 rfl) cw_RX4_74 rfl rfl (Nat.le_of_ble_eq_true rfl) hd1 (zk k) (zk n) (S_X4_fitsScene ⟨by decide, by decide⟩ h7 (by omega) ?_) (kI (fun _ _ h => h))
    show X G Y_X4_couldBe d k n 13 [vA 1, vI x1, vI x2, vI x3] [vI (if ((1 : Int) = 0 ∧ 1 ≤ x2 ∧ x2 ≤ 60) ∨ ((1 : Int) = 1 ∧ 0 ≤ x2 ∧ x2 < 32) ∨ ((1 : Int) = 2 ∧ (x2 = 0 ∨ x2 = 1)) then 1 else 0)] M Q
    refine x_if_eqB (tgt := 39) (dA D_X4_couldBe 7 rfl) (by decide) ⟨fun c8 => ?_, fun c8 => ?_⟩
    · refine x_iconst (dA D_X4_couldBe 19 rfl) ?_
      exact hA (by first | omega | grind)
    · refine x_iconst (dA D_X4_couldBe 8 rfl) ?_
      refine x_iload_n (dA D_X4_couldBe 9 rfl) rfl ?_
      refine x_callS [vI 2, vI x3] [] (dA D_X4_couldBe 10 rfl) cw_RX4_74 rfl rfl (Nat.le_of_ble_eq_true rfl) hd1 (zk k) (zk n) (S_X4_fitsScene ⟨by decide, by decide⟩ h13 (by omega) ?_) (kI (fun _ _ h => h))
      show X G Y_X4_couldBe d k n 21 [vA 1, vI x1, vI x2, vI x3] [vI (if ((2 : Int) = 0 ∧ 1 ≤ x3 ∧ x3 ≤ 60) ∨ ((2 : Int) = 1 ∧ 0 ≤ x3 ∧ x3 < 32) ∨ ((2 : Int) = 2 ∧ (x3 = 0 ∨ x3 = 1)) then 1 else 0)] M Q
      refine x_if_eqB (tgt := 39) (dA D_X4_couldBe 11 rfl) (by decide) ⟨fun c14 => ?_, fun c14 => ?_⟩
      · refine x_iconst (dA D_X4_couldBe 19 rfl) ?_
        exact hA (by first | omega | grind)
      · exact hB (by first | omega | grind)
theorem C_X4_couldBe {G : GG} {d : Nat} {x1 x2 x3 : Int} {M : MM} {Q : PV → MM → Prop} (h : X G Y_X4_couldBe d 0 0 0 [vA 1, vI x1, vI x2, vI x3] [] M Q) : C G Y_X4_couldBe d 0 0 [vA 1, vI x1, vI x2, vI x3] M Q := X.entry (by decide) (Nat.le_of_ble_eq_true rfl) rfl rfl rfl h
set_option maxRecDepth 100000 in
theorem B_X12_change_0 {G : GG} {d : Nat} {k n : Nat} {x1 x2 : Int} {M : MM} {Q : PV → MM → Prop} (hd : 2 ≤ d) (hS : Sh M) (h : 0 ≤ x1 ∧ x1 < 5460 ∧ ∀ v3, v3 = rd M 69 x1 → ∀ M4, M4 = wr M 69 x1 x2 → Sh M4 → ∀ M5, M5 = wasM M4 → Sh M5 → Q (vI v3) M5) : X G Y_X12_change d k n 0 [vA 67, vI x1, vI x2, vU] [] M Q := by
  have hd1 : 1 ≤ d := by omega
  refine x_aload_n (dA D_X12_change 0 rfl) rfl ?_
  refine x_get (v := vA 69) (dA D_X12_change 1 rfl) fw_RX12_13 (sO_67 hS) (congrArg (rfV G) (sR_67_3 hS)) ?_
  refine x_iload_n (dA D_X12_change 2 rfl) rfl ?_
  obtain ⟨h1, h⟩ := h
  obtain ⟨h2, h⟩ := h
  refine x_iald (dA D_X12_change 3 rfl) (sA_69 hS h1 h2) ?_
  refine x_nmI (fun v3 ev3 => ?_)
  have h := h v3 ev3
  refine x_istore_n (xs' := [vA 67, vI x1, vI x2, vI v3]) (dA D_X12_change 4 rfl) (by decide) rfl ?_
  refine x_aload_n (dA D_X12_change 5 rfl) rfl ?_
  refine x_get (v := vA 69) (dA D_X12_change 6 rfl) fw_RX12_13 (sO_67 hS) (congrArg (rfV G) (sR_67_3 hS)) ?_
  refine x_iload_n (dA D_X12_change 7 rfl) rfl ?_
  refine x_iload_n (dA D_X12_change 8 rfl) rfl ?_
  refine x_iast (dA D_X12_change 9 rfl) (sA_69 hS h1 h2) ?_
  refine x_nmM (fun M4 eM4 => ?_)
  have hM4 : Sh M4 := eM4 ▸ (sW_69 hS)
  have h := h M4 eM4 hM4
  refine x_aload_n (dA D_X12_change 10 rfl) rfl ?_
  refine x_iload_n (dA D_X12_change 11 rfl) rfl ?_
  refine x_callV 11 [vI v3] [] (dA D_X12_change 12 rfl) cw_RX12_121 rfl rfl (Nat.le_of_ble_eq_true rfl) (by decide) rfl hd1 (zk k) (zk n) (sO_67 hM4) (S_X12_was hM4  (by omega) ?_) (kI (fun _ _ h => h))
  refine x_nmM (fun M5 eM5 => ?_)
  have hM5 : Sh M5 := eM5 ▸ (sW_67_1 hM4)
  have h := h M5 eM5 hM5
  show X G Y_X12_change d k n 19 [vA 67, vI x1, vI x2, vI v3] [vI v3] M5 Q
  exact x_ireturn (dA D_X12_change 13 rfl) rfl h
theorem C_X12_change {G : GG} {d : Nat} {x1 x2 : Int} {M : MM} {Q : PV → MM → Prop} (h : X G Y_X12_change d 0 0 0 [vA 67, vI x1, vI x2, vU] [] M Q) : C G Y_X12_change d 0 0 [vA 67, vI x1, vI x2] M Q := X.entry (by decide) (Nat.le_of_ble_eq_true rfl) rfl rfl rfl h
set_option maxRecDepth 100000 in
theorem B_X12_canBe_0 {G : GG} {d : Nat} {k n : Nat} {x1 : Int} {M : MM} {Q : PV → MM → Prop} (hd : 1 ≤ d) (hS : Sh M) (h : X G Y_X12_canBe d k n 4 [vA 67, vI x1, vI 0, vI 0, vU] [] M Q) : X G Y_X12_canBe d k n 0 [vA 67, vI x1, vU, vU, vU] [] M Q := by
  have hd1 : 1 ≤ d := by omega
  refine x_iconst (dA D_X12_canBe 0 rfl) ?_
  refine x_istore_n (xs' := [vA 67, vI x1, vI 0, vU, vU]) (dA D_X12_canBe 1 rfl) (by decide) rfl ?_
  refine x_iconst (dA D_X12_canBe 2 rfl) ?_
  refine x_istore_n (xs' := [vA 67, vI x1, vI 0, vI 0, vU]) (dA D_X12_canBe 3 rfl) (by decide) rfl ?_
  exact h
theorem C_X12_canBe {G : GG} {d : Nat} {x1 : Int} {M : MM} {Q : PV → MM → Prop} (h : X G Y_X12_canBe d 0 0 0 [vA 67, vI x1, vU, vU, vU] [] M Q) : C G Y_X12_canBe d 0 0 [vA 67, vI x1] M Q := X.entry (by decide) (Nat.le_of_ble_eq_true rfl) rfl rfl rfl h
set_option maxRecDepth 100000 in
theorem B_X12_canBe_4 {G : GG} {d : Nat} {k n : Nat} {x1 x2 x3 : Int} {M : MM} {Q : PV → MM → Prop} (hd : 2 ≤ d) (hS : Sh M) (h : inR x3 ∧ inR (rd M 69 0) ∧ (((rd M 69 0) ≤ x3 → Q (vI x2) M) ∧ (x3 < (rd M 69 0) → ((¬ ((iAnd (iShr x1 x3) 1) = 1) → X G Y_X12_canBe d k n 34 [vA 67, vI x1, vI x2, vI x3, vU] [] M Q) ∧ ((iAnd (iShr x1 x3) 1) = 1 → 0 ≤ ((10 + (3 * x3)) + (2 : Int)) ∧ ((10 + (3 * x3)) + (2 : Int)) < 5460 ∧ inR (rd M 69 ((10 + (3 * x3)) + (2 : Int))) ∧ (((rd M 69 ((10 + (3 * x3)) + (2 : Int))) ≠ 1 → X G Y_X12_canBe d k n 34 [vA 67, vI x1, vI x2, vI x3, vU] [] M Q) ∧ ((rd M 69 ((10 + (3 * x3)) + (2 : Int))) = 1 → Q (vI 0) M))))))) : X G Y_X12_canBe d k n 4 [vA 67, vI x1, vI x2, vI x3, vU] [] M Q := by
  have hd1 : 1 ≤ d := by omega
  refine x_iload_n (dA D_X12_canBe 4 rfl) rfl ?_
  refine x_aload_n (dA D_X12_canBe 5 rfl) rfl ?_
  refine x_get (v := vA 69) (dA D_X12_canBe 6 rfl) fw_RX12_13 (sO_67 hS) (congrArg (rfV G) (sR_67_3 hS)) ?_
  refine x_iconst (dA D_X12_canBe 7 rfl) ?_
  refine x_iald (dA D_X12_canBe 8 rfl) (sA_69 hS (by decide) (by decide)) ?_
  obtain ⟨h1, h⟩ := h
  obtain ⟨h2, h⟩ := h
  refine x_icmp_geP (tgt := 105) (dA D_X12_canBe 9 rfl) (by decide) h1 h2 ⟨fun c => ?_, fun c => ?_⟩
  · have h := h.1 c
    refine x_iload_n (dA D_X12_canBe 64 rfl) rfl ?_
    exact x_ireturn (dA D_X12_canBe 65 rfl) rfl h
  · have h := h.2 c
    refine x_iload_n (dA D_X12_canBe 10 rfl) rfl ?_
    refine x_iload_n (dA D_X12_canBe 11 rfl) rfl ?_
    refine x_callS [vI x1, vI x3] [] (dA D_X12_canBe 12 rfl) cw_RX12_138 rfl rfl (Nat.le_of_ble_eq_true rfl) hd1 (zk k) (zk n) (S_X12_is  (by omega) ?_) (kI (fun _ _ h => h))
    show X G Y_X12_canBe d k n 19 [vA 67, vI x1, vI x2, vI x3, vU] [vI (if (iAnd (iShr x1 x3) 1) = 1 then 1 else 0)] M Q
    refine x_if_eqB (tgt := 34) (dA D_X12_canBe 13 rfl) (by decide) ⟨fun c => ?_, fun c => ?_⟩
    · have h := h.1 c
      exact h
    · have h := h.2 c
      refine x_aload_n (dA D_X12_canBe 14 rfl) rfl ?_
      refine x_iload_n (dA D_X12_canBe 15 rfl) rfl ?_
      refine x_iconst (dA D_X12_canBe 16 rfl) ?_
      obtain ⟨h3, h⟩ := h
      obtain ⟨h4, h⟩ := h
      refine x_callV 11 [vI x3, vI 2] [] (dA D_X12_canBe 17 rfl) cw_RX12_350 rfl rfl (Nat.le_of_ble_eq_true rfl) (by decide) rfl hd1 (zk k) (zk n) (sO_67 hS) (S_X12_ofScene hS h3 h4 (by omega) ?_) (kI (fun _ _ h => h))
      show X G Y_X12_canBe d k n 28 [vA 67, vI x1, vI x2, vI x3, vU] [vI (rd M 69 ((10 + (3 * x3)) + (2 : Int)))] M Q
      refine x_iconst (dA D_X12_canBe 18 rfl) ?_
      obtain ⟨h5, h⟩ := h
      refine x_icmp_neP (tgt := 34) (dA D_X12_canBe 19 rfl) (by decide) h5 ⟨by decide, by decide⟩ ⟨fun c => ?_, fun c => ?_⟩
      · have h := h.1 c
        exact h
      · have h := h.2 c
        refine x_iconst (dA D_X12_canBe 20 rfl) ?_
        exact x_ireturn (dA D_X12_canBe 21 rfl) rfl h
set_option maxRecDepth 100000 in
theorem B_X12_canBe_34 {G : GG} {d : Nat} {k n : Nat} {x1 x2 x3 : Int} {M : MM} {Q : PV → MM → Prop} (hd : 3 ≤ d) (hS : Sh M) (h : (((iAnd (iShr x1 x3) 1) = 1 → X G Y_X12_canBe d k n 81 [vA 67, vI x1, vI x2, vI x3, vU] [] M Q) ∧ (¬ ((iAnd (iShr x1 x3) 1) = 1) → 0 ≤ ((10 + (3 * x3)) + (1 : Int)) ∧ ((10 + (3 * x3)) + (1 : Int)) < 5460 ∧ (((iAnd (rd M 69 ((10 + (3 * x3)) + (1 : Int))) (iXor x1 (-1))) ≠ 0 → X G Y_X12_canBe d k n 81 [vA 67, vI x1, vI x2, vI x3, vU] [] M Q) ∧ ((iAnd (rd M 69 ((10 + (3 * x3)) + (1 : Int))) (iXor x1 (-1))) = 0 → RS (rd M 69) ∧ 0 ≤ ((10 + (3 * x3)) + (0 : Int)) ∧ ((10 + (3 * x3)) + (0 : Int)) < 5460 ∧ inR ((mnO (rd M 69) x1) + (rd M 69 ((10 + (3 * x3)) + (0 : Int)))) ∧ inR (rd M 69 42) ∧ (((rd M 69 42) < ((mnO (rd M 69) x1) + (rd M 69 ((10 + (3 * x3)) + (0 : Int)))) → X G Y_X12_canBe d k n 81 [vA 67, vI x1, vI x2, vI x3, vU] [] M Q) ∧ (((mnO (rd M 69) x1) + (rd M 69 ((10 + (3 * x3)) + (0 : Int)))) ≤ (rd M 69 42) → ∀ v8, v8 = iOr x2 (iShl 1 x3) → X G Y_X12_canBe d k n 4 [vA 67, vI x1, vI v8, vI (x3 + 1), vU] [] M Q))))))) : X G Y_X12_canBe d k n 34 [vA 67, vI x1, vI x2, vI x3, vU] [] M Q := by
  have hd1 : 1 ≤ d := by omega
  refine x_iload_n (dA D_X12_canBe 22 rfl) rfl ?_
  refine x_iload_n (dA D_X12_canBe 23 rfl) rfl ?_
  refine x_callS [vI x1, vI x3] [] (dA D_X12_canBe 24 rfl) cw_RX12_138 rfl rfl (Nat.le_of_ble_eq_true rfl) hd1 (zk k) (zk n) (S_X12_is  (by omega) ?_) (kI (fun _ _ h => h))
  show X G Y_X12_canBe d k n 39 [vA 67, vI x1, vI x2, vI x3, vU] [vI (if (iAnd (iShr x1 x3) 1) = 1 then 1 else 0)] M Q
  refine x_if_neB (tgt := 81) (dA D_X12_canBe 25 rfl) (by decide) ⟨fun c => ?_, fun c => ?_⟩
  · have h := h.1 c
    exact h
  · have h := h.2 c
    refine x_aload_n (dA D_X12_canBe 26 rfl) rfl ?_
    refine x_iload_n (dA D_X12_canBe 27 rfl) rfl ?_
    refine x_iconst (dA D_X12_canBe 28 rfl) ?_
    obtain ⟨h1, h⟩ := h
    obtain ⟨h2, h⟩ := h
    refine x_callV 11 [vI x3, vI 1] [] (dA D_X12_canBe 29 rfl) cw_RX12_350 rfl rfl (Nat.le_of_ble_eq_true rfl) (by decide) rfl hd1 (zk k) (zk n) (sO_67 hS) (S_X12_ofScene hS h1 h2 (by omega) ?_) (kI (fun _ _ h => h))
    show X G Y_X12_canBe d k n 48 [vA 67, vI x1, vI x2, vI x3, vU] [vI (rd M 69 ((10 + (3 * x3)) + (1 : Int)))] M Q
    refine x_iload_n (dA D_X12_canBe 30 rfl) rfl ?_
    refine x_iconst (dA D_X12_canBe 31 rfl) ?_
    refine x_ixor (dA D_X12_canBe 32 rfl) ?_
    refine x_iand (dA D_X12_canBe 33 rfl) ?_
    refine x_if_neP (tgt := 81) (dA D_X12_canBe 34 rfl) (by decide) (inR_iAnd _ _) ⟨fun c => ?_, fun c => ?_⟩
    · have h := h.1 c
      exact h
    · have h := h.2 c
      refine x_aload_n (dA D_X12_canBe 35 rfl) rfl ?_
      refine x_iload_n (dA D_X12_canBe 36 rfl) rfl ?_
      obtain ⟨h3, h⟩ := h
      refine x_callV 11 [vI x1] [] (dA D_X12_canBe 37 rfl) cw_RX12_353 rfl rfl (Nat.le_of_ble_eq_true rfl) (by decide) rfl hd1 (zk k) (zk n) (sO_67 hS) (S_X12_minutesOf hS h3 (by omega) ?_) (kI (fun _ _ h => h))
      show X G Y_X12_canBe d k n 60 [vA 67, vI x1, vI x2, vI x3, vU] [vI (mnO (rd M 69) x1)] M Q
      refine x_aload_n (dA D_X12_canBe 38 rfl) rfl ?_
      refine x_iload_n (dA D_X12_canBe 39 rfl) rfl ?_
      refine x_iconst (dA D_X12_canBe 40 rfl) ?_
      obtain ⟨h4, h⟩ := h
      obtain ⟨h5, h⟩ := h
      refine x_callV 11 [vI x3, vI 0] [vI (mnO (rd M 69) x1)] (dA D_X12_canBe 41 rfl) cw_RX12_350 rfl rfl (Nat.le_of_ble_eq_true rfl) (by decide) rfl hd1 (zk k) (zk n) (sO_67 hS) (S_X12_ofScene hS h4 h5 (by omega) ?_) (kI (fun _ _ h => h))
      show X G Y_X12_canBe d k n 66 [vA 67, vI x1, vI x2, vI x3, vU] [vI (rd M 69 ((10 + (3 * x3)) + (0 : Int))), vI (mnO (rd M 69) x1)] M Q
      refine x_iadd (dA D_X12_canBe 42 rfl) ?_
      refine x_aload_n (dA D_X12_canBe 43 rfl) rfl ?_
      refine x_get (v := vA 69) (dA D_X12_canBe 44 rfl) fw_RX12_13 (sO_67 hS) (congrArg (rfV G) (sR_67_3 hS)) ?_
      refine x_bipush (dA D_X12_canBe 45 rfl) (by decide) (by decide) ?_
      refine x_iald (dA D_X12_canBe 46 rfl) (sA_69 hS (by decide) (by decide)) ?_
      obtain ⟨h6, h⟩ := h
      obtain ⟨h7, h⟩ := h
      refine x_icmp_gtP (tgt := 81) (dA D_X12_canBe 47 rfl) (by decide) h6 h7 ⟨fun c => ?_, fun c => ?_⟩
      · have h := h.1 c
        exact h
      · have h := h.2 c
        refine x_iconst (dA D_X12_canBe 48 rfl) ?_
        refine x_goto (tgt := 82) (dA D_X12_canBe 49 rfl) (by decide) ?_
        refine x_istore (xs' := [vA 67, vI x1, vI x2, vI x3, vI 1]) (dA D_X12_canBe 51 rfl) (by decide) rfl ?_
        refine x_iload_n (dA D_X12_canBe 52 rfl) rfl ?_
        refine x_iload (dA D_X12_canBe 53 rfl) rfl ?_
        refine x_if_eqP (tgt := 96) (dA D_X12_canBe 54 rfl) (by decide) ⟨by decide, by decide⟩ ⟨fun c => ?_, fun c => ?_⟩
        · exact absurd c (by decide)
        · skip
          refine x_iconst (dA D_X12_canBe 55 rfl) ?_
          refine x_iload_n (dA D_X12_canBe 56 rfl) rfl ?_
          refine x_ishl (dA D_X12_canBe 57 rfl) ?_
          refine x_goto (tgt := 97) (dA D_X12_canBe 58 rfl) (by decide) ?_
          refine x_ior (dA D_X12_canBe 60 rfl) ?_
          refine x_nmI (fun v8 ev8 => ?_)
          have h := h v8 ev8
          refine x_istore_n (xs' := [vA 67, vI x1, vI v8, vI x3, vI 1]) (dA D_X12_canBe 61 rfl) (by decide) rfl ?_
          refine x_iinc (xs' := [vA 67, vI x1, vI v8, vI (x3 + 1), vI 1]) (dA D_X12_canBe 62 rfl) rfl (by decide) rfl ?_
          refine x_goto (tgt := 4) (dA D_X12_canBe 63 rfl) (by decide) ?_
          refine X.weak (xs' := [vA 67, vI x1, vI v8, vI (x3 + 1), vU]) ⟨Or.inl rfl, Or.inl rfl, Or.inl rfl, Or.inl rfl, Or.inr rfl, trivial⟩ ?_
          exact h
set_option maxRecDepth 100000 in
theorem B_X12_canBe_81 {G : GG} {d : Nat} {k n : Nat} {x1 x2 x3 : Int} {M : MM} {Q : PV → MM → Prop} (hd : 1 ≤ d) (hS : Sh M) (h : ∀ v1, v1 = iOr x2 0 → X G Y_X12_canBe d k n 4 [vA 67, vI x1, vI v1, vI (x3 + 1), vU] [] M Q) : X G Y_X12_canBe d k n 81 [vA 67, vI x1, vI x2, vI x3, vU] [] M Q := by
  have hd1 : 1 ≤ d := by omega
  refine x_iconst (dA D_X12_canBe 50 rfl) ?_
  refine x_istore (xs' := [vA 67, vI x1, vI x2, vI x3, vI 0]) (dA D_X12_canBe 51 rfl) (by decide) rfl ?_
  refine x_iload_n (dA D_X12_canBe 52 rfl) rfl ?_
  refine x_iload (dA D_X12_canBe 53 rfl) rfl ?_
  refine x_if_eqP (tgt := 96) (dA D_X12_canBe 54 rfl) (by decide) ⟨by decide, by decide⟩ ⟨fun c => ?_, fun c => ?_⟩
  · skip
    refine x_iconst (dA D_X12_canBe 59 rfl) ?_
    refine x_ior (dA D_X12_canBe 60 rfl) ?_
    refine x_nmI (fun v1 ev1 => ?_)
    have h := h v1 ev1
    refine x_istore_n (xs' := [vA 67, vI x1, vI v1, vI x3, vI 0]) (dA D_X12_canBe 61 rfl) (by decide) rfl ?_
    refine x_iinc (xs' := [vA 67, vI x1, vI v1, vI (x3 + 1), vI 0]) (dA D_X12_canBe 62 rfl) rfl (by decide) rfl ?_
    refine x_goto (tgt := 4) (dA D_X12_canBe 63 rfl) (by decide) ?_
    refine X.weak (xs' := [vA 67, vI x1, vI v1, vI (x3 + 1), vU]) ⟨Or.inl rfl, Or.inl rfl, Or.inl rfl, Or.inl rfl, Or.inr rfl, trivial⟩ ?_
    exact h
  · exact absurd (by decide) c
set_option maxRecDepth 100000 in
theorem B_X12_reckon_0 {G : GG} {d : Nat} {k n : Nat} {x1 x2 x4 : Int} {M : MM} {Q : PV → MM → Prop} (hd : 1 ≤ d) (hS : Sh M) (h : inR x1 ∧ ((x1 < 20 ∨ 25 < x1) → inL x2 ∧ inL x4 ∧ Q (vL (if x2 ≠ x4 then 0 else 1)) M) ∧ (x1 = 20 → Q (vL (x2 + x4)) M) ∧ (x1 = 21 → Q (vL (x2 - x4)) M) ∧ (x1 = 22 → Q (vL (x2 * x4)) M) ∧ (x1 = 23 → inL x4 ∧ ∀ M13, M13 = wr M 67 29 (if x4 = 0 then 1 else 0) → Sh M13 → inR (rd M13 67 29) ∧ (((rd M13 67 29) = 0 → inL x2 ∧ x4 ≠ 0 ∧ Q (vL (Int.tdiv x2 x4)) M13) ∧ ((rd M13 67 29) ≠ 0 → Q (vL 0) M13))) ∧ (x1 = 24 → inL x2 ∧ inL x4 ∧ Q (vL (if x4 ≤ x2 then 0 else 1)) M) ∧ (x1 = 25 → inL x2 ∧ inL x4 ∧ Q (vL (if x2 ≤ x4 then 0 else 1)) M)) : X G Y_X12_reckon d k n 0 [vA 67, vI x1, vL x2, vU, vL x4, vU] [] M Q := by
  have hd1 : 1 ≤ d := by omega
  refine x_iload_n (dA D_X12_reckon 0 rfl) rfl ?_
  obtain ⟨h1, h⟩ := h
  by_cases hz : x1 < 20 ∨ 25 < x1
  · have h := h.1 hz
    refine x_tblO (tgt := 113) (dA D_X12_reckon 1 rfl) (by decide) h1 hz ?_
    refine x_lload_n (dA D_X12_reckon 48 rfl) rfl ?_
    refine x_lload (dA D_X12_reckon 49 rfl) rfl ?_
    obtain ⟨h3, h⟩ := h
    obtain ⟨h4, h⟩ := h
    have hJ : X G Y_X12_reckon d k n 125 [vA 67, vI x1, vL x2, vU, vL x4, vU] [vL (if x2 ≠ x4 then 0 else 1)] M Q := by
      exact x_lreturn (dA D_X12_reckon 55 rfl) rfl h
    refine x_lcmp_neP (tgt := 124) (dA D_X12_reckon 50 rfl) (dA D_X12_reckon 51 rfl) (by decide) h3 h4 ⟨fun c2 => ?_, fun c2 => ?_⟩
    · refine x_lconst (a := 0) (dA D_X12_reckon 54 rfl) (by decide) ?_
      rw [if_pos c2] at hJ
      exact hJ
    · refine x_lconst (a := 1) (dA D_X12_reckon 52 rfl) (by decide) ?_
      refine x_goto (tgt := 125) (dA D_X12_reckon 53 rfl) (by decide) ?_
      rw [if_neg (by first | omega | grind)] at hJ
      exact hJ
  · have h := h.2
    have hq : x1 = 20 ∨ x1 = 21 ∨ x1 = 22 ∨ x1 = 23 ∨ x1 = 24 ∨ x1 = 25 := by omega
    rcases hq with c | c | c | c | c | c
    · have h := h.1 c
      refine x_tblI (off := 39) (tgt := 40) (dA D_X12_reckon 1 rfl) h1 (by omega) (by omega) (by rw [c]; rfl) (by decide) ?_
      refine x_lload_n (dA D_X12_reckon 2 rfl) rfl ?_
      refine x_lload (dA D_X12_reckon 3 rfl) rfl ?_
      refine x_ladd (dA D_X12_reckon 4 rfl) ?_
      exact x_lreturn (dA D_X12_reckon 5 rfl) rfl h
    · have h := h.2.1 c
      refine x_tblI (off := 44) (tgt := 45) (dA D_X12_reckon 1 rfl) h1 (by omega) (by omega) (by rw [c]; rfl) (by decide) ?_
      refine x_lload_n (dA D_X12_reckon 6 rfl) rfl ?_
      refine x_lload (dA D_X12_reckon 7 rfl) rfl ?_
      refine x_lsub (dA D_X12_reckon 8 rfl) ?_
      exact x_lreturn (dA D_X12_reckon 9 rfl) rfl h
    · have h := h.2.2.1 c
      refine x_tblI (off := 49) (tgt := 50) (dA D_X12_reckon 1 rfl) h1 (by omega) (by omega) (by rw [c]; rfl) (by decide) ?_
      refine x_lload_n (dA D_X12_reckon 10 rfl) rfl ?_
      refine x_lload (dA D_X12_reckon 11 rfl) rfl ?_
      refine x_lmul (dA D_X12_reckon 12 rfl) ?_
      exact x_lreturn (dA D_X12_reckon 13 rfl) rfl h
    · have h := h.2.2.2.1 c
      refine x_tblI (off := 54) (tgt := 55) (dA D_X12_reckon 1 rfl) h1 (by omega) (by omega) (by rw [c]; rfl) (by decide) ?_
      refine x_aload_n (dA D_X12_reckon 14 rfl) rfl ?_
      refine x_lload (dA D_X12_reckon 15 rfl) rfl ?_
      refine x_lconst (a := 0) (dA D_X12_reckon 16 rfl) (by decide) ?_
      obtain ⟨h9, h⟩ := h
      have hJ : X G Y_X12_reckon d k n 68 [vA 67, vI x1, vL x2, vU, vL x4, vU] [vI (if x4 = 0 then 1 else 0), vA 67] M Q := by
        refine x_put (x := if x4 = 0 then 1 else 0) (dA D_X12_reckon 22 rfl) fw_RX12_316 (fun _ _ hc => by cases hc; exact Or.inl rfl) (sO_67 hS) rfl (z_nar (by split <;> decide)) (z_fit (by split <;> decide)) ?_
        refine x_nmM (fun M13 eM13 => ?_)
        have hM13 : Sh M13 := eM13 ▸ (sW_67_29 hS)
        have h := h M13 eM13 hM13
        refine x_aload_n (dA D_X12_reckon 23 rfl) rfl ?_
        refine x_get (v := vI (rd M13 67 29)) (dA D_X12_reckon 24 rfl) fw_RX12_316 (sO_67 hM13) rfl ?_
        obtain ⟨h14, h⟩ := h
        refine x_if_eqP (tgt := 82) (dA D_X12_reckon 25 rfl) (by decide) h14 ⟨fun c => ?_, fun c => ?_⟩
        · have h := h.1 c
          refine x_lload_n (dA D_X12_reckon 28 rfl) rfl ?_
          refine x_lload (dA D_X12_reckon 29 rfl) rfl ?_
          obtain ⟨h15, h⟩ := h
          obtain ⟨h16, h⟩ := h
          refine x_ldiv (dA D_X12_reckon 30 rfl) h15 h9 h16 ?_
          exact x_lreturn (dA D_X12_reckon 31 rfl) rfl h
        · have h := h.2 c
          refine x_lconst (a := 0) (dA D_X12_reckon 26 rfl) (by decide) ?_
          refine x_goto (tgt := 86) (dA D_X12_reckon 27 rfl) (by decide) ?_
          exact x_lreturn (dA D_X12_reckon 31 rfl) rfl h
      refine x_lcmp_neP (tgt := 67) (dA D_X12_reckon 17 rfl) (dA D_X12_reckon 18 rfl) (by decide) h9 ⟨by decide, by decide⟩ ⟨fun c8 => ?_, fun c8 => ?_⟩
      · refine x_iconst (dA D_X12_reckon 21 rfl) ?_
        have e0 : (if x4 = 0 then (1 : Int) else 0) = 0 := if_neg (by first | omega | grind)
        rw [e0] at hJ
        exact hJ
      · refine x_iconst (dA D_X12_reckon 19 rfl) ?_
        refine x_goto (tgt := 68) (dA D_X12_reckon 20 rfl) (by decide) ?_
        have e0 : (if x4 = 0 then (1 : Int) else 0) = 1 := if_pos (by first | omega | grind)
        rw [e0] at hJ
        exact hJ
    · have h := h.2.2.2.2.1 c
      refine x_tblI (off := 86) (tgt := 87) (dA D_X12_reckon 1 rfl) h1 (by omega) (by omega) (by rw [c]; rfl) (by decide) ?_
      refine x_lload_n (dA D_X12_reckon 32 rfl) rfl ?_
      refine x_lload (dA D_X12_reckon 33 rfl) rfl ?_
      obtain ⟨h18, h⟩ := h
      obtain ⟨h19, h⟩ := h
      have hJ : X G Y_X12_reckon d k n 99 [vA 67, vI x1, vL x2, vU, vL x4, vU] [vL (if x4 ≤ x2 then 0 else 1)] M Q := by
        exact x_lreturn (dA D_X12_reckon 39 rfl) rfl h
      refine x_lcmp_geP (tgt := 98) (dA D_X12_reckon 34 rfl) (dA D_X12_reckon 35 rfl) (by decide) h18 h19 ⟨fun c17 => ?_, fun c17 => ?_⟩
      · refine x_lconst (a := 0) (dA D_X12_reckon 38 rfl) (by decide) ?_
        rw [if_pos c17] at hJ
        exact hJ
      · refine x_lconst (a := 1) (dA D_X12_reckon 36 rfl) (by decide) ?_
        refine x_goto (tgt := 99) (dA D_X12_reckon 37 rfl) (by decide) ?_
        rw [if_neg (by first | omega | grind)] at hJ
        exact hJ
    · have h := h.2.2.2.2.2 c
      refine x_tblI (off := 99) (tgt := 100) (dA D_X12_reckon 1 rfl) h1 (by omega) (by omega) (by rw [c]; rfl) (by decide) ?_
      refine x_lload_n (dA D_X12_reckon 40 rfl) rfl ?_
      refine x_lload (dA D_X12_reckon 41 rfl) rfl ?_
      obtain ⟨h24, h⟩ := h
      obtain ⟨h25, h⟩ := h
      have hJ : X G Y_X12_reckon d k n 112 [vA 67, vI x1, vL x2, vU, vL x4, vU] [vL (if x2 ≤ x4 then 0 else 1)] M Q := by
        exact x_lreturn (dA D_X12_reckon 47 rfl) rfl h
      refine x_lcmp_leP (tgt := 111) (dA D_X12_reckon 42 rfl) (dA D_X12_reckon 43 rfl) (by decide) h24 h25 ⟨fun c23 => ?_, fun c23 => ?_⟩
      · refine x_lconst (a := 0) (dA D_X12_reckon 46 rfl) (by decide) ?_
        rw [if_pos c23] at hJ
        exact hJ
      · refine x_lconst (a := 1) (dA D_X12_reckon 44 rfl) (by decide) ?_
        refine x_goto (tgt := 112) (dA D_X12_reckon 45 rfl) (by decide) ?_
        rw [if_neg (by first | omega | grind)] at hJ
        exact hJ
theorem C_X12_reckon {G : GG} {d : Nat} {x1 x2 x4 : Int} {M : MM} {Q : PV → MM → Prop} (h : X G Y_X12_reckon d 0 0 0 [vA 67, vI x1, vL x2, vU, vL x4, vU] [] M Q) : C G Y_X12_reckon d 0 0 [vA 67, vI x1, vL x2, vL x4] M Q := X.entry (by decide) (Nat.le_of_ble_eq_true rfl) rfl rfl rfl h
set_option maxRecDepth 100000 in
theorem B_X11_takeBytes_0 {G : GG} {d : Nat} {k n : Nat} {x1 : Int} {M : MM} {Q : PV → MM → Prop} (hd : 1 ≤ d) (hS : Sh M) (h : X G Y_X11_takeBytes d k n 3 [vA 0, vI x1, vI 24] [] M Q) : X G Y_X11_takeBytes d k n 0 [vA 0, vI x1, vU] [] M Q := by
  have hd1 : 1 ≤ d := by omega
  refine x_bipush (dA D_X11_takeBytes 0 rfl) (by decide) (by decide) ?_
  refine x_istore_n (xs' := [vA 0, vI x1, vI 24]) (dA D_X11_takeBytes 1 rfl) (by decide) rfl ?_
  exact h
theorem C_X11_takeBytes {G : GG} {d : Nat} {x1 : Int} {M : MM} {Q : PV → MM → Prop} (h : X G Y_X11_takeBytes d 0 0 0 [vA 0, vI x1, vU] [] M Q) : C G Y_X11_takeBytes d 0 0 [vA 0, vI x1] M Q := X.entry (by decide) (Nat.le_of_ble_eq_true rfl) rfl rfl rfl h
set_option maxRecDepth 100000 in
theorem B_X11_takeBytes_3 {G : GG} {d : Nat} {k n : Nat} {x1 x2 : Int} {M : MM} {Q : PV → MM → Prop} (hd : 1 ≤ d) (hS : Sh M) (h : inR x2 ∧ ((x2 < 0 → Q vU M) ∧ (0 ≤ x2 → 0 ≤ (rd M 0 3) ∧ (rd M 0 3) < 400 ∧ ∀ M4, M4 = wr M 14 (rd M 0 3) (iAnd (iUshr x1 x2) 255) → Sh M4 → ∀ M5, M5 = wr M4 0 3 ((rd M4 0 3) + 1) → Sh M5 → X G Y_X11_takeBytes d k n 3 [vA 0, vI x1, vI (x2 + (-8))] [] M5 Q))) : X G Y_X11_takeBytes d k n 3 [vA 0, vI x1, vI x2] [] M Q := by
  have hd1 : 1 ≤ d := by omega
  refine x_iload_n (dA D_X11_takeBytes 2 rfl) rfl ?_
  obtain ⟨h1, h⟩ := h
  refine x_if_ltP (tgt := 39) (dA D_X11_takeBytes 3 rfl) (by decide) h1 ⟨fun c => ?_, fun c => ?_⟩
  · have h := h.1 c
    exact x_return (dA D_X11_takeBytes 22 rfl) rfl h
  · have h := h.2 c
    refine x_aload_n (dA D_X11_takeBytes 4 rfl) rfl ?_
    refine x_get (v := vA 14) (dA D_X11_takeBytes 5 rfl) fw_RX11_20 (sO_0 hS) (congrArg (rfV G) (sR_0_2 hS)) ?_
    refine x_aload_n (dA D_X11_takeBytes 6 rfl) rfl ?_
    refine x_get (v := vI (rd M 0 3)) (dA D_X11_takeBytes 7 rfl) fw_RX11_24 (sO_0 hS) rfl ?_
    refine x_iload_n (dA D_X11_takeBytes 8 rfl) rfl ?_
    refine x_iload_n (dA D_X11_takeBytes 9 rfl) rfl ?_
    refine x_iushr (dA D_X11_takeBytes 10 rfl) ?_
    refine x_sipush (dA D_X11_takeBytes 11 rfl) (by decide) (by decide) ?_
    refine x_iand (dA D_X11_takeBytes 12 rfl) ?_
    obtain ⟨h2, h⟩ := h
    obtain ⟨h3, h⟩ := h
    refine x_iast (dA D_X11_takeBytes 13 rfl) (sA_14 hS h2 h3) ?_
    refine x_nmM (fun M4 eM4 => ?_)
    have hM4 : Sh M4 := eM4 ▸ (sW_14 hS)
    have h := h M4 eM4 hM4
    refine x_aload_n (dA D_X11_takeBytes 14 rfl) rfl ?_
    refine x_dup (dA D_X11_takeBytes 15 rfl) rfl ?_
    refine x_get (v := vI (rd M4 0 3)) (dA D_X11_takeBytes 16 rfl) fw_RX11_24 (sO_0 hM4) rfl ?_
    refine x_iconst (dA D_X11_takeBytes 17 rfl) ?_
    refine x_iadd (dA D_X11_takeBytes 18 rfl) ?_
    refine x_put (x := (rd M4 0 3) + 1) (dA D_X11_takeBytes 19 rfl) fw_RX11_24 (fun _ _ hc => by cases hc; exact Or.inl rfl) (sO_0 hM4) rfl rfl rfl ?_
    refine x_nmM (fun M5 eM5 => ?_)
    have hM5 : Sh M5 := eM5 ▸ (sW_0_3 hM4)
    have h := h M5 eM5 hM5
    refine x_iinc (xs' := [vA 0, vI x1, vI (x2 + (-8))]) (dA D_X11_takeBytes 20 rfl) rfl (by decide) rfl ?_
    refine x_goto (tgt := 3) (dA D_X11_takeBytes 21 rfl) (by decide) ?_
    exact h
set_option maxRecDepth 100000 in
theorem B_X12_four_0 {G : GG} {d : Nat} {k n : Nat} {x1 : Int} {M : MM} {Q : PV → MM → Prop} (hd : 1 ≤ d) (hS : Sh M) (h : X G Y_X12_four d k n 3 [vA 67, vI x1, vI 24] [] M Q) : X G Y_X12_four d k n 0 [vA 67, vI x1, vU] [] M Q := by
  have hd1 : 1 ≤ d := by omega
  refine x_bipush (dA D_X12_four 0 rfl) (by decide) (by decide) ?_
  refine x_istore_n (xs' := [vA 67, vI x1, vI 24]) (dA D_X12_four 1 rfl) (by decide) rfl ?_
  exact h
theorem C_X12_four {G : GG} {d : Nat} {x1 : Int} {M : MM} {Q : PV → MM → Prop} (h : X G Y_X12_four d 0 0 0 [vA 67, vI x1, vU] [] M Q) : C G Y_X12_four d 0 0 [vA 67, vI x1] M Q := X.entry (by decide) (Nat.le_of_ble_eq_true rfl) rfl rfl rfl h
set_option maxRecDepth 100000 in
theorem B_X12_four_3 {G : GG} {d : Nat} {k n : Nat} {x1 x2 : Int} {M : MM} {Q : PV → MM → Prop} (hd : 1 ≤ d) (hS : Sh M) (h : inR x2 ∧ ((x2 < 0 → Q vU M) ∧ (0 ≤ x2 → 0 ≤ (rd M 67 8) ∧ (rd M 67 8) < 400 ∧ ∀ M4, M4 = wr M 72 (rd M 67 8) (iAnd (iShr x1 x2) 255) → Sh M4 → ∀ M5, M5 = wr M4 67 8 ((rd M4 67 8) + 1) → Sh M5 → X G Y_X12_four d k n 3 [vA 67, vI x1, vI (x2 + (-8))] [] M5 Q))) : X G Y_X12_four d k n 3 [vA 67, vI x1, vI x2] [] M Q := by
  have hd1 : 1 ≤ d := by omega
  refine x_iload_n (dA D_X12_four 2 rfl) rfl ?_
  obtain ⟨h1, h⟩ := h
  refine x_if_ltP (tgt := 39) (dA D_X12_four 3 rfl) (by decide) h1 ⟨fun c => ?_, fun c => ?_⟩
  · have h := h.1 c
    exact x_return (dA D_X12_four 22 rfl) rfl h
  · have h := h.2 c
    refine x_aload_n (dA D_X12_four 4 rfl) rfl ?_
    refine x_get (v := vA 72) (dA D_X12_four 5 rfl) fw_RX12_23 (sO_67 hS) (congrArg (rfV G) (sR_67_7 hS)) ?_
    refine x_aload_n (dA D_X12_four 6 rfl) rfl ?_
    refine x_get (v := vI (rd M 67 8)) (dA D_X12_four 7 rfl) fw_RX12_168 (sO_67 hS) rfl ?_
    refine x_iload_n (dA D_X12_four 8 rfl) rfl ?_
    refine x_iload_n (dA D_X12_four 9 rfl) rfl ?_
    refine x_ishr (dA D_X12_four 10 rfl) ?_
    refine x_sipush (dA D_X12_four 11 rfl) (by decide) (by decide) ?_
    refine x_iand (dA D_X12_four 12 rfl) ?_
    obtain ⟨h2, h⟩ := h
    obtain ⟨h3, h⟩ := h
    refine x_iast (dA D_X12_four 13 rfl) (sA_72 hS h2 h3) ?_
    refine x_nmM (fun M4 eM4 => ?_)
    have hM4 : Sh M4 := eM4 ▸ (sW_72 hS)
    have h := h M4 eM4 hM4
    refine x_aload_n (dA D_X12_four 14 rfl) rfl ?_
    refine x_dup (dA D_X12_four 15 rfl) rfl ?_
    refine x_get (v := vI (rd M4 67 8)) (dA D_X12_four 16 rfl) fw_RX12_168 (sO_67 hM4) rfl ?_
    refine x_iconst (dA D_X12_four 17 rfl) ?_
    refine x_iadd (dA D_X12_four 18 rfl) ?_
    refine x_put (x := (rd M4 67 8) + 1) (dA D_X12_four 19 rfl) fw_RX12_168 (fun _ _ hc => by cases hc; exact Or.inl rfl) (sO_67 hM4) rfl rfl rfl ?_
    refine x_nmM (fun M5 eM5 => ?_)
    have hM5 : Sh M5 := eM5 ▸ (sW_67_8 hM4)
    have h := h M5 eM5 hM5
    refine x_iinc (xs' := [vA 67, vI x1, vI (x2 + (-8))]) (dA D_X12_four 20 rfl) rfl (by decide) rfl ?_
    refine x_goto (tgt := 3) (dA D_X12_four 21 rfl) (by decide) ?_
    exact h
set_option maxRecDepth 100000 in
theorem B_X11_feed_0 {G : GG} {d : Nat} {k n : Nat} {x1 x2 x3 x4 x5 : Int} {M : MM} {Q : PV → MM → Prop} (hd : 2 ≤ d) (hS : Sh M) (h : inR ((rd M 0 3) + 20) ∧ ((((rd M 0 3) + 20) ≤ 400 → C G Y_X11_takeBytes (d - 1) 0 0 [vA 0, vI x1] M (rU (fun M2 => Sh M2 ∧ C G Y_X11_takeBytes (d - 1) 0 0 [vA 0, vI x2] M2 (rU (fun M3 => Sh M3 ∧ C G Y_X11_takeBytes (d - 1) 0 0 [vA 0, vI x3] M3 (rU (fun M4 => Sh M4 ∧ C G Y_X11_takeBytes (d - 1) 0 0 [vA 0, vI x4] M4 (rU (fun M5 => Sh M5 ∧ C G Y_X11_takeBytes (d - 1) 0 0 [vA 0, vI x5] M5 (rU (fun M6 => Sh M6 ∧ Q (vI (rd M6 0 3)) M6))))))))))) ∧ (400 < ((rd M 0 3) + 20) → Q (vI (-1)) M))) : X G Y_X11_feed d k n 0 [vA 0, vI x1, vI x2, vI x3, vI x4, vI x5] [] M Q := by
  have hd1 : 1 ≤ d := by omega
  refine x_aload_n (dA D_X11_feed 0 rfl) rfl ?_
  refine x_get (v := vI (rd M 0 3)) (dA D_X11_feed 1 rfl) fw_RX11_24 (sO_0 hS) rfl ?_
  refine x_bipush (dA D_X11_feed 2 rfl) (by decide) (by decide) ?_
  refine x_iadd (dA D_X11_feed 3 rfl) ?_
  refine x_sipush (dA D_X11_feed 4 rfl) (by decide) (by decide) ?_
  obtain ⟨h1, h⟩ := h
  refine x_icmp_leP (tgt := 15) (dA D_X11_feed 5 rfl) (by decide) h1 ⟨by decide, by decide⟩ ⟨fun c => ?_, fun c => ?_⟩
  · have h := h.1 c
    refine x_aload_n (dA D_X11_feed 8 rfl) rfl ?_
    refine x_iload_n (dA D_X11_feed 9 rfl) rfl ?_
    refine x_callV 10 [vI x1] [] (dA D_X11_feed 10 rfl) cw_RX11_159 rfl rfl (Nat.le_of_ble_eq_true rfl) (by decide) rfl hd1 (zk k) (zk n) (sO_0 hS) h (kU (fun M2 h => ?_))
    obtain ⟨hM2, h⟩ := h
    refine x_aload_n (dA D_X11_feed 11 rfl) rfl ?_
    refine x_iload_n (dA D_X11_feed 12 rfl) rfl ?_
    refine x_callV 10 [vI x2] [] (dA D_X11_feed 13 rfl) cw_RX11_159 rfl rfl (Nat.le_of_ble_eq_true rfl) (by decide) rfl hd1 (zk k) (zk n) (sO_0 hM2) h (kU (fun M3 h => ?_))
    obtain ⟨hM3, h⟩ := h
    refine x_aload_n (dA D_X11_feed 14 rfl) rfl ?_
    refine x_iload_n (dA D_X11_feed 15 rfl) rfl ?_
    refine x_callV 10 [vI x3] [] (dA D_X11_feed 16 rfl) cw_RX11_159 rfl rfl (Nat.le_of_ble_eq_true rfl) (by decide) rfl hd1 (zk k) (zk n) (sO_0 hM3) h (kU (fun M4 h => ?_))
    obtain ⟨hM4, h⟩ := h
    refine x_aload_n (dA D_X11_feed 17 rfl) rfl ?_
    refine x_iload (dA D_X11_feed 18 rfl) rfl ?_
    refine x_callV 10 [vI x4] [] (dA D_X11_feed 19 rfl) cw_RX11_159 rfl rfl (Nat.le_of_ble_eq_true rfl) (by decide) rfl hd1 (zk k) (zk n) (sO_0 hM4) h (kU (fun M5 h => ?_))
    obtain ⟨hM5, h⟩ := h
    refine x_aload_n (dA D_X11_feed 20 rfl) rfl ?_
    refine x_iload (dA D_X11_feed 21 rfl) rfl ?_
    refine x_callV 10 [vI x5] [] (dA D_X11_feed 22 rfl) cw_RX11_159 rfl rfl (Nat.le_of_ble_eq_true rfl) (by decide) rfl hd1 (zk k) (zk n) (sO_0 hM5) h (kU (fun M6 h => ?_))
    obtain ⟨hM6, h⟩ := h
    refine x_aload_n (dA D_X11_feed 23 rfl) rfl ?_
    refine x_get (v := vI (rd M6 0 3)) (dA D_X11_feed 24 rfl) fw_RX11_24 (sO_0 hM6) rfl ?_
    exact x_ireturn (dA D_X11_feed 25 rfl) rfl h
  · have h := h.2 c
    refine x_iconst (dA D_X11_feed 6 rfl) ?_
    exact x_ireturn (dA D_X11_feed 7 rfl) rfl h
theorem C_X11_feed {G : GG} {d : Nat} {x1 x2 x3 x4 x5 : Int} {M : MM} {Q : PV → MM → Prop} (h : X G Y_X11_feed d 0 0 0 [vA 0, vI x1, vI x2, vI x3, vI x4, vI x5] [] M Q) : C G Y_X11_feed d 0 0 [vA 0, vI x1, vI x2, vI x3, vI x4, vI x5] M Q := X.entry (by decide) (Nat.le_of_ble_eq_true rfl) rfl rfl rfl h
set_option maxRecDepth 100000 in
theorem B_X12_feed_0 {G : GG} {d : Nat} {k n : Nat} {x1 x2 x3 x4 x5 : Int} {M : MM} {Q : PV → MM → Prop} (hd : 2 ≤ d) (hS : Sh M) (h : ∀ M1, M1 = wr M 67 0 0 → Sh M1 → inR ((rd M1 67 8) + 20) ∧ ((((rd M1 67 8) + 20) ≤ 400 → C G Y_X12_four (d - 1) 0 0 [vA 67, vI x1] M1 (rU (fun M3 => Sh M3 ∧ C G Y_X12_four (d - 1) 0 0 [vA 67, vI x2] M3 (rU (fun M4 => Sh M4 ∧ C G Y_X12_four (d - 1) 0 0 [vA 67, vI x3] M4 (rU (fun M5 => Sh M5 ∧ C G Y_X12_four (d - 1) 0 0 [vA 67, vI x4] M5 (rU (fun M6 => Sh M6 ∧ C G Y_X12_four (d - 1) 0 0 [vA 67, vI x5] M6 (rU (fun M7 => Sh M7 ∧ Q (vI (rd M7 67 8)) M7))))))))))) ∧ (400 < ((rd M1 67 8) + 20) → Q (vI (-1)) M1))) : X G Y_X12_feed d k n 0 [vA 67, vI x1, vI x2, vI x3, vI x4, vI x5] [] M Q := by
  have hd1 : 1 ≤ d := by omega
  refine x_aload_n (dA D_X12_feed 0 rfl) rfl ?_
  refine x_iconst (dA D_X12_feed 1 rfl) ?_
  refine x_put (x := 0) (dA D_X12_feed 2 rfl) fw_RX12_115 (fun _ _ hc => by cases hc; exact Or.inl rfl) (sO_67 hS) rfl rfl rfl ?_
  refine x_nmM (fun M1 eM1 => ?_)
  have hM1 : Sh M1 := eM1 ▸ (sW_67_0 hS)
  have h := h M1 eM1 hM1
  refine x_aload_n (dA D_X12_feed 3 rfl) rfl ?_
  refine x_get (v := vI (rd M1 67 8)) (dA D_X12_feed 4 rfl) fw_RX12_168 (sO_67 hM1) rfl ?_
  refine x_bipush (dA D_X12_feed 5 rfl) (by decide) (by decide) ?_
  refine x_iadd (dA D_X12_feed 6 rfl) ?_
  refine x_sipush (dA D_X12_feed 7 rfl) (by decide) (by decide) ?_
  obtain ⟨h2, h⟩ := h
  refine x_icmp_leP (tgt := 20) (dA D_X12_feed 8 rfl) (by decide) h2 ⟨by decide, by decide⟩ ⟨fun c => ?_, fun c => ?_⟩
  · have h := h.1 c
    refine x_aload_n (dA D_X12_feed 11 rfl) rfl ?_
    refine x_iload_n (dA D_X12_feed 12 rfl) rfl ?_
    refine x_callV 11 [vI x1] [] (dA D_X12_feed 13 rfl) cw_RX12_174 rfl rfl (Nat.le_of_ble_eq_true rfl) (by decide) rfl hd1 (zk k) (zk n) (sO_67 hM1) h (kU (fun M3 h => ?_))
    obtain ⟨hM3, h⟩ := h
    refine x_aload_n (dA D_X12_feed 14 rfl) rfl ?_
    refine x_iload_n (dA D_X12_feed 15 rfl) rfl ?_
    refine x_callV 11 [vI x2] [] (dA D_X12_feed 16 rfl) cw_RX12_174 rfl rfl (Nat.le_of_ble_eq_true rfl) (by decide) rfl hd1 (zk k) (zk n) (sO_67 hM3) h (kU (fun M4 h => ?_))
    obtain ⟨hM4, h⟩ := h
    refine x_aload_n (dA D_X12_feed 17 rfl) rfl ?_
    refine x_iload_n (dA D_X12_feed 18 rfl) rfl ?_
    refine x_callV 11 [vI x3] [] (dA D_X12_feed 19 rfl) cw_RX12_174 rfl rfl (Nat.le_of_ble_eq_true rfl) (by decide) rfl hd1 (zk k) (zk n) (sO_67 hM4) h (kU (fun M5 h => ?_))
    obtain ⟨hM5, h⟩ := h
    refine x_aload_n (dA D_X12_feed 20 rfl) rfl ?_
    refine x_iload (dA D_X12_feed 21 rfl) rfl ?_
    refine x_callV 11 [vI x4] [] (dA D_X12_feed 22 rfl) cw_RX12_174 rfl rfl (Nat.le_of_ble_eq_true rfl) (by decide) rfl hd1 (zk k) (zk n) (sO_67 hM5) h (kU (fun M6 h => ?_))
    obtain ⟨hM6, h⟩ := h
    refine x_aload_n (dA D_X12_feed 23 rfl) rfl ?_
    refine x_iload (dA D_X12_feed 24 rfl) rfl ?_
    refine x_callV 11 [vI x5] [] (dA D_X12_feed 25 rfl) cw_RX12_174 rfl rfl (Nat.le_of_ble_eq_true rfl) (by decide) rfl hd1 (zk k) (zk n) (sO_67 hM6) h (kU (fun M7 h => ?_))
    obtain ⟨hM7, h⟩ := h
    refine x_aload_n (dA D_X12_feed 26 rfl) rfl ?_
    refine x_get (v := vI (rd M7 67 8)) (dA D_X12_feed 27 rfl) fw_RX12_168 (sO_67 hM7) rfl ?_
    exact x_ireturn (dA D_X12_feed 28 rfl) rfl h
  · have h := h.2 c
    refine x_iconst (dA D_X12_feed 9 rfl) ?_
    exact x_ireturn (dA D_X12_feed 10 rfl) rfl h
theorem C_X12_feed {G : GG} {d : Nat} {x1 x2 x3 x4 x5 : Int} {M : MM} {Q : PV → MM → Prop} (h : X G Y_X12_feed d 0 0 0 [vA 67, vI x1, vI x2, vI x3, vI x4, vI x5] [] M Q) : C G Y_X12_feed d 0 0 [vA 67, vI x1, vI x2, vI x3, vI x4, vI x5] M Q := X.entry (by decide) (Nat.le_of_ble_eq_true rfl) rfl rfl rfl h
set_option maxRecDepth 100000 in
theorem B_X11_end_0 {G : GG} {d : Nat} {k n : Nat} {x1 : Int} {M : MM} {Q : PV → MM → Prop} (hd : 1 ≤ d) (hS : Sh M) (h : inR x1 ∧ inR (rd M 0 3) ∧ ((((x1 < 0) ∨ ((rd M 0 3) < x1)) → Q (vI (-1)) M) ∧ (¬ ((x1 < 0) ∨ ((rd M 0 3) < x1)) → ∀ M11, M11 = wr M 0 3 x1 → Sh M11 → Q (vI x1) M11))) : X G Y_X11_end d k n 0 [vA 0, vI x1] [] M Q := by
  have hd1 : 1 ≤ d := by omega
  refine x_iload_n (dA D_X11_end 0 rfl) rfl ?_
  obtain ⟨h2, h⟩ := h
  obtain ⟨h7, h⟩ := h
  have hA : ((x1 < 0) ∨ ((rd M 0 3) < x1)) → X G Y_X11_end d k n 12 [vA 0, vI x1] [] M Q := by
    intro c12
    have h := h.1 c12
    refine x_iconst (dA D_X11_end 6 rfl) ?_
    exact x_ireturn (dA D_X11_end 7 rfl) rfl h
  have hB : ¬ ((x1 < 0) ∨ ((rd M 0 3) < x1)) → X G Y_X11_end d k n 14 [vA 0, vI x1] [] M Q := by
    intro c12
    have h := h.2 c12
    refine x_aload_n (dA D_X11_end 8 rfl) rfl ?_
    refine x_iload_n (dA D_X11_end 9 rfl) rfl ?_
    refine x_put (x := x1) (dA D_X11_end 10 rfl) fw_RX11_24 (fun _ _ hc => by cases hc; exact Or.inl rfl) (sO_0 hS) rfl rfl rfl ?_
    refine x_nmM (fun M11 eM11 => ?_)
    have hM11 : Sh M11 := eM11 ▸ (sW_0_3 hS)
    have h := h M11 eM11 hM11
    refine x_iload_n (dA D_X11_end 11 rfl) rfl ?_
    exact x_ireturn (dA D_X11_end 12 rfl) rfl h
  refine x_if_ltP (tgt := 12) (dA D_X11_end 1 rfl) (by decide) h2 ⟨fun c1 => ?_, fun c1 => ?_⟩
  · exact hA (by first | omega | grind)
  · refine x_iload_n (dA D_X11_end 2 rfl) rfl ?_
    refine x_aload_n (dA D_X11_end 3 rfl) rfl ?_
    refine x_get (v := vI (rd M 0 3)) (dA D_X11_end 4 rfl) fw_RX11_24 (sO_0 hS) rfl ?_
    refine x_icmp_leP (tgt := 14) (dA D_X11_end 5 rfl) (by decide) h2 h7 ⟨fun c6 => ?_, fun c6 => ?_⟩
    · exact hB (by first | omega | grind)
    · exact hA (by first | omega | grind)
theorem C_X11_end {G : GG} {d : Nat} {x1 : Int} {M : MM} {Q : PV → MM → Prop} (h : X G Y_X11_end d 0 0 0 [vA 0, vI x1] [] M Q) : C G Y_X11_end d 0 0 [vA 0, vI x1] M Q := X.entry (by decide) (Nat.le_of_ble_eq_true rfl) rfl rfl rfl h
set_option maxRecDepth 100000 in
theorem B_X12_end_0 {G : GG} {d : Nat} {k n : Nat} {x1 : Int} {M : MM} {Q : PV → MM → Prop} (hd : 1 ≤ d) (hS : Sh M) (h : ∀ M1, M1 = wr M 67 0 0 → Sh M1 → inR x1 ∧ inR (rd M1 67 8) ∧ ((((x1 < 0) ∨ ((rd M1 67 8) < x1)) → Q (vI (-1)) M1) ∧ (¬ ((x1 < 0) ∨ ((rd M1 67 8) < x1)) → ∀ M12, M12 = wr M1 67 8 x1 → Sh M12 → Q (vI x1) M12))) : X G Y_X12_end d k n 0 [vA 67, vI x1] [] M Q := by
  have hd1 : 1 ≤ d := by omega
  refine x_aload_n (dA D_X12_end 0 rfl) rfl ?_
  refine x_iconst (dA D_X12_end 1 rfl) ?_
  refine x_put (x := 0) (dA D_X12_end 2 rfl) fw_RX12_115 (fun _ _ hc => by cases hc; exact Or.inl rfl) (sO_67 hS) rfl rfl rfl ?_
  refine x_nmM (fun M1 eM1 => ?_)
  have hM1 : Sh M1 := eM1 ▸ (sW_67_0 hS)
  have h := h M1 eM1 hM1
  refine x_iload_n (dA D_X12_end 3 rfl) rfl ?_
  obtain ⟨h3, h⟩ := h
  obtain ⟨h8, h⟩ := h
  have hA : ((x1 < 0) ∨ ((rd M1 67 8) < x1)) → X G Y_X12_end d k n 17 [vA 67, vI x1] [] M1 Q := by
    intro c13
    have h := h.1 c13
    refine x_iconst (dA D_X12_end 9 rfl) ?_
    exact x_ireturn (dA D_X12_end 10 rfl) rfl h
  have hB : ¬ ((x1 < 0) ∨ ((rd M1 67 8) < x1)) → X G Y_X12_end d k n 19 [vA 67, vI x1] [] M1 Q := by
    intro c13
    have h := h.2 c13
    refine x_aload_n (dA D_X12_end 11 rfl) rfl ?_
    refine x_iload_n (dA D_X12_end 12 rfl) rfl ?_
    refine x_put (x := x1) (dA D_X12_end 13 rfl) fw_RX12_168 (fun _ _ hc => by cases hc; exact Or.inl rfl) (sO_67 hM1) rfl rfl rfl ?_
    refine x_nmM (fun M12 eM12 => ?_)
    have hM12 : Sh M12 := eM12 ▸ (sW_67_8 hM1)
    have h := h M12 eM12 hM12
    refine x_iload_n (dA D_X12_end 14 rfl) rfl ?_
    exact x_ireturn (dA D_X12_end 15 rfl) rfl h
  refine x_if_ltP (tgt := 17) (dA D_X12_end 4 rfl) (by decide) h3 ⟨fun c2 => ?_, fun c2 => ?_⟩
  · exact hA (by first | omega | grind)
  · refine x_iload_n (dA D_X12_end 5 rfl) rfl ?_
    refine x_aload_n (dA D_X12_end 6 rfl) rfl ?_
    refine x_get (v := vI (rd M1 67 8)) (dA D_X12_end 7 rfl) fw_RX12_168 (sO_67 hM1) rfl ?_
    refine x_icmp_leP (tgt := 19) (dA D_X12_end 8 rfl) (by decide) h3 h8 ⟨fun c7 => ?_, fun c7 => ?_⟩
    · exact hB (by first | omega | grind)
    · exact hA (by first | omega | grind)
theorem C_X12_end {G : GG} {d : Nat} {x1 : Int} {M : MM} {Q : PV → MM → Prop} (h : X G Y_X12_end d 0 0 0 [vA 67, vI x1] [] M Q) : C G Y_X12_end d 0 0 [vA 67, vI x1] M Q := X.entry (by decide) (Nat.le_of_ble_eq_true rfl) rfl rfl rfl h
set_option maxRecDepth 100000 in
theorem B_X11_cut_0 {G : GG} {d : Nat} {k n : Nat} {M : MM} {Q : PV → MM → Prop} (hd : 1 ≤ d) (hS : Sh M) (h : Q (vI (rd M 0 4)) M) : X G Y_X11_cut d k n 0 [vA 0] [] M Q := by
  have hd1 : 1 ≤ d := by omega
  refine x_aload_n (dA D_X11_cut 0 rfl) rfl ?_
  refine x_get (v := vI (rd M 0 4)) (dA D_X11_cut 1 rfl) fw_RX11_28 (sO_0 hS) rfl ?_
  exact x_ireturn (dA D_X11_cut 2 rfl) rfl h
theorem C_X11_cut {G : GG} {d : Nat} {M : MM} {Q : PV → MM → Prop} (h : X G Y_X11_cut d 0 0 0 [vA 0] [] M Q) : C G Y_X11_cut d 0 0 [vA 0] M Q := X.entry (by decide) (Nat.le_of_ble_eq_true rfl) rfl rfl rfl h
theorem S_X11_cut {G : GG} {d : Nat} {M : MM} {Q : PV → MM → Prop} (hS : Sh M) (hd : 1 ≤ d) (h : Q (vI (rd M 0 4)) M) : C G Y_X11_cut d 0 0 [vA 0] M Q := C_X11_cut (B_X11_cut_0 hd hS h)
set_option maxRecDepth 100000 in
theorem B_X12_cut_0 {G : GG} {d : Nat} {k n : Nat} {M : MM} {Q : PV → MM → Prop} (hd : 1 ≤ d) (hS : Sh M) (h : ∀ M1, M1 = wr M 67 0 0 → Sh M1 → Q (vI (rd M1 67 6)) M1) : X G Y_X12_cut d k n 0 [vA 67] [] M Q := by
  have hd1 : 1 ≤ d := by omega
  refine x_aload_n (dA D_X12_cut 0 rfl) rfl ?_
  refine x_iconst (dA D_X12_cut 1 rfl) ?_
  refine x_put (x := 0) (dA D_X12_cut 2 rfl) fw_RX12_115 (fun _ _ hc => by cases hc; exact Or.inl rfl) (sO_67 hS) rfl rfl rfl ?_
  refine x_nmM (fun M1 eM1 => ?_)
  have hM1 : Sh M1 := eM1 ▸ (sW_67_0 hS)
  have h := h M1 eM1 hM1
  refine x_aload_n (dA D_X12_cut 3 rfl) rfl ?_
  refine x_get (v := vI (rd M1 67 6)) (dA D_X12_cut 4 rfl) fw_RX12_171 (sO_67 hM1) rfl ?_
  exact x_ireturn (dA D_X12_cut 5 rfl) rfl h
theorem C_X12_cut {G : GG} {d : Nat} {M : MM} {Q : PV → MM → Prop} (h : X G Y_X12_cut d 0 0 0 [vA 67] [] M Q) : C G Y_X12_cut d 0 0 [vA 67] M Q := X.entry (by decide) (Nat.le_of_ble_eq_true rfl) rfl rfl rfl h
set_option maxRecDepth 100000 in
theorem B_X11_fault_0 {G : GG} {d : Nat} {k n : Nat} {M : MM} {Q : PV → MM → Prop} (hd : 1 ≤ d) (hS : Sh M) (h : Q (vI (rd M 0 5)) M) : X G Y_X11_fault d k n 0 [vA 0] [] M Q := by
  have hd1 : 1 ≤ d := by omega
  refine x_aload_n (dA D_X11_fault 0 rfl) rfl ?_
  refine x_get (v := vI (rd M 0 5)) (dA D_X11_fault 1 rfl) fw_RX11_31 (sO_0 hS) rfl ?_
  exact x_ireturn (dA D_X11_fault 2 rfl) rfl h
theorem C_X11_fault {G : GG} {d : Nat} {M : MM} {Q : PV → MM → Prop} (h : X G Y_X11_fault d 0 0 0 [vA 0] [] M Q) : C G Y_X11_fault d 0 0 [vA 0] M Q := X.entry (by decide) (Nat.le_of_ble_eq_true rfl) rfl rfl rfl h
theorem S_X11_fault {G : GG} {d : Nat} {M : MM} {Q : PV → MM → Prop} (hS : Sh M) (hd : 1 ≤ d) (h : Q (vI (rd M 0 5)) M) : C G Y_X11_fault d 0 0 [vA 0] M Q := C_X11_fault (B_X11_fault_0 hd hS h)
set_option maxRecDepth 100000 in
theorem B_X12_fault_0 {G : GG} {d : Nat} {k n : Nat} {M : MM} {Q : PV → MM → Prop} (hd : 1 ≤ d) (hS : Sh M) (h : ∀ M1, M1 = wr M 67 0 0 → Sh M1 → Q (vI (rd M1 67 13)) M1) : X G Y_X12_fault d k n 0 [vA 67] [] M Q := by
  have hd1 : 1 ≤ d := by omega
  refine x_aload_n (dA D_X12_fault 0 rfl) rfl ?_
  refine x_iconst (dA D_X12_fault 1 rfl) ?_
  refine x_put (x := 0) (dA D_X12_fault 2 rfl) fw_RX12_115 (fun _ _ hc => by cases hc; exact Or.inl rfl) (sO_67 hS) rfl rfl rfl ?_
  refine x_nmM (fun M1 eM1 => ?_)
  have hM1 : Sh M1 := eM1 ▸ (sW_67_0 hS)
  have h := h M1 eM1 hM1
  refine x_aload_n (dA D_X12_fault 3 rfl) rfl ?_
  refine x_get (v := vI (rd M1 67 13)) (dA D_X12_fault 4 rfl) fw_RX12_26 (sO_67 hM1) rfl ?_
  exact x_ireturn (dA D_X12_fault 5 rfl) rfl h
theorem C_X12_fault {G : GG} {d : Nat} {M : MM} {Q : PV → MM → Prop} (h : X G Y_X12_fault d 0 0 0 [vA 67] [] M Q) : C G Y_X12_fault d 0 0 [vA 67] M Q := X.entry (by decide) (Nat.le_of_ble_eq_true rfl) rfl rfl rfl h
set_option maxRecDepth 100000 in
theorem B_X11_status_0 {G : GG} {d : Nat} {k n : Nat} {M : MM} {Q : PV → MM → Prop} (hd : 1 ≤ d) (hS : Sh M) (h : Q (vI (rd M 0 7)) M) : X G Y_X11_status d k n 0 [vA 0] [] M Q := by
  have hd1 : 1 ≤ d := by omega
  refine x_aload_n (dA D_X11_status 0 rfl) rfl ?_
  refine x_get (v := vI (rd M 0 7)) (dA D_X11_status 1 rfl) fw_RX11_37 (sO_0 hS) rfl ?_
  exact x_ireturn (dA D_X11_status 2 rfl) rfl h
theorem C_X11_status {G : GG} {d : Nat} {M : MM} {Q : PV → MM → Prop} (h : X G Y_X11_status d 0 0 0 [vA 0] [] M Q) : C G Y_X11_status d 0 0 [vA 0] M Q := X.entry (by decide) (Nat.le_of_ble_eq_true rfl) rfl rfl rfl h
theorem S_X11_status {G : GG} {d : Nat} {M : MM} {Q : PV → MM → Prop} (hS : Sh M) (hd : 1 ≤ d) (h : Q (vI (rd M 0 7)) M) : C G Y_X11_status d 0 0 [vA 0] M Q := C_X11_status (B_X11_status_0 hd hS h)
set_option maxRecDepth 100000 in
theorem B_X12_status_0 {G : GG} {d : Nat} {k n : Nat} {M : MM} {Q : PV → MM → Prop} (hd : 1 ≤ d) (hS : Sh M) (h : ∀ M1, M1 = wr M 67 0 0 → Sh M1 → Q (vI (rd M1 67 1)) M1) : X G Y_X12_status d k n 0 [vA 67] [] M Q := by
  have hd1 : 1 ≤ d := by omega
  refine x_aload_n (dA D_X12_status 0 rfl) rfl ?_
  refine x_iconst (dA D_X12_status 1 rfl) ?_
  refine x_put (x := 0) (dA D_X12_status 2 rfl) fw_RX12_115 (fun _ _ hc => by cases hc; exact Or.inl rfl) (sO_67 hS) rfl rfl rfl ?_
  refine x_nmM (fun M1 eM1 => ?_)
  have hM1 : Sh M1 := eM1 ▸ (sW_67_0 hS)
  have h := h M1 eM1 hM1
  refine x_aload_n (dA D_X12_status 3 rfl) rfl ?_
  refine x_get (v := vI (rd M1 67 1)) (dA D_X12_status 4 rfl) fw_RX12_118 (sO_67 hM1) rfl ?_
  exact x_ireturn (dA D_X12_status 5 rfl) rfl h
theorem C_X12_status {G : GG} {d : Nat} {M : MM} {Q : PV → MM → Prop} (h : X G Y_X12_status d 0 0 0 [vA 67] [] M Q) : C G Y_X12_status d 0 0 [vA 67] M Q := X.entry (by decide) (Nat.le_of_ble_eq_true rfl) rfl rfl rfl h
set_option maxRecDepth 100000 in
theorem B_X12_count_0 {G : GG} {d : Nat} {k n : Nat} {x1 : Int} {M : MM} {Q : PV → MM → Prop} (hd : 1 ≤ d) (hS : Sh M) (h : ∀ M1, M1 = wr M 67 0 0 → Sh M1 → inR x1 ∧ ((x1 < 0 ∨ 10 < x1) → Q (vI (-1)) M1) ∧ (x1 = 0 → Q (vI (rd M1 69 0)) M1) ∧ (x1 = 1 → Q (vI (rd M1 69 1)) M1) ∧ (x1 = 2 → Q (vI (rd M1 69 3)) M1) ∧ (x1 = 3 → Q (vI (rd M1 69 4)) M1) ∧ (x1 = 4 → Q (vI (rd M1 67 8)) M1) ∧ (x1 = 5 → Q (vI (rd M1 68 1)) M1) ∧ (x1 = 6 → Q (vI (rd M1 68 2)) M1) ∧ (x1 = 7 → Q (vI (rd M1 68 3)) M1) ∧ (x1 = 8 → Q (vI (rd M1 68 5)) M1) ∧ (x1 = 9 → Q (vI (rd M1 68 6)) M1) ∧ (x1 = 10 → Q (vI (rd M1 69 2)) M1)) : X G Y_X12_count d k n 0 [vA 67, vI x1] [] M Q := by
  have hd1 : 1 ≤ d := by omega
  refine x_aload_n (dA D_X12_count 0 rfl) rfl ?_
  refine x_iconst (dA D_X12_count 1 rfl) ?_
  refine x_put (x := 0) (dA D_X12_count 2 rfl) fw_RX12_115 (fun _ _ hc => by cases hc; exact Or.inl rfl) (sO_67 hS) rfl rfl rfl ?_
  refine x_nmM (fun M1 eM1 => ?_)
  have hM1 : Sh M1 := eM1 ▸ (sW_67_0 hS)
  have h := h M1 eM1 hM1
  refine x_iload_n (dA D_X12_count 3 rfl) rfl ?_
  obtain ⟨h2, h⟩ := h
  by_cases hz : x1 < 0 ∨ 10 < x1
  · have h := h.1 hz
    refine x_tblO (tgt := 140) (dA D_X12_count 4 rfl) (by decide) h2 hz ?_
    refine x_iconst (dA D_X12_count 58 rfl) ?_
    exact x_ireturn (dA D_X12_count 59 rfl) rfl h
  · have h := h.2
    have hq : x1 = 0 ∨ x1 = 1 ∨ x1 = 2 ∨ x1 = 3 ∨ x1 = 4 ∨ x1 = 5 ∨ x1 = 6 ∨ x1 = 7 ∨ x1 = 8 ∨ x1 = 9 ∨ x1 = 10 := by omega
    rcases hq with c | c | c | c | c | c | c | c | c | c | c
    · have h := h.1 c
      refine x_tblI (off := 58) (tgt := 64) (dA D_X12_count 4 rfl) h2 (by omega) (by omega) (by rw [c]; rfl) (by decide) ?_
      refine x_aload_n (dA D_X12_count 5 rfl) rfl ?_
      refine x_get (v := vA 69) (dA D_X12_count 6 rfl) fw_RX12_13 (sO_67 hM1) (congrArg (rfV G) (sR_67_3 hM1)) ?_
      refine x_iconst (dA D_X12_count 7 rfl) ?_
      refine x_iald (dA D_X12_count 8 rfl) (sA_69 hM1 (by decide) (by decide)) ?_
      exact x_ireturn (dA D_X12_count 9 rfl) rfl h
    · have h := h.2.1 c
      refine x_tblI (off := 65) (tgt := 71) (dA D_X12_count 4 rfl) h2 (by omega) (by omega) (by rw [c]; rfl) (by decide) ?_
      refine x_aload_n (dA D_X12_count 10 rfl) rfl ?_
      refine x_get (v := vA 69) (dA D_X12_count 11 rfl) fw_RX12_13 (sO_67 hM1) (congrArg (rfV G) (sR_67_3 hM1)) ?_
      refine x_iconst (dA D_X12_count 12 rfl) ?_
      refine x_iald (dA D_X12_count 13 rfl) (sA_69 hM1 (by decide) (by decide)) ?_
      exact x_ireturn (dA D_X12_count 14 rfl) rfl h
    · have h := h.2.2.1 c
      refine x_tblI (off := 72) (tgt := 78) (dA D_X12_count 4 rfl) h2 (by omega) (by omega) (by rw [c]; rfl) (by decide) ?_
      refine x_aload_n (dA D_X12_count 15 rfl) rfl ?_
      refine x_get (v := vA 69) (dA D_X12_count 16 rfl) fw_RX12_13 (sO_67 hM1) (congrArg (rfV G) (sR_67_3 hM1)) ?_
      refine x_iconst (dA D_X12_count 17 rfl) ?_
      refine x_iald (dA D_X12_count 18 rfl) (sA_69 hM1 (by decide) (by decide)) ?_
      exact x_ireturn (dA D_X12_count 19 rfl) rfl h
    · have h := h.2.2.2.1 c
      refine x_tblI (off := 79) (tgt := 85) (dA D_X12_count 4 rfl) h2 (by omega) (by omega) (by rw [c]; rfl) (by decide) ?_
      refine x_aload_n (dA D_X12_count 20 rfl) rfl ?_
      refine x_get (v := vA 69) (dA D_X12_count 21 rfl) fw_RX12_13 (sO_67 hM1) (congrArg (rfV G) (sR_67_3 hM1)) ?_
      refine x_iconst (dA D_X12_count 22 rfl) ?_
      refine x_iald (dA D_X12_count 23 rfl) (sA_69 hM1 (by decide) (by decide)) ?_
      exact x_ireturn (dA D_X12_count 24 rfl) rfl h
    · have h := h.2.2.2.2.1 c
      refine x_tblI (off := 86) (tgt := 92) (dA D_X12_count 4 rfl) h2 (by omega) (by omega) (by rw [c]; rfl) (by decide) ?_
      refine x_aload_n (dA D_X12_count 25 rfl) rfl ?_
      refine x_get (v := vI (rd M1 67 8)) (dA D_X12_count 26 rfl) fw_RX12_168 (sO_67 hM1) rfl ?_
      exact x_ireturn (dA D_X12_count 27 rfl) rfl h
    · have h := h.2.2.2.2.2.1 c
      refine x_tblI (off := 91) (tgt := 97) (dA D_X12_count 4 rfl) h2 (by omega) (by omega) (by rw [c]; rfl) (by decide) ?_
      refine x_aload_n (dA D_X12_count 28 rfl) rfl ?_
      refine x_get (v := vA 68) (dA D_X12_count 29 rfl) fw_RX12_7 (sO_67 hM1) (congrArg (rfV G) (sR_67_2 hM1)) ?_
      refine x_iconst (dA D_X12_count 30 rfl) ?_
      refine x_iald (dA D_X12_count 31 rfl) (sA_68 hM1 (by decide) (by decide)) ?_
      exact x_ireturn (dA D_X12_count 32 rfl) rfl h
    · have h := h.2.2.2.2.2.2.1 c
      refine x_tblI (off := 98) (tgt := 104) (dA D_X12_count 4 rfl) h2 (by omega) (by omega) (by rw [c]; rfl) (by decide) ?_
      refine x_aload_n (dA D_X12_count 33 rfl) rfl ?_
      refine x_get (v := vA 68) (dA D_X12_count 34 rfl) fw_RX12_7 (sO_67 hM1) (congrArg (rfV G) (sR_67_2 hM1)) ?_
      refine x_iconst (dA D_X12_count 35 rfl) ?_
      refine x_iald (dA D_X12_count 36 rfl) (sA_68 hM1 (by decide) (by decide)) ?_
      exact x_ireturn (dA D_X12_count 37 rfl) rfl h
    · have h := h.2.2.2.2.2.2.2.1 c
      refine x_tblI (off := 105) (tgt := 111) (dA D_X12_count 4 rfl) h2 (by omega) (by omega) (by rw [c]; rfl) (by decide) ?_
      refine x_aload_n (dA D_X12_count 38 rfl) rfl ?_
      refine x_get (v := vA 68) (dA D_X12_count 39 rfl) fw_RX12_7 (sO_67 hM1) (congrArg (rfV G) (sR_67_2 hM1)) ?_
      refine x_iconst (dA D_X12_count 40 rfl) ?_
      refine x_iald (dA D_X12_count 41 rfl) (sA_68 hM1 (by decide) (by decide)) ?_
      exact x_ireturn (dA D_X12_count 42 rfl) rfl h
    · have h := h.2.2.2.2.2.2.2.2.1 c
      refine x_tblI (off := 112) (tgt := 118) (dA D_X12_count 4 rfl) h2 (by omega) (by omega) (by rw [c]; rfl) (by decide) ?_
      refine x_aload_n (dA D_X12_count 43 rfl) rfl ?_
      refine x_get (v := vA 68) (dA D_X12_count 44 rfl) fw_RX12_7 (sO_67 hM1) (congrArg (rfV G) (sR_67_2 hM1)) ?_
      refine x_iconst (dA D_X12_count 45 rfl) ?_
      refine x_iald (dA D_X12_count 46 rfl) (sA_68 hM1 (by decide) (by decide)) ?_
      exact x_ireturn (dA D_X12_count 47 rfl) rfl h
    · have h := h.2.2.2.2.2.2.2.2.2.1 c
      refine x_tblI (off := 119) (tgt := 125) (dA D_X12_count 4 rfl) h2 (by omega) (by omega) (by rw [c]; rfl) (by decide) ?_
      refine x_aload_n (dA D_X12_count 48 rfl) rfl ?_
      refine x_get (v := vA 68) (dA D_X12_count 49 rfl) fw_RX12_7 (sO_67 hM1) (congrArg (rfV G) (sR_67_2 hM1)) ?_
      refine x_bipush (dA D_X12_count 50 rfl) (by decide) (by decide) ?_
      refine x_iald (dA D_X12_count 51 rfl) (sA_68 hM1 (by decide) (by decide)) ?_
      exact x_ireturn (dA D_X12_count 52 rfl) rfl h
    · have h := h.2.2.2.2.2.2.2.2.2.2 c
      refine x_tblI (off := 127) (tgt := 133) (dA D_X12_count 4 rfl) h2 (by omega) (by omega) (by rw [c]; rfl) (by decide) ?_
      refine x_aload_n (dA D_X12_count 53 rfl) rfl ?_
      refine x_get (v := vA 69) (dA D_X12_count 54 rfl) fw_RX12_13 (sO_67 hM1) (congrArg (rfV G) (sR_67_3 hM1)) ?_
      refine x_iconst (dA D_X12_count 55 rfl) ?_
      refine x_iald (dA D_X12_count 56 rfl) (sA_69 hM1 (by decide) (by decide)) ?_
      exact x_ireturn (dA D_X12_count 57 rfl) rfl h
theorem C_X12_count {G : GG} {d : Nat} {x1 : Int} {M : MM} {Q : PV → MM → Prop} (h : X G Y_X12_count d 0 0 0 [vA 67, vI x1] [] M Q) : C G Y_X12_count d 0 0 [vA 67, vI x1] M Q := X.entry (by decide) (Nat.le_of_ble_eq_true rfl) rfl rfl rfl h
set_option maxRecDepth 100000 in
theorem B_X11_count_0 {G : GG} {d : Nat} {k n : Nat} {x1 : Int} {M : MM} {Q : PV → MM → Prop} (hd : 1 ≤ d) (hS : Sh M) (h : inR x1 ∧ ((x1 < 0 ∨ 10 < x1) → X G Y_X11_count d k n 105 [vA 0, vI x1] [] M Q) ∧ (x1 = 0 → Q (vI (rd M 1 0)) M) ∧ (x1 = 1 → Q (vI (rd M 1 9)) M) ∧ (x1 = 2 → Q (vI (rd M 1 12)) M) ∧ (x1 = 3 → Q (vI (rd M 1 16)) M) ∧ (x1 = 4 → Q (vI (rd M 0 3)) M) ∧ (x1 = 5 → X G Y_X11_count d k n 105 [vA 0, vI x1] [] M Q) ∧ (x1 = 6 → X G Y_X11_count d k n 105 [vA 0, vI x1] [] M Q) ∧ (x1 = 7 → X G Y_X11_count d k n 105 [vA 0, vI x1] [] M Q) ∧ (x1 = 8 → X G Y_X11_count d k n 105 [vA 0, vI x1] [] M Q) ∧ (x1 = 9 → X G Y_X11_count d k n 105 [vA 0, vI x1] [] M Q) ∧ (x1 = 10 → Q (vI (rd M 1 10)) M)) : X G Y_X11_count d k n 0 [vA 0, vI x1] [] M Q := by
  have hd1 : 1 ≤ d := by omega
  refine x_iload_n (dA D_X11_count 0 rfl) rfl ?_
  obtain ⟨h1, h⟩ := h
  by_cases hz : x1 < 0 ∨ 10 < x1
  · have h := h.1 hz
    refine x_tblO (tgt := 105) (dA D_X11_count 1 rfl) (by decide) h1 hz ?_
    exact h
  · have h := h.2
    have hq : x1 = 0 ∨ x1 = 1 ∨ x1 = 2 ∨ x1 = 3 ∨ x1 = 4 ∨ x1 = 5 ∨ x1 = 6 ∨ x1 = 7 ∨ x1 = 8 ∨ x1 = 9 ∨ x1 = 10 := by omega
    rcases hq with c | c | c | c | c | c | c | c | c | c | c
    · have h := h.1 c
      refine x_tblI (off := 59) (tgt := 60) (dA D_X11_count 1 rfl) h1 (by omega) (by omega) (by rw [c]; rfl) (by decide) ?_
      refine x_aload_n (dA D_X11_count 2 rfl) rfl ?_
      refine x_get (v := vA 1) (dA D_X11_count 3 rfl) fw_RX11_12 (sO_0 hS) (congrArg (rfV G) (sR_0_0 hS)) ?_
      refine x_get (v := vI (rd M 1 0)) (dA D_X11_count 4 rfl) fw_RX11_108 (sO_1 hS) rfl ?_
      exact x_ireturn (dA D_X11_count 5 rfl) rfl h
    · have h := h.2.1 c
      refine x_tblI (off := 67) (tgt := 68) (dA D_X11_count 1 rfl) h1 (by omega) (by omega) (by rw [c]; rfl) (by decide) ?_
      refine x_aload_n (dA D_X11_count 6 rfl) rfl ?_
      refine x_get (v := vA 1) (dA D_X11_count 7 rfl) fw_RX11_12 (sO_0 hS) (congrArg (rfV G) (sR_0_0 hS)) ?_
      refine x_get (v := vI (rd M 1 9)) (dA D_X11_count 8 rfl) fw_RX11_163 (sO_1 hS) rfl ?_
      exact x_ireturn (dA D_X11_count 9 rfl) rfl h
    · have h := h.2.2.1 c
      refine x_tblI (off := 75) (tgt := 76) (dA D_X11_count 1 rfl) h1 (by omega) (by omega) (by rw [c]; rfl) (by decide) ?_
      refine x_aload_n (dA D_X11_count 10 rfl) rfl ?_
      refine x_get (v := vA 1) (dA D_X11_count 11 rfl) fw_RX11_12 (sO_0 hS) (congrArg (rfV G) (sR_0_0 hS)) ?_
      refine x_get (v := vI (rd M 1 12)) (dA D_X11_count 12 rfl) fw_RX11_201 (sO_1 hS) rfl ?_
      exact x_ireturn (dA D_X11_count 13 rfl) rfl h
    · have h := h.2.2.2.1 c
      refine x_tblI (off := 83) (tgt := 84) (dA D_X11_count 1 rfl) h1 (by omega) (by omega) (by rw [c]; rfl) (by decide) ?_
      refine x_aload_n (dA D_X11_count 14 rfl) rfl ?_
      refine x_get (v := vA 1) (dA D_X11_count 15 rfl) fw_RX11_12 (sO_0 hS) (congrArg (rfV G) (sR_0_0 hS)) ?_
      refine x_get (v := vI (rd M 1 16)) (dA D_X11_count 16 rfl) fw_RX11_273 (sO_1 hS) rfl ?_
      exact x_ireturn (dA D_X11_count 17 rfl) rfl h
    · have h := h.2.2.2.2.1 c
      refine x_tblI (off := 91) (tgt := 92) (dA D_X11_count 1 rfl) h1 (by omega) (by omega) (by rw [c]; rfl) (by decide) ?_
      refine x_aload_n (dA D_X11_count 18 rfl) rfl ?_
      refine x_get (v := vI (rd M 0 3)) (dA D_X11_count 19 rfl) fw_RX11_24 (sO_0 hS) rfl ?_
      exact x_ireturn (dA D_X11_count 20 rfl) rfl h
    · have h := h.2.2.2.2.2.1 c
      refine x_tblI (off := 104) (tgt := 105) (dA D_X11_count 1 rfl) h1 (by omega) (by omega) (by rw [c]; rfl) (by decide) ?_
      exact h
    · have h := h.2.2.2.2.2.2.1 c
      refine x_tblI (off := 104) (tgt := 105) (dA D_X11_count 1 rfl) h1 (by omega) (by omega) (by rw [c]; rfl) (by decide) ?_
      exact h
    · have h := h.2.2.2.2.2.2.2.1 c
      refine x_tblI (off := 104) (tgt := 105) (dA D_X11_count 1 rfl) h1 (by omega) (by omega) (by rw [c]; rfl) (by decide) ?_
      exact h
    · have h := h.2.2.2.2.2.2.2.2.1 c
      refine x_tblI (off := 104) (tgt := 105) (dA D_X11_count 1 rfl) h1 (by omega) (by omega) (by rw [c]; rfl) (by decide) ?_
      exact h
    · have h := h.2.2.2.2.2.2.2.2.2.1 c
      refine x_tblI (off := 104) (tgt := 105) (dA D_X11_count 1 rfl) h1 (by omega) (by omega) (by rw [c]; rfl) (by decide) ?_
      exact h
    · have h := h.2.2.2.2.2.2.2.2.2.2 c
      refine x_tblI (off := 96) (tgt := 97) (dA D_X11_count 1 rfl) h1 (by omega) (by omega) (by rw [c]; rfl) (by decide) ?_
      refine x_aload_n (dA D_X11_count 21 rfl) rfl ?_
      refine x_get (v := vA 1) (dA D_X11_count 22 rfl) fw_RX11_12 (sO_0 hS) (congrArg (rfV G) (sR_0_0 hS)) ?_
      refine x_get (v := vI (rd M 1 10)) (dA D_X11_count 23 rfl) fw_RX11_179 (sO_1 hS) rfl ?_
      exact x_ireturn (dA D_X11_count 24 rfl) rfl h
theorem C_X11_count {G : GG} {d : Nat} {x1 : Int} {M : MM} {Q : PV → MM → Prop} (h : X G Y_X11_count d 0 0 0 [vA 0, vI x1] [] M Q) : C G Y_X11_count d 0 0 [vA 0, vI x1] M Q := X.entry (by decide) (Nat.le_of_ble_eq_true rfl) rfl rfl rfl h
set_option maxRecDepth 100000 in
theorem B_X11_count_105 {G : GG} {d : Nat} {k n : Nat} {x1 : Int} {M : MM} {Q : PV → MM → Prop} (hd : 1 ≤ d) (hS : Sh M) (h : inR x1 ∧ ((((x1 < 5) ∨ (9 < x1)) → Q (vI (-1)) M) ∧ (¬ ((x1 < 5) ∨ (9 < x1)) → 0 ≤ (x1 - 5) ∧ (x1 - 5) < 5 ∧ Q (vI (rd M 15 (x1 - 5))) M))) : X G Y_X11_count d k n 105 [vA 0, vI x1] [] M Q := by
  have hd1 : 1 ≤ d := by omega
  refine x_iload_n (dA D_X11_count 25 rfl) rfl ?_
  refine x_iconst (dA D_X11_count 26 rfl) ?_
  obtain ⟨h2, h⟩ := h
  have hA : ((x1 < 5) ∨ (9 < x1)) → X G Y_X11_count d k n 127 [vA 0, vI x1] [] M Q := by
    intro c14
    have h := h.1 c14
    refine x_iconst (dA D_X11_count 38 rfl) ?_
    exact x_ireturn (dA D_X11_count 39 rfl) rfl h
  have hB : ¬ ((x1 < 5) ∨ (9 < x1)) → X G Y_X11_count d k n 116 [vA 0, vI x1] [] M Q := by
    intro c14
    have h := h.2 c14
    refine x_aload_n (dA D_X11_count 31 rfl) rfl ?_
    refine x_get (v := vA 15) (dA D_X11_count 32 rfl) fw_RX11_34 (sO_0 hS) (congrArg (rfV G) (sR_0_6 hS)) ?_
    refine x_iload_n (dA D_X11_count 33 rfl) rfl ?_
    refine x_iconst (dA D_X11_count 34 rfl) ?_
    refine x_isub (dA D_X11_count 35 rfl) ?_
    obtain ⟨h12, h⟩ := h
    obtain ⟨h13, h⟩ := h
    refine x_iald (dA D_X11_count 36 rfl) (sA_15 hS h12 h13) ?_
    refine x_goto (tgt := 128) (dA D_X11_count 37 rfl) (by decide) ?_
    exact x_ireturn (dA D_X11_count 39 rfl) rfl h
  refine x_icmp_ltP (tgt := 127) (dA D_X11_count 27 rfl) (by decide) h2 ⟨by decide, by decide⟩ ⟨fun c1 => ?_, fun c1 => ?_⟩
  · exact hA (by first | omega | grind)
  · refine x_iload_n (dA D_X11_count 28 rfl) rfl ?_
    refine x_bipush (dA D_X11_count 29 rfl) (by decide) (by decide) ?_
    refine x_icmp_gtP (tgt := 127) (dA D_X11_count 30 rfl) (by decide) h2 ⟨by decide, by decide⟩ ⟨fun c5 => ?_, fun c5 => ?_⟩
    · exact hA (by first | omega | grind)
    · exact hB (by first | omega | grind)
set_option maxRecDepth 100000 in
theorem B_X11_terms_0 {G : GG} {d : Nat} {k n : Nat} {x1 x2 : Int} {M : MM} {Q : PV → MM → Prop} (hd : 2 ≤ d) (hS : Sh M) (h : inR x1 ∧ ∀ v11, v11 = (if x1 ≠ 0 then (if x1 ≠ 1 then 300 else 99) else 9) → inR x2 ∧ inR v11 ∧ ((((x1 < 0) ∨ ((2 < x1) ∨ ((x2 < 0) ∨ (v11 < x2)))) → ∀ M28, M28 = refM M (-1 : Int) → Sh M28 → Q (vI (-1 : Int)) M28) ∧ (¬ ((x1 < 0) ∨ ((2 < x1) ∨ ((x2 < 0) ∨ (v11 < x2)))) → 0 ≤ x1 ∧ x1 < 3 ∧ ∀ v31, v31 = rd M 8 x1 → ∀ M32, M32 = wr M 8 x1 x2 → Sh M32 → C G Y_X6_valuesChanged (d - 1) 0 0 [vA 39] M32 (rU (fun M33 => Sh M33 ∧ ∀ M34, M34 = accM M33 → Sh M34 → Q (vI v31) M34))))) : X G Y_X11_terms d k n 0 [vA 0, vI x1, vI x2, vU, vU] [] M Q := by
  have hd1 : 1 ≤ d := by omega
  refine x_iload_n (dA D_X11_terms 0 rfl) rfl ?_
  obtain ⟨h2, h⟩ := h
  have hJ : X G Y_X11_terms d k n 22 [vA 0, vI x1, vI x2, vU, vU] [vI (if x1 ≠ 0 then (if x1 ≠ 1 then 300 else 99) else 9)] M Q := by
    refine x_nmI (fun v11 ev11 => ?_)
    have h := h v11 ev11
    refine x_istore_n (xs' := [vA 0, vI x1, vI x2, vI v11, vU]) (dA D_X11_terms 10 rfl) (by decide) rfl ?_
    refine x_iload_n (dA D_X11_terms 11 rfl) rfl ?_
    obtain ⟨h18, h⟩ := h
    obtain ⟨h22, h⟩ := h
    have hA : ((x1 < 0) ∨ ((2 < x1) ∨ ((x2 < 0) ∨ (v11 < x2)))) → X G Y_X11_terms d k n 41 [vA 0, vI x1, vI x2, vI v11, vU] [] M Q := by
      intro c35
      have h := h.1 c35
      refine x_aload_n (dA D_X11_terms 21 rfl) rfl ?_
      refine x_iconst (dA D_X11_terms 22 rfl) ?_
      refine x_callV 10 [vI (-1)] [] (dA D_X11_terms 23 rfl) cw_RX11_104 rfl rfl (Nat.le_of_ble_eq_true rfl) (by decide) rfl hd1 (zk k) (zk n) (sO_0 hS) (S_X11_refuse hS ⟨by decide, by decide, by decide, by decide⟩ (by omega) ?_) (kI (fun _ _ h => h))
      refine x_nmM (fun M28 eM28 => ?_)
      have hM28 : Sh M28 := eM28 ▸ (sRef hS)
      have h := h M28 eM28 hM28
      show X G Y_X11_terms d k n 46 [vA 0, vI x1, vI x2, vI v11, vU] [vI (-1 : Int)] M28 Q
      exact x_ireturn (dA D_X11_terms 24 rfl) rfl h
    have hB : ¬ ((x1 < 0) ∨ ((2 < x1) ∨ ((x2 < 0) ∨ (v11 < x2)))) → X G Y_X11_terms d k n 47 [vA 0, vI x1, vI x2, vI v11, vU] [] M Q := by
      intro c35
      have h := h.2 c35
      refine x_aload_n (dA D_X11_terms 25 rfl) rfl ?_
      refine x_get (v := vA 1) (dA D_X11_terms 26 rfl) fw_RX11_12 (sO_0 hS) (congrArg (rfV G) (sR_0_0 hS)) ?_
      refine x_get (v := vA 8) (dA D_X11_terms 27 rfl) fw_RX11_156 (sO_1 hS) (congrArg (rfV G) (sR_1_7 hS)) ?_
      refine x_iload_n (dA D_X11_terms 28 rfl) rfl ?_
      obtain ⟨h29, h⟩ := h
      obtain ⟨h30, h⟩ := h
      refine x_iald (dA D_X11_terms 29 rfl) (sA_8 hS h29 h30) ?_
      refine x_nmI (fun v31 ev31 => ?_)
      have h := h v31 ev31
      refine x_istore (xs' := [vA 0, vI x1, vI x2, vI v11, vI v31]) (dA D_X11_terms 30 rfl) (by decide) rfl ?_
      refine x_aload_n (dA D_X11_terms 31 rfl) rfl ?_
      refine x_get (v := vA 1) (dA D_X11_terms 32 rfl) fw_RX11_12 (sO_0 hS) (congrArg (rfV G) (sR_0_0 hS)) ?_
      refine x_get (v := vA 8) (dA D_X11_terms 33 rfl) fw_RX11_156 (sO_1 hS) (congrArg (rfV G) (sR_1_7 hS)) ?_
      refine x_iload_n (dA D_X11_terms 34 rfl) rfl ?_
      refine x_iload_n (dA D_X11_terms 35 rfl) rfl ?_
      refine x_iast (dA D_X11_terms 36 rfl) (sA_8 hS h29 h30) ?_
      refine x_nmM (fun M32 eM32 => ?_)
      have hM32 : Sh M32 := eM32 ▸ (sW_8 hS)
      have h := h M32 eM32 hM32
      refine x_aload_n (dA D_X11_terms 37 rfl) rfl ?_
      refine x_get (v := vA 39) (dA D_X11_terms 38 rfl) fw_RX11_79 (sO_0 hM32) (congrArg (rfV G) (sR_0_12 hM32)) ?_
      refine x_callV 5 [] [] (dA D_X11_terms 39 rfl) cw_RX11_153 rfl rfl (Nat.le_of_ble_eq_true rfl) (by decide) rfl hd1 (zk k) (zk n) (sO_39 hM32) h (kU (fun M33 h => ?_))
      obtain ⟨hM33, h⟩ := h
      refine x_aload_n (dA D_X11_terms 40 rfl) rfl ?_
      refine x_iload (dA D_X11_terms 41 rfl) rfl ?_
      refine x_callV 10 [vI v31] [] (dA D_X11_terms 42 rfl) cw_RX11_118 rfl rfl (Nat.le_of_ble_eq_true rfl) (by decide) rfl hd1 (zk k) (zk n) (sO_0 hM33) (S_X11_accept hM33  (by omega) ?_) (kI (fun _ _ h => h))
      refine x_nmM (fun M34 eM34 => ?_)
      have hM34 : Sh M34 := eM34 ▸ (sW_0_7 hM33)
      have h := h M34 eM34 hM34
      show X G Y_X11_terms d k n 81 [vA 0, vI x1, vI x2, vI v11, vI v31] [vI v31] M34 Q
      exact x_ireturn (dA D_X11_terms 43 rfl) rfl h
    refine x_if_ltP (tgt := 41) (dA D_X11_terms 12 rfl) (by decide) h2 ⟨fun c12 => ?_, fun c12 => ?_⟩
    · exact hA (by first | omega | grind)
    · refine x_iload_n (dA D_X11_terms 13 rfl) rfl ?_
      refine x_iconst (dA D_X11_terms 14 rfl) ?_
      refine x_icmp_gtP (tgt := 41) (dA D_X11_terms 15 rfl) (by decide) h2 ⟨by decide, by decide⟩ ⟨fun c15 => ?_, fun c15 => ?_⟩
      · exact hA (by first | omega | grind)
      · refine x_iload_n (dA D_X11_terms 16 rfl) rfl ?_
        refine x_if_ltP (tgt := 41) (dA D_X11_terms 17 rfl) (by decide) h18 ⟨fun c17 => ?_, fun c17 => ?_⟩
        · exact hA (by first | omega | grind)
        · refine x_iload_n (dA D_X11_terms 18 rfl) rfl ?_
          refine x_iload_n (dA D_X11_terms 19 rfl) rfl ?_
          refine x_icmp_leP (tgt := 47) (dA D_X11_terms 20 rfl) (by decide) h18 h22 ⟨fun c21 => ?_, fun c21 => ?_⟩
          · exact hB (by first | omega | grind)
          · exact hA (by first | omega | grind)
  refine x_if_neP (tgt := 9) (dA D_X11_terms 1 rfl) (by decide) h2 ⟨fun c1 => ?_, fun c1 => ?_⟩
  · refine x_iload_n (dA D_X11_terms 4 rfl) rfl ?_
    refine x_iconst (dA D_X11_terms 5 rfl) ?_
    refine x_icmp_neP (tgt := 19) (dA D_X11_terms 6 rfl) (by decide) h2 ⟨by decide, by decide⟩ ⟨fun c5 => ?_, fun c5 => ?_⟩
    · refine x_sipush (dA D_X11_terms 9 rfl) (by decide) (by decide) ?_
      rw [if_pos c1, if_pos c5] at hJ
      exact hJ
    · refine x_bipush (dA D_X11_terms 7 rfl) (by decide) (by decide) ?_
      refine x_goto (tgt := 22) (dA D_X11_terms 8 rfl) (by decide) ?_
      rw [if_pos c1, if_neg (by first | omega | grind)] at hJ
      exact hJ
  · refine x_bipush (dA D_X11_terms 2 rfl) (by decide) (by decide) ?_
    refine x_goto (tgt := 22) (dA D_X11_terms 3 rfl) (by decide) ?_
    rw [if_neg (by first | omega | grind)] at hJ
    exact hJ
theorem C_X11_terms {G : GG} {d : Nat} {x1 x2 : Int} {M : MM} {Q : PV → MM → Prop} (h : X G Y_X11_terms d 0 0 0 [vA 0, vI x1, vI x2, vU, vU] [] M Q) : C G Y_X11_terms d 0 0 [vA 0, vI x1, vI x2] M Q := X.entry (by decide) (Nat.le_of_ble_eq_true rfl) rfl rfl rfl h
set_option maxRecDepth 100000 in
theorem B_X12_terms_0 {G : GG} {d : Nat} {k n : Nat} {x1 x2 : Int} {M : MM} {Q : PV → MM → Prop} (hd : 2 ≤ d) (hS : Sh M) (h : ∀ M1, M1 = wr M 67 0 0 → Sh M1 → inR x1 ∧ ((¬ (((0 : Int) ≤ x1) ∧ (x1 ≤ (2 : Int))) → X G Y_X12_terms d k n 54 [vA 67, vI x1, vI x2, vU] [] M1 Q) ∧ (((0 : Int) ≤ x1) ∧ (x1 ≤ (2 : Int)) → inR x2 ∧ inL (if x1 ≠ 0 then (if x1 ≠ 1 then 300 else 99) else 9) ∧ ((¬ (((0 : Int) ≤ x2) ∧ (x2 ≤ (if x1 ≠ 0 then (if x1 ≠ 1 then 300 else 99) else 9))) → X G Y_X12_terms d k n 54 [vA 67, vI x1, vI x2, vU] [] M1 Q) ∧ (((0 : Int) ≤ x2) ∧ (x2 ≤ (if x1 ≠ 0 then (if x1 ≠ 1 then 300 else 99) else 9)) → C G Y_X12_change (d - 1) 0 0 [vA 67, vI (40 + x1), vI x2] M1 (rI (fun r15 M14 => Sh M14 ∧ Q (vI r15) M14))))))) : X G Y_X12_terms d k n 0 [vA 67, vI x1, vI x2, vU] [] M Q := by
  have hd1 : 1 ≤ d := by omega
  refine x_aload_n (dA D_X12_terms 0 rfl) rfl ?_
  refine x_iconst (dA D_X12_terms 1 rfl) ?_
  refine x_put (x := 0) (dA D_X12_terms 2 rfl) fw_RX12_115 (fun _ _ hc => by cases hc; exact Or.inl rfl) (sO_67 hS) rfl rfl rfl ?_
  refine x_nmM (fun M1 eM1 => ?_)
  have hM1 : Sh M1 := eM1 ▸ (sW_67_0 hS)
  have h := h M1 eM1 hM1
  refine x_iload_n (dA D_X12_terms 3 rfl) rfl ?_
  obtain ⟨h2, h⟩ := h
  refine x_i2l (dA D_X12_terms 4 rfl) h2 ?_
  refine x_lconst (a := 0) (dA D_X12_terms 5 rfl) (by decide) ?_
  refine x_ldc2 (a := 2) (dA D_X12_terms 6 rfl) kl_RX12_158 (by decide) ?_
  refine x_callS [vL x1, vL 0, vL 2] [] (dA D_X12_terms 7 rfl) cw_RX12_125 rfl rfl (Nat.le_of_ble_eq_true rfl) hd1 (zk k) (zk n) (S_X12_in (inR_L h2) ⟨by decide, by decide⟩ ⟨by decide, by decide⟩ (by omega) ?_) (kI (fun _ _ h => h))
  show X G Y_X12_terms d k n 14 [vA 67, vI x1, vI x2, vU] [vI (if ((0 : Int) ≤ x1) ∧ (x1 ≤ (2 : Int)) then 1 else 0)] M1 Q
  refine x_if_eqB (tgt := 54) (dA D_X12_terms 8 rfl) (by decide) ⟨fun c => ?_, fun c => ?_⟩
  · have h := h.1 c
    exact h
  · have h := h.2 c
    refine x_iload_n (dA D_X12_terms 9 rfl) rfl ?_
    obtain ⟨h3, h⟩ := h
    refine x_i2l (dA D_X12_terms 10 rfl) h3 ?_
    refine x_lconst (a := 0) (dA D_X12_terms 11 rfl) (by decide) ?_
    refine x_iload_n (dA D_X12_terms 12 rfl) rfl ?_
    have hJ : X G Y_X12_terms d k n 44 [vA 67, vI x1, vI x2, vU] [vL (if x1 ≠ 0 then (if x1 ≠ 1 then 300 else 99) else 9), vL 0, vL x2] M1 Q := by
      obtain ⟨h13, h⟩ := h
      refine x_callS [vL x2, vL 0, vL (if x1 ≠ 0 then (if x1 ≠ 1 then 300 else 99) else 9)] [] (dA D_X12_terms 22 rfl) cw_RX12_125 rfl rfl (Nat.le_of_ble_eq_true rfl) hd1 (zk k) (zk n) (S_X12_in (inR_L h3) ⟨by decide, by decide⟩ h13 (by omega) ?_) (kI (fun _ _ h => h))
      show X G Y_X12_terms d k n 47 [vA 67, vI x1, vI x2, vU] [vI (if ((0 : Int) ≤ x2) ∧ (x2 ≤ (if x1 ≠ 0 then (if x1 ≠ 1 then 300 else 99) else 9)) then 1 else 0)] M1 Q
      refine x_if_eqB (tgt := 54) (dA D_X12_terms 23 rfl) (by decide) ⟨fun c => ?_, fun c => ?_⟩
      · have h := h.1 c
        exact h
      · have h := h.2 c
        refine x_iconst (dA D_X12_terms 24 rfl) ?_
        refine x_goto (tgt := 55) (dA D_X12_terms 25 rfl) (by decide) ?_
        refine x_istore_n (xs' := [vA 67, vI x1, vI x2, vI 1]) (dA D_X12_terms 27 rfl) (by decide) rfl ?_
        refine x_iload_n (dA D_X12_terms 28 rfl) rfl ?_
        refine x_if_eqP (tgt := 72) (dA D_X12_terms 29 rfl) (by decide) ⟨by decide, by decide⟩ ⟨fun c => ?_, fun c => ?_⟩
        · exact absurd c (by decide)
        · skip
          refine x_aload_n (dA D_X12_terms 30 rfl) rfl ?_
          refine x_bipush (dA D_X12_terms 31 rfl) (by decide) (by decide) ?_
          refine x_iload_n (dA D_X12_terms 32 rfl) rfl ?_
          refine x_iadd (dA D_X12_terms 33 rfl) ?_
          refine x_iload_n (dA D_X12_terms 34 rfl) rfl ?_
          refine x_callV 11 [vI (40 + x1), vI x2] [] (dA D_X12_terms 35 rfl) cw_RX12_154 rfl rfl (Nat.le_of_ble_eq_true rfl) (by decide) rfl hd1 (zk k) (zk n) (sO_67 hM1) h (kI (fun r15 M14 h => ?_))
          obtain ⟨hM14, h⟩ := h
          refine x_goto (tgt := 77) (dA D_X12_terms 36 rfl) (by decide) ?_
          exact x_ireturn (dA D_X12_terms 40 rfl) rfl h
    refine x_if_neP (tgt := 30) (dA D_X12_terms 13 rfl) (by decide) h2 ⟨fun c4 => ?_, fun c4 => ?_⟩
    · refine x_iload_n (dA D_X12_terms 16 rfl) rfl ?_
      refine x_iconst (dA D_X12_terms 17 rfl) ?_
      refine x_icmp_neP (tgt := 41) (dA D_X12_terms 18 rfl) (by decide) h2 ⟨by decide, by decide⟩ ⟨fun c7 => ?_, fun c7 => ?_⟩
      · refine x_ldc2 (a := 300) (dA D_X12_terms 21 rfl) kl_RX12_166 (by decide) ?_
        rw [if_pos c4, if_pos c7] at hJ
        exact hJ
      · refine x_ldc2 (a := 99) (dA D_X12_terms 19 rfl) kl_RX12_164 (by decide) ?_
        refine x_goto (tgt := 44) (dA D_X12_terms 20 rfl) (by decide) ?_
        rw [if_pos c4, if_neg (by first | omega | grind)] at hJ
        exact hJ
    · refine x_ldc2 (a := 9) (dA D_X12_terms 14 rfl) kl_RX12_160 (by decide) ?_
      refine x_goto (tgt := 44) (dA D_X12_terms 15 rfl) (by decide) ?_
      rw [if_neg (by first | omega | grind)] at hJ
      exact hJ
theorem C_X12_terms {G : GG} {d : Nat} {x1 x2 : Int} {M : MM} {Q : PV → MM → Prop} (h : X G Y_X12_terms d 0 0 0 [vA 67, vI x1, vI x2, vU] [] M Q) : C G Y_X12_terms d 0 0 [vA 67, vI x1, vI x2] M Q := X.entry (by decide) (Nat.le_of_ble_eq_true rfl) rfl rfl rfl h
set_option maxRecDepth 100000 in
theorem B_X12_terms_54 {G : GG} {d : Nat} {k n : Nat} {x1 x2 : Int} {M : MM} {Q : PV → MM → Prop} (hd : 2 ≤ d) (hS : Sh M) (h : ∀ M1, M1 = telM M (-1 : Int) → Sh M1 → Q (vI (-1 : Int)) M1) : X G Y_X12_terms d k n 54 [vA 67, vI x1, vI x2, vU] [] M Q := by
  have hd1 : 1 ≤ d := by omega
  refine x_iconst (dA D_X12_terms 26 rfl) ?_
  refine x_istore_n (xs' := [vA 67, vI x1, vI x2, vI 0]) (dA D_X12_terms 27 rfl) (by decide) rfl ?_
  refine x_iload_n (dA D_X12_terms 28 rfl) rfl ?_
  refine x_if_eqP (tgt := 72) (dA D_X12_terms 29 rfl) (by decide) ⟨by decide, by decide⟩ ⟨fun c => ?_, fun c => ?_⟩
  · skip
    refine x_aload_n (dA D_X12_terms 37 rfl) rfl ?_
    refine x_iconst (dA D_X12_terms 38 rfl) ?_
    refine x_callV 11 [vI (-1)] [] (dA D_X12_terms 39 rfl) cw_RX12_129 rfl rfl (Nat.le_of_ble_eq_true rfl) (by decide) rfl hd1 (zk k) (zk n) (sO_67 hS) (S_X12_tell hS ⟨by decide, by decide, by decide⟩ (by omega) ?_) (kI (fun _ _ h => h))
    refine x_nmM (fun M1 eM1 => ?_)
    have hM1 : Sh M1 := eM1 ▸ (sTel hS)
    have h := h M1 eM1 hM1
    show X G Y_X12_terms d k n 77 [vA 67, vI x1, vI x2, vI 0] [vI (-1 : Int)] M1 Q
    exact x_ireturn (dA D_X12_terms 40 rfl) rfl h
  · exact absurd (by decide) c
set_option maxRecDepth 100000 in
theorem B_X11_tear_0 {G : GG} {d : Nat} {k n : Nat} {M : MM} {Q : PV → MM → Prop} (hd : 2 ≤ d) (hS : Sh M) (h : ∀ v1, v1 = rd M 1 12 → ∀ M2, M2 = wr M 1 12 0 → Sh M2 → ∀ M3, M3 = wr M2 39 4 0 → Sh M3 → Q (vI v1) M3) : X G Y_X11_tear d k n 0 [vA 0, vU] [] M Q := by
  have hd1 : 1 ≤ d := by omega
  refine x_aload_n (dA D_X11_tear 0 rfl) rfl ?_
  refine x_get (v := vA 1) (dA D_X11_tear 1 rfl) fw_RX11_12 (sO_0 hS) (congrArg (rfV G) (sR_0_0 hS)) ?_
  refine x_get (v := vI (rd M 1 12)) (dA D_X11_tear 2 rfl) fw_RX11_201 (sO_1 hS) rfl ?_
  refine x_nmI (fun v1 ev1 => ?_)
  have h := h v1 ev1
  refine x_istore_n (xs' := [vA 0, vI v1]) (dA D_X11_tear 3 rfl) (by decide) rfl ?_
  refine x_aload_n (dA D_X11_tear 4 rfl) rfl ?_
  refine x_get (v := vA 1) (dA D_X11_tear 5 rfl) fw_RX11_12 (sO_0 hS) (congrArg (rfV G) (sR_0_0 hS)) ?_
  refine x_iconst (dA D_X11_tear 6 rfl) ?_
  refine x_put (x := 0) (dA D_X11_tear 7 rfl) fw_RX11_201 (fun _ _ hc => by cases hc; exact Or.inl rfl) (sO_1 hS) rfl rfl rfl ?_
  refine x_nmM (fun M2 eM2 => ?_)
  have hM2 : Sh M2 := eM2 ▸ (sW_1_12 hS)
  have h := h M2 eM2 hM2
  refine x_aload_n (dA D_X11_tear 8 rfl) rfl ?_
  refine x_get (v := vA 39) (dA D_X11_tear 9 rfl) fw_RX11_79 (sO_0 hM2) (congrArg (rfV G) (sR_0_12 hM2)) ?_
  refine x_callV 5 [] [] (dA D_X11_tear 10 rfl) cw_RX11_207 rfl rfl (Nat.le_of_ble_eq_true rfl) (by decide) rfl hd1 (zk k) (zk n) (sO_39 hM2) (S_X6_bookChanged hM2  (by omega) ?_) (kU (fun _ h => h))
  refine x_nmM (fun M3 eM3 => ?_)
  have hM3 : Sh M3 := eM3 ▸ (sW_39_4 hM2)
  have h := h M3 eM3 hM3
  show X G Y_X11_tear d k n 23 [vA 0, vI v1] [] M3 Q
  refine x_iload_n (dA D_X11_tear 11 rfl) rfl ?_
  exact x_ireturn (dA D_X11_tear 12 rfl) rfl h
theorem C_X11_tear {G : GG} {d : Nat} {M : MM} {Q : PV → MM → Prop} (h : X G Y_X11_tear d 0 0 0 [vA 0, vU] [] M Q) : C G Y_X11_tear d 0 0 [vA 0] M Q := X.entry (by decide) (Nat.le_of_ble_eq_true rfl) rfl rfl rfl h
set_option maxRecDepth 100000 in
theorem B_X12_tear_0 {G : GG} {d : Nat} {k n : Nat} {M : MM} {Q : PV → MM → Prop} (hd : 1 ≤ d) (hS : Sh M) (h : ∀ M1, M1 = wr M 67 0 0 → Sh M1 → ∀ v2, v2 = rd M1 69 3 → ∀ M3, M3 = wr M1 69 3 0 → Sh M3 → Q (vI v2) M3) : X G Y_X12_tear d k n 0 [vA 67, vU] [] M Q := by
  have hd1 : 1 ≤ d := by omega
  refine x_aload_n (dA D_X12_tear 0 rfl) rfl ?_
  refine x_iconst (dA D_X12_tear 1 rfl) ?_
  refine x_put (x := 0) (dA D_X12_tear 2 rfl) fw_RX12_115 (fun _ _ hc => by cases hc; exact Or.inl rfl) (sO_67 hS) rfl rfl rfl ?_
  refine x_nmM (fun M1 eM1 => ?_)
  have hM1 : Sh M1 := eM1 ▸ (sW_67_0 hS)
  have h := h M1 eM1 hM1
  refine x_aload_n (dA D_X12_tear 3 rfl) rfl ?_
  refine x_get (v := vA 69) (dA D_X12_tear 4 rfl) fw_RX12_13 (sO_67 hM1) (congrArg (rfV G) (sR_67_3 hM1)) ?_
  refine x_iconst (dA D_X12_tear 5 rfl) ?_
  refine x_iald (dA D_X12_tear 6 rfl) (sA_69 hM1 (by decide) (by decide)) ?_
  refine x_nmI (fun v2 ev2 => ?_)
  have h := h v2 ev2
  refine x_istore_n (xs' := [vA 67, vI v2]) (dA D_X12_tear 7 rfl) (by decide) rfl ?_
  refine x_aload_n (dA D_X12_tear 8 rfl) rfl ?_
  refine x_get (v := vA 69) (dA D_X12_tear 9 rfl) fw_RX12_13 (sO_67 hM1) (congrArg (rfV G) (sR_67_3 hM1)) ?_
  refine x_iconst (dA D_X12_tear 10 rfl) ?_
  refine x_iconst (dA D_X12_tear 11 rfl) ?_
  refine x_iast (dA D_X12_tear 12 rfl) (sA_69 hM1 (by decide) (by decide)) ?_
  refine x_nmM (fun M3 eM3 => ?_)
  have hM3 : Sh M3 := eM3 ▸ (sW_69 hM1)
  have h := h M3 eM3 hM3
  refine x_iload_n (dA D_X12_tear 13 rfl) rfl ?_
  exact x_ireturn (dA D_X12_tear 14 rfl) rfl h
theorem C_X12_tear {G : GG} {d : Nat} {M : MM} {Q : PV → MM → Prop} (h : X G Y_X12_tear d 0 0 0 [vA 67, vU] [] M Q) : C G Y_X12_tear d 0 0 [vA 67] M Q := X.entry (by decide) (Nat.le_of_ble_eq_true rfl) rfl rfl rfl h
set_option maxRecDepth 100000 in
theorem B_X12_heads_0 {G : GG} {d : Nat} {k n : Nat} {x1 : Int} {M : MM} {Q : PV → MM → Prop} (hd : 2 ≤ d) (hS : Sh M) (h : ∀ M1, M1 = wr M 67 0 0 → Sh M1 → inR x1 ∧ ((((0 : Int) ≤ x1) ∧ (x1 ≤ (10 : Int)) → ∀ M3, M3 = wr M1 69 5 x1 → Sh M3 → ∀ M4, M4 = wr M3 69 4 0 → Sh M4 → ∀ M5, M5 = telM M4 (0 : Int) → Sh M5 → Q (vI (0 : Int)) M5) ∧ (¬ (((0 : Int) ≤ x1) ∧ (x1 ≤ (10 : Int))) → ∀ M6, M6 = telM M1 (-1 : Int) → Sh M6 → Q (vI (-1 : Int)) M6))) : X G Y_X12_heads d k n 0 [vA 67, vI x1] [] M Q := by
  have hd1 : 1 ≤ d := by omega
  refine x_aload_n (dA D_X12_heads 0 rfl) rfl ?_
  refine x_iconst (dA D_X12_heads 1 rfl) ?_
  refine x_put (x := 0) (dA D_X12_heads 2 rfl) fw_RX12_115 (fun _ _ hc => by cases hc; exact Or.inl rfl) (sO_67 hS) rfl rfl rfl ?_
  refine x_nmM (fun M1 eM1 => ?_)
  have hM1 : Sh M1 := eM1 ▸ (sW_67_0 hS)
  have h := h M1 eM1 hM1
  refine x_iload_n (dA D_X12_heads 3 rfl) rfl ?_
  obtain ⟨h2, h⟩ := h
  refine x_i2l (dA D_X12_heads 4 rfl) h2 ?_
  refine x_lconst (a := 0) (dA D_X12_heads 5 rfl) (by decide) ?_
  refine x_ldc2 (a := 10) (dA D_X12_heads 6 rfl) kl_RX12_212 (by decide) ?_
  refine x_callS [vL x1, vL 0, vL 10] [] (dA D_X12_heads 7 rfl) cw_RX12_125 rfl rfl (Nat.le_of_ble_eq_true rfl) hd1 (zk k) (zk n) (S_X12_in (inR_L h2) ⟨by decide, by decide⟩ ⟨by decide, by decide⟩ (by omega) ?_) (kI (fun _ _ h => h))
  show X G Y_X12_heads d k n 14 [vA 67, vI x1] [vI (if ((0 : Int) ≤ x1) ∧ (x1 ≤ (10 : Int)) then 1 else 0)] M1 Q
  refine x_if_neB (tgt := 23) (dA D_X12_heads 8 rfl) (by decide) ⟨fun c => ?_, fun c => ?_⟩
  · have h := h.1 c
    refine x_aload_n (dA D_X12_heads 13 rfl) rfl ?_
    refine x_get (v := vA 69) (dA D_X12_heads 14 rfl) fw_RX12_13 (sO_67 hM1) (congrArg (rfV G) (sR_67_3 hM1)) ?_
    refine x_iconst (dA D_X12_heads 15 rfl) ?_
    refine x_iload_n (dA D_X12_heads 16 rfl) rfl ?_
    refine x_iast (dA D_X12_heads 17 rfl) (sA_69 hM1 (by decide) (by decide)) ?_
    refine x_nmM (fun M3 eM3 => ?_)
    have hM3 : Sh M3 := eM3 ▸ (sW_69 hM1)
    have h := h M3 eM3 hM3
    refine x_aload_n (dA D_X12_heads 18 rfl) rfl ?_
    refine x_get (v := vA 69) (dA D_X12_heads 19 rfl) fw_RX12_13 (sO_67 hM3) (congrArg (rfV G) (sR_67_3 hM3)) ?_
    refine x_iconst (dA D_X12_heads 20 rfl) ?_
    refine x_iconst (dA D_X12_heads 21 rfl) ?_
    refine x_iast (dA D_X12_heads 22 rfl) (sA_69 hM3 (by decide) (by decide)) ?_
    refine x_nmM (fun M4 eM4 => ?_)
    have hM4 : Sh M4 := eM4 ▸ (sW_69 hM3)
    have h := h M4 eM4 hM4
    refine x_aload_n (dA D_X12_heads 23 rfl) rfl ?_
    refine x_iconst (dA D_X12_heads 24 rfl) ?_
    refine x_callV 11 [vI 0] [] (dA D_X12_heads 25 rfl) cw_RX12_129 rfl rfl (Nat.le_of_ble_eq_true rfl) (by decide) rfl hd1 (zk k) (zk n) (sO_67 hM4) (S_X12_tell hM4 ⟨by decide, by decide, by decide⟩ (by omega) ?_) (kI (fun _ _ h => h))
    refine x_nmM (fun M5 eM5 => ?_)
    have hM5 : Sh M5 := eM5 ▸ (sTel hM4)
    have h := h M5 eM5 hM5
    show X G Y_X12_heads d k n 42 [vA 67, vI x1] [vI (0 : Int)] M5 Q
    exact x_ireturn (dA D_X12_heads 26 rfl) rfl h
  · have h := h.2 c
    refine x_aload_n (dA D_X12_heads 9 rfl) rfl ?_
    refine x_iconst (dA D_X12_heads 10 rfl) ?_
    refine x_callV 11 [vI (-1)] [] (dA D_X12_heads 11 rfl) cw_RX12_129 rfl rfl (Nat.le_of_ble_eq_true rfl) (by decide) rfl hd1 (zk k) (zk n) (sO_67 hM1) (S_X12_tell hM1 ⟨by decide, by decide, by decide⟩ (by omega) ?_) (kI (fun _ _ h => h))
    refine x_nmM (fun M6 eM6 => ?_)
    have hM6 : Sh M6 := eM6 ▸ (sTel hM1)
    have h := h M6 eM6 hM6
    show X G Y_X12_heads d k n 22 [vA 67, vI x1] [vI (-1 : Int)] M6 Q
    exact x_ireturn (dA D_X12_heads 12 rfl) rfl h
theorem C_X12_heads {G : GG} {d : Nat} {x1 : Int} {M : MM} {Q : PV → MM → Prop} (h : X G Y_X12_heads d 0 0 0 [vA 67, vI x1] [] M Q) : C G Y_X12_heads d 0 0 [vA 67, vI x1] M Q := X.entry (by decide) (Nat.le_of_ble_eq_true rfl) rfl rfl rfl h
set_option maxRecDepth 100000 in
theorem B_X11_heads_0 {G : GG} {d : Nat} {k n : Nat} {x1 : Int} {M : MM} {Q : PV → MM → Prop} (hd : 2 ≤ d) (hS : Sh M) (h : inR x1 ∧ ((((x1 < 0) ∨ (10 < x1)) → ∀ M10, M10 = refM M (-1 : Int) → Sh M10 → Q (vI (-1 : Int)) M10) ∧ (¬ ((x1 < 0) ∨ (10 < x1)) → ∀ M11, M11 = wr M 1 13 1 → Sh M11 → ∀ M12, M12 = wr M11 11 0 x1 → Sh M12 → ∀ M13, M13 = wr M12 1 16 0 → Sh M13 → ∀ M14, M14 = accM M13 → Sh M14 → Q (vI (0 : Int)) M14))) : X G Y_X11_heads d k n 0 [vA 0, vI x1] [] M Q := by
  have hd1 : 1 ≤ d := by omega
  refine x_iload_n (dA D_X11_heads 0 rfl) rfl ?_
  obtain ⟨h2, h⟩ := h
  have hA : ((x1 < 0) ∨ (10 < x1)) → X G Y_X11_heads d k n 10 [vA 0, vI x1] [] M Q := by
    intro c15
    have h := h.1 c15
    refine x_aload_n (dA D_X11_heads 5 rfl) rfl ?_
    refine x_iconst (dA D_X11_heads 6 rfl) ?_
    refine x_callV 10 [vI (-1)] [] (dA D_X11_heads 7 rfl) cw_RX11_104 rfl rfl (Nat.le_of_ble_eq_true rfl) (by decide) rfl hd1 (zk k) (zk n) (sO_0 hS) (S_X11_refuse hS ⟨by decide, by decide, by decide, by decide⟩ (by omega) ?_) (kI (fun _ _ h => h))
    refine x_nmM (fun M10 eM10 => ?_)
    have hM10 : Sh M10 := eM10 ▸ (sRef hS)
    have h := h M10 eM10 hM10
    show X G Y_X11_heads d k n 15 [vA 0, vI x1] [vI (-1 : Int)] M10 Q
    exact x_ireturn (dA D_X11_heads 8 rfl) rfl h
  have hB : ¬ ((x1 < 0) ∨ (10 < x1)) → X G Y_X11_heads d k n 16 [vA 0, vI x1] [] M Q := by
    intro c15
    have h := h.2 c15
    refine x_aload_n (dA D_X11_heads 9 rfl) rfl ?_
    refine x_get (v := vA 1) (dA D_X11_heads 10 rfl) fw_RX11_12 (sO_0 hS) (congrArg (rfV G) (sR_0_0 hS)) ?_
    refine x_iconst (dA D_X11_heads 11 rfl) ?_
    refine x_put (x := 1) (dA D_X11_heads 12 rfl) fw_RX11_266 (fun _ _ hc => by cases hc; exact Or.inl rfl) (sO_1 hS) rfl (z_nar (by decide)) (z_fit (by decide)) ?_
    refine x_nmM (fun M11 eM11 => ?_)
    have hM11 : Sh M11 := eM11 ▸ (sW_1_13 hS)
    have h := h M11 eM11 hM11
    refine x_aload_n (dA D_X11_heads 13 rfl) rfl ?_
    refine x_get (v := vA 1) (dA D_X11_heads 14 rfl) fw_RX11_12 (sO_0 hM11) (congrArg (rfV G) (sR_0_0 hM11)) ?_
    refine x_get (v := vA 11) (dA D_X11_heads 15 rfl) fw_RX11_270 (sO_1 hM11) (congrArg (rfV G) (sR_1_14 hM11)) ?_
    refine x_iconst (dA D_X11_heads 16 rfl) ?_
    refine x_iload_n (dA D_X11_heads 17 rfl) rfl ?_
    refine x_iast (dA D_X11_heads 18 rfl) (sA_11 hM11 (by decide) (by decide)) ?_
    refine x_nmM (fun M12 eM12 => ?_)
    have hM12 : Sh M12 := eM12 ▸ (sW_11 hM11)
    have h := h M12 eM12 hM12
    refine x_aload_n (dA D_X11_heads 19 rfl) rfl ?_
    refine x_get (v := vA 1) (dA D_X11_heads 20 rfl) fw_RX11_12 (sO_0 hM12) (congrArg (rfV G) (sR_0_0 hM12)) ?_
    refine x_iconst (dA D_X11_heads 21 rfl) ?_
    refine x_put (x := 0) (dA D_X11_heads 22 rfl) fw_RX11_273 (fun _ _ hc => by cases hc; exact Or.inl rfl) (sO_1 hM12) rfl rfl rfl ?_
    refine x_nmM (fun M13 eM13 => ?_)
    have hM13 : Sh M13 := eM13 ▸ (sW_1_16 hM12)
    have h := h M13 eM13 hM13
    refine x_aload_n (dA D_X11_heads 23 rfl) rfl ?_
    refine x_iconst (dA D_X11_heads 24 rfl) ?_
    refine x_callV 10 [vI 0] [] (dA D_X11_heads 25 rfl) cw_RX11_118 rfl rfl (Nat.le_of_ble_eq_true rfl) (by decide) rfl hd1 (zk k) (zk n) (sO_0 hM13) (S_X11_accept hM13  (by omega) ?_) (kI (fun _ _ h => h))
    refine x_nmM (fun M14 eM14 => ?_)
    have hM14 : Sh M14 := eM14 ▸ (sW_0_7 hM13)
    have h := h M14 eM14 hM14
    show X G Y_X11_heads d k n 47 [vA 0, vI x1] [vI (0 : Int)] M14 Q
    exact x_ireturn (dA D_X11_heads 26 rfl) rfl h
  refine x_if_ltP (tgt := 10) (dA D_X11_heads 1 rfl) (by decide) h2 ⟨fun c1 => ?_, fun c1 => ?_⟩
  · exact hA (by first | omega | grind)
  · refine x_iload_n (dA D_X11_heads 2 rfl) rfl ?_
    refine x_bipush (dA D_X11_heads 3 rfl) (by decide) (by decide) ?_
    refine x_icmp_leP (tgt := 16) (dA D_X11_heads 4 rfl) (by decide) h2 ⟨by decide, by decide⟩ ⟨fun c5 => ?_, fun c5 => ?_⟩
    · exact hB (by first | omega | grind)
    · exact hA (by first | omega | grind)
theorem C_X11_heads {G : GG} {d : Nat} {x1 : Int} {M : MM} {Q : PV → MM → Prop} (h : X G Y_X11_heads d 0 0 0 [vA 0, vI x1] [] M Q) : C G Y_X11_heads d 0 0 [vA 0, vI x1] M Q := X.entry (by decide) (Nat.le_of_ble_eq_true rfl) rfl rfl rfl h
