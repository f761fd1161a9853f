set_option maxRecDepth 100000 in
theorem B_X8_told_0 {G : GG} {d : Nat} {k n : Nat} {x1 x2 x3 x4 x5 : Int} {M : MM} {Q : PV → MM → Prop} (hd : 2 ≤ d) (hS : Sh M) (h : inR (rd M 25 6) ∧ (((rd M 25 6) = 0 → X G Y_X8_told d k n 20 [vA 25, vI x1, vI x2, vI x3, vI x4, vI x5, vU, vU, vU, vU, vU, vU] [] M Q) ∧ ((rd M 25 6) ≠ 0 → fill1 M (29 : Int) 20 ∧ ∀ M3, (∃ len : Int, (mT M (29 : Int)).2 = len ∧ Ch M M3 (29 : Int) 0 len.toNat ∧ ∀ i : Int, 0 ≤ i → i < len → rd M3 (29 : Int) i = (0 : Int)) → Sh M3 → ∀ M6, M6 = wr M3 25 6 0 → Sh M6 → X G Y_X8_told d k n 20 [vA 25, vI x1, vI x2, vI x3, vI x4, vI x5, vU, vU, vU, vU, vU, vU] [] M6 Q))) : X G Y_X8_told d k n 0 [vA 25, vI x1, vI x2, vI x3, vI x4, vI x5, vU, vU, vU, vU, vU, vU] [] M Q := by
  have hd1 : 1 ≤ d := by omega
  refine x_aload_n (dA D_X8_told 0 rfl) rfl ?_
  refine x_get (v := vI (rd M 25 6)) (dA D_X8_told 1 rfl) fw_RX8_24 (sO_25 hS) rfl ?_
  obtain ⟨h1, h⟩ := h
  refine x_if_eqP (tgt := 20) (dA D_X8_told 2 rfl) (by decide) h1 ⟨fun c => ?_, fun c => ?_⟩
  · have h := h.1 c
    exact h
  · have h := h.2 c
    refine x_aload_n (dA D_X8_told 3 rfl) rfl ?_
    refine x_get (v := vA 29) (dA D_X8_told 4 rfl) fw_RX8_21 (sO_25 hS) (congrArg (rfV G) (sR_25_5 hS)) ?_
    refine x_iconst (dA D_X8_told 5 rfl) ?_
    obtain ⟨h2, h⟩ := h
    refine x_callS [vA 29, vI 0] [] (dA D_X8_told 6 rfl) cw_RX8_49 rfl rfl (Nat.le_of_ble_eq_true rfl) hd1 (zk k) (zk n) (T_fillI hS h2 (by omega) (fun M3 p5 hM3 => ?_)) (kU (fun _ h => h))
    have h := h M3 p5 hM3
    show X G Y_X8_told d k n 15 [vA 25, vI x1, vI x2, vI x3, vI x4, vI x5, vU, vU, vU, vU, vU, vU] [] M3 Q
    refine x_aload_n (dA D_X8_told 7 rfl) rfl ?_
    refine x_iconst (dA D_X8_told 8 rfl) ?_
    refine x_put (x := 0) (dA D_X8_told 9 rfl) fw_RX8_24 (fun _ _ hc => by cases hc; exact Or.inl rfl) (sO_25 hM3) rfl (z_nar (by decide)) (z_fit (by decide)) ?_
    refine x_nmM (fun M6 eM6 => ?_)
    have hM6 : Sh M6 := eM6 ▸ (sW_25_6 hM3)
    have h := h M6 eM6 hM6
    exact h
theorem C_X8_told {G : GG} {d : Nat} {x1 x2 x3 x4 x5 : Int} {M : MM} {Q : PV → MM → Prop} (h : X G Y_X8_told d 0 0 0 [vA 25, vI x1, vI x2, vI x3, vI x4, vI x5, vU, vU, vU, vU, vU, vU] [] M Q) : C G Y_X8_told d 0 0 [vA 25, vI x1, vI x2, vI x3, vI x4, vI x5] M Q := X.entry (by decide) (Nat.le_of_ble_eq_true rfl) rfl rfl rfl h
set_option maxRecDepth 100000 in
theorem B_X8_told_20 {G : GG} {d : Nat} {k n : Nat} {x1 x2 x3 x4 x5 : Int} {r : Int → Int} {sm : Int → LSm} {M : MM} {Q : PV → MM → Prop} (hd : 5 ≤ d) (hS : Sh M) (h : 0 ≤ (iAnd (iXor x1 (-1)) ((iShl 1 x3) - 1)) ∧ (iAnd (iXor x1 (-1)) ((iShl 1 x3) - 1)) < 32 ∧ ∀ v3, v3 = pop (iAnd (iXor x1 (-1)) ((iShl 1 x3) - 1)) → 0 ≤ (((x1 * 5) + x2) + 1) ∧ (((x1 * 5) + x2) + 1) < 161 ∧ ∀ v6, v6 = (((rd M 26 (((x1 * 5) + x2) + 1)) + v3) * 36) + ((x4 * 6) + x5) → 0 ≤ v6 ∧ v6 < 5940 ∧ inR (rd M 29 v6) ∧ (((rd M 29 v6) ≠ 0 → Q (vI (rd M 29 v6)) M) ∧ ((rd M 29 v6) = 0 → HR M r ∧ RS r ∧ ∀ v12, v12 = mnO r x1 → 0 ≤ x1 ∧ x1 < 32 ∧ ∀ v15, v15 = pop x1 → inR x4 ∧ ((x4 ≤ 0 → X G Y_X8_told d k n 138 [vA 25, vI x1, vI x2, vI x3, vI x4, vI x5, vI v3, vI v6, vI v12, vI v15, vI 0, vI 0] [] M Q) ∧ (0 < x4 → ∀ M17, (Fr KC M M17 ∧ Fc0 M17 = fcts (0 : Int) x3 x2 (x4 + x5) (if (0 : Int) = 0 then x4 else x5) v12 v15) → Sh M17 → COK M17 r sm ∧ FR (Fc0 M17) ∧ (((0 : Int) = 0 ∨ (0 : Int) = 1)) ∧ ∀ r24 M23, (Fr KB M17 M23 ∧ r24 = askV r sm (Fc0 M17) (0 : Int)) → Sh M23 → COK M23 r sm ∧ FR (Fc0 M23) ∧ (((1 : Int) = 0 ∨ (1 : Int) = 1)) ∧ ∀ r30 M29, (Fr KB M23 M29 ∧ r30 = askV r sm (Fc0 M23) (1 : Int)) → Sh M29 → ∀ v32, v32 = x4 * r30 → X G Y_X8_told d k n 138 [vA 25, vI x1, vI x2, vI x3, vI x4, vI x5, vI v3, vI v6, vI v12, vI v15, vI r24, vI v32] [] M29 Q))))) : X G Y_X8_told d k n 20 [vA 25, vI x1, vI x2, vI x3, vI x4, vI x5, vU, vU, vU, vU, vU, vU] [] M Q := by
  have hd1 : 1 ≤ d := by omega
  refine x_iload_n (dA D_X8_told 10 rfl) rfl ?_
  refine x_iconst (dA D_X8_told 11 rfl) ?_
  refine x_ixor (dA D_X8_told 12 rfl) ?_
  refine x_iconst (dA D_X8_told 13 rfl) ?_
  refine x_iload_n (dA D_X8_told 14 rfl) rfl ?_
  refine x_ishl (dA D_X8_told 15 rfl) ?_
  refine x_iconst (dA D_X8_told 16 rfl) ?_
  refine x_isub (dA D_X8_told 17 rfl) ?_
  refine x_iand (dA D_X8_told 18 rfl) ?_
  obtain ⟨h1, h⟩ := h
  obtain ⟨h2, h⟩ := h
  refine x_callS [vI (iAnd (iXor x1 (-1)) ((iShl 1 x3) - 1))] [] (dA D_X8_told 19 rfl) cw_RX8_36 rfl rfl (Nat.le_of_ble_eq_true rfl) hd1 (zk k) (zk n) (S_bitCount h1 h2 (by omega) ?_) (kI (fun _ _ h => h))
  show X G Y_X8_told d k n 32 [vA 25, vI x1, vI x2, vI x3, vI x4, vI x5, vU, vU, vU, vU, vU, vU] [vI (pop (iAnd (iXor x1 (-1)) ((iShl 1 x3) - 1)))] M Q
  refine x_nmI (fun v3 ev3 => ?_)
  have h := h v3 ev3
  refine x_istore (xs' := [vA 25, vI x1, vI x2, vI x3, vI x4, vI x5, vI v3, vU, vU, vU, vU, vU]) (dA D_X8_told 20 rfl) (by decide) rfl ?_
  refine x_aload_n (dA D_X8_told 21 rfl) rfl ?_
  refine x_get (v := vA 26) (dA D_X8_told 22 rfl) fw_RX8_11 (sO_25 hS) (congrArg (rfV G) (sR_25_2 hS)) ?_
  refine x_iload_n (dA D_X8_told 23 rfl) rfl ?_
  refine x_iload_n (dA D_X8_told 24 rfl) rfl ?_
  refine x_callS [vI x1, vI x2] [vA 26] (dA D_X8_told 25 rfl) cw_RX8_42 rfl rfl (Nat.le_of_ble_eq_true rfl) hd1 (zk k) (zk n) (S_X8_nodeOf  (by omega) ?_) (kI (fun _ _ h => h))
  show X G Y_X8_told d k n 43 [vA 25, vI x1, vI x2, vI x3, vI x4, vI x5, vI v3, vU, vU, vU, vU, vU] [vI (((x1 * 5) + x2) + 1), vA 26] M Q
  obtain ⟨h4, h⟩ := h
  obtain ⟨h5, h⟩ := h
  refine x_iald (dA D_X8_told 26 rfl) (sA_26 hS h4 h5) ?_
  refine x_iload (dA D_X8_told 27 rfl) rfl ?_
  refine x_iadd (dA D_X8_told 28 rfl) ?_
  refine x_bipush (dA D_X8_told 29 rfl) (by decide) (by decide) ?_
  refine x_imul (dA D_X8_told 30 rfl) ?_
  refine x_iload (dA D_X8_told 31 rfl) rfl ?_
  refine x_iload (dA D_X8_told 32 rfl) rfl ?_
  refine x_callS [vI x4, vI x5] [vI (((rd M 26 (((x1 * 5) + x2) + 1)) + v3) * 36)] (dA D_X8_told 33 rfl) cw_RX8_55 rfl rfl (Nat.le_of_ble_eq_true rfl) hd1 (zk k) (zk n) (S_X8_crowdOf  (by omega) ?_) (kI (fun _ _ h => h))
  show X G Y_X8_told d k n 57 [vA 25, vI x1, vI x2, vI x3, vI x4, vI x5, vI v3, vU, vU, vU, vU, vU] [vI ((x4 * 6) + x5), vI (((rd M 26 (((x1 * 5) + x2) + 1)) + v3) * 36)] M Q
  refine x_iadd (dA D_X8_told 34 rfl) ?_
  refine x_nmI (fun v6 ev6 => ?_)
  have h := h v6 ev6
  refine x_istore (xs' := [vA 25, vI x1, vI x2, vI x3, vI x4, vI x5, vI v3, vI v6, vU, vU, vU, vU]) (dA D_X8_told 35 rfl) (by decide) rfl ?_
  refine x_aload_n (dA D_X8_told 36 rfl) rfl ?_
  refine x_get (v := vA 29) (dA D_X8_told 37 rfl) fw_RX8_21 (sO_25 hS) (congrArg (rfV G) (sR_25_5 hS)) ?_
  refine x_iload (dA D_X8_told 38 rfl) rfl ?_
  obtain ⟨h7, h⟩ := h
  obtain ⟨h8, h⟩ := h
  refine x_iald (dA D_X8_told 39 rfl) (sA_29 hS h7 h8) ?_
  obtain ⟨h9, h⟩ := h
  refine x_if_neP (tgt := 211) (dA D_X8_told 40 rfl) (by decide) h9 ⟨fun c => ?_, fun c => ?_⟩
  · have h := h.1 c
    refine x_aload_n (dA D_X8_told 118 rfl) rfl ?_
    refine x_get (v := vA 29) (dA D_X8_told 119 rfl) fw_RX8_21 (sO_25 hS) (congrArg (rfV G) (sR_25_5 hS)) ?_
    refine x_iload (dA D_X8_told 120 rfl) rfl ?_
    refine x_iald (dA D_X8_told 121 rfl) (sA_29 hS h7 h8) ?_
    exact x_ireturn (dA D_X8_told 122 rfl) rfl h
  · have h := h.2 c
    refine x_aload_n (dA D_X8_told 41 rfl) rfl ?_
    refine x_get (v := vA 1) (dA D_X8_told 42 rfl) fw_RX8_28 (sO_25 hS) (congrArg (rfV G) (sR_25_0 hS)) ?_
    refine x_iload_n (dA D_X8_told 43 rfl) rfl ?_
    obtain ⟨h10, h⟩ := h
    obtain ⟨h11, h⟩ := h
    refine x_callV 3 [vI x1] [] (dA D_X8_told 44 rfl) cw_RX8_58 rfl rfl (Nat.le_of_ble_eq_true rfl) (by decide) rfl hd1 (zk k) (zk n) (sO_1 hS) (S_X4_minutesOf hS h10 h11 (by omega) ?_) (kI (fun _ _ h => h))
    show X G Y_X8_told d k n 78 [vA 25, vI x1, vI x2, vI x3, vI x4, vI x5, vI v3, vI v6, vU, vU, vU, vU] [vI (mnO r x1)] M Q
    refine x_nmI (fun v12 ev12 => ?_)
    have h := h v12 ev12
    refine x_istore (xs' := [vA 25, vI x1, vI x2, vI x3, vI x4, vI x5, vI v3, vI v6, vI v12, vU, vU, vU]) (dA D_X8_told 45 rfl) (by decide) rfl ?_
    refine x_iload_n (dA D_X8_told 46 rfl) rfl ?_
    obtain ⟨h13, h⟩ := h
    obtain ⟨h14, h⟩ := h
    refine x_callS [vI x1] [] (dA D_X8_told 47 rfl) cw_RX8_36 rfl rfl (Nat.le_of_ble_eq_true rfl) hd1 (zk k) (zk n) (S_bitCount h13 h14 (by omega) ?_) (kI (fun _ _ h => h))
    show X G Y_X8_told d k n 84 [vA 25, vI x1, vI x2, vI x3, vI x4, vI x5, vI v3, vI v6, vI v12, vU, vU, vU] [vI (pop x1)] M Q
    refine x_nmI (fun v15 ev15 => ?_)
    have h := h v15 ev15
    refine x_istore (xs' := [vA 25, vI x1, vI x2, vI x3, vI x4, vI x5, vI v3, vI v6, vI v12, vI v15, vU, vU]) (dA D_X8_told 48 rfl) (by decide) rfl ?_
    refine x_iconst (dA D_X8_told 49 rfl) ?_
    refine x_istore (xs' := [vA 25, vI x1, vI x2, vI x3, vI x4, vI x5, vI v3, vI v6, vI v12, vI v15, vI 0, vU]) (dA D_X8_told 50 rfl) (by decide) rfl ?_
    refine x_iconst (dA D_X8_told 51 rfl) ?_
    refine x_istore (xs' := [vA 25, vI x1, vI x2, vI x3, vI x4, vI x5, vI v3, vI v6, vI v12, vI v15, vI 0, vI 0]) (dA D_X8_told 52 rfl) (by decide) rfl ?_
    refine x_iload (dA D_X8_told 53 rfl) rfl ?_
    obtain ⟨h16, h⟩ := h
    refine x_if_leP (tgt := 138) (dA D_X8_told 54 rfl) (by decide) h16 ⟨fun c => ?_, fun c => ?_⟩
    · have h := h.1 c
      exact h
    · have h := h.2 c
      refine x_aload_n (dA D_X8_told 55 rfl) rfl ?_
      refine x_get (v := vA 22) (dA D_X8_told 56 rfl) fw_RX8_32 (sO_25 hS) (congrArg (rfV G) (sR_25_1 hS)) ?_
      refine x_iconst (dA D_X8_told 57 rfl) ?_
      refine x_iload_n (dA D_X8_told 58 rfl) rfl ?_
      refine x_iload_n (dA D_X8_told 59 rfl) rfl ?_
      refine x_iload (dA D_X8_told 60 rfl) rfl ?_
      refine x_iload (dA D_X8_told 61 rfl) rfl ?_
      refine x_iload (dA D_X8_told 62 rfl) rfl ?_
      refine x_iload (dA D_X8_told 63 rfl) rfl ?_
      refine x_callV 0 [vI 0, vI x3, vI x2, vI x4, vI x5, vI v12, vI v15] [] (dA D_X8_told 64 rfl) cw_RX8_63 rfl rfl (Nat.le_of_ble_eq_true rfl) (by decide) rfl hd1 (zk k) (zk n) (sO_22 hS) (T_X0_about hS ⟨by decide, by decide⟩ (by omega) (fun M17 p19 hM17 => ?_)) (kU (fun _ h => h))
      have h := h M17 p19 hM17
      show X G Y_X8_told d k n 115 [vA 25, vI x1, vI x2, vI x3, vI x4, vI x5, vI v3, vI v6, vI v12, vI v15, vI 0, vI 0] [] M17 Q
      refine x_aload_n (dA D_X8_told 65 rfl) rfl ?_
      refine x_get (v := vA 22) (dA D_X8_told 66 rfl) fw_RX8_32 (sO_25 hM17) (congrArg (rfV G) (sR_25_1 hM17)) ?_
      refine x_iconst (dA D_X8_told 67 rfl) ?_
      obtain ⟨h20, h⟩ := h
      obtain ⟨h21, h⟩ := h
      obtain ⟨h22, h⟩ := h
      refine x_callV 0 [vI 0] [] (dA D_X8_told 68 rfl) cw_RX8_69 rfl rfl (Nat.le_of_ble_eq_true rfl) (by decide) rfl hd1 (zk k) (zk n) (sO_22 hM17) (T_X0_tells hM17 h20 h21 h22 (by omega) (fun r24 M23 p25 hM23 => ?_)) (kI (fun _ _ h => h))
      have h := h r24 M23 p25 hM23
      show X G Y_X8_told d k n 123 [vA 25, vI x1, vI x2, vI x3, vI x4, vI x5, vI v3, vI v6, vI v12, vI v15, vI 0, vI 0] [vI r24] M23 Q
      refine x_istore (xs' := [vA 25, vI x1, vI x2, vI x3, vI x4, vI x5, vI v3, vI v6, vI v12, vI v15, vI r24, vI 0]) (dA D_X8_told 69 rfl) (by decide) rfl ?_
      refine x_iload (dA D_X8_told 70 rfl) rfl ?_
      refine x_aload_n (dA D_X8_told 71 rfl) rfl ?_
      refine x_get (v := vA 22) (dA D_X8_told 72 rfl) fw_RX8_32 (sO_25 hM23) (congrArg (rfV G) (sR_25_1 hM23)) ?_
      refine x_iconst (dA D_X8_told 73 rfl) ?_
      obtain ⟨h26, h⟩ := h
      obtain ⟨h27, h⟩ := h
      obtain ⟨h28, h⟩ := h
      refine x_callV 0 [vI 1] [vI x4] (dA D_X8_told 74 rfl) cw_RX8_69 rfl rfl (Nat.le_of_ble_eq_true rfl) (by decide) rfl hd1 (zk k) (zk n) (sO_22 hM23) (T_X0_tells hM23 h26 h27 h28 (by omega) (fun r30 M29 p31 hM29 => ?_)) (kI (fun _ _ h => h))
      have h := h r30 M29 p31 hM29
      show X G Y_X8_told d k n 135 [vA 25, vI x1, vI x2, vI x3, vI x4, vI x5, vI v3, vI v6, vI v12, vI v15, vI r24, vI 0] [vI r30, vI x4] M29 Q
      refine x_imul (dA D_X8_told 75 rfl) ?_
      refine x_nmI (fun v32 ev32 => ?_)
      have h := h v32 ev32
      refine x_istore (xs' := [vA 25, vI x1, vI x2, vI x3, vI x4, vI x5, vI v3, vI v6, vI v12, vI v15, vI r24, vI v32]) (dA D_X8_told 76 rfl) (by decide) rfl ?_
      exact h
set_option maxRecDepth 100000 in
theorem B_X8_told_138 {G : GG} {d : Nat} {k n : Nat} {x1 x2 x3 x4 x5 x6 x7 x8 x9 x10 x11 : Int} {r : Int → Int} {sm : Int → LSm} {M : MM} {Q : PV → MM → Prop} (hd : 5 ≤ d) (hS : Sh M) (h : inR x5 ∧ ((x5 ≤ 0 → X G Y_X8_told d k n 193 [vA 25, vI x1, vI x2, vI x3, vI x4, vI x5, vI x6, vI x7, vI x8, vI x9, vI x10, vI x11] [] M Q) ∧ (0 < x5 → ∀ M2, (Fr KC M M2 ∧ Fc0 M2 = fcts (1 : Int) x3 x2 (x4 + x5) (if (1 : Int) = 0 then x4 else x5) x8 x9) → Sh M2 → COK M2 r sm ∧ FR (Fc0 M2) ∧ (((0 : Int) = 0 ∨ (0 : Int) = 1)) ∧ ∀ r9 M8, (Fr KB M2 M8 ∧ r9 = askV r sm (Fc0 M2) (0 : Int)) → Sh M8 → ∀ v11, v11 = iOr x10 (iShl r9 8) → COK M8 r sm ∧ FR (Fc0 M8) ∧ (((1 : Int) = 0 ∨ (1 : Int) = 1)) ∧ ∀ r16 M15, (Fr KB M8 M15 ∧ r16 = askV r sm (Fc0 M8) (1 : Int)) → Sh M15 → ∀ v18, v18 = x11 + (x5 * r16) → X G Y_X8_told d k n 193 [vA 25, vI x1, vI x2, vI x3, vI x4, vI x5, vI x6, vI x7, vI x8, vI x9, vI v11, vI v18] [] M15 Q))) : X G Y_X8_told d k n 138 [vA 25, vI x1, vI x2, vI x3, vI x4, vI x5, vI x6, vI x7, vI x8, vI x9, vI x10, vI x11] [] M Q := by
  have hd1 : 1 ≤ d := by omega
  refine x_iload (dA D_X8_told 77 rfl) rfl ?_
  obtain ⟨h1, h⟩ := h
  refine x_if_leP (tgt := 193) (dA D_X8_told 78 rfl) (by decide) h1 ⟨fun c => ?_, fun c => ?_⟩
  · have h := h.1 c
    exact h
  · have h := h.2 c
    refine x_aload_n (dA D_X8_told 79 rfl) rfl ?_
    refine x_get (v := vA 22) (dA D_X8_told 80 rfl) fw_RX8_32 (sO_25 hS) (congrArg (rfV G) (sR_25_1 hS)) ?_
    refine x_iconst (dA D_X8_told 81 rfl) ?_
    refine x_iload_n (dA D_X8_told 82 rfl) rfl ?_
    refine x_iload_n (dA D_X8_told 83 rfl) rfl ?_
    refine x_iload (dA D_X8_told 84 rfl) rfl ?_
    refine x_iload (dA D_X8_told 85 rfl) rfl ?_
    refine x_iload (dA D_X8_told 86 rfl) rfl ?_
    refine x_iload (dA D_X8_told 87 rfl) rfl ?_
    refine x_callV 0 [vI 1, vI x3, vI x2, vI x4, vI x5, vI x8, vI x9] [] (dA D_X8_told 88 rfl) cw_RX8_63 rfl rfl (Nat.le_of_ble_eq_true rfl) (by decide) rfl hd1 (zk k) (zk n) (sO_22 hS) (T_X0_about hS ⟨by decide, by decide⟩ (by omega) (fun M2 p4 hM2 => ?_)) (kU (fun _ h => h))
    have h := h M2 p4 hM2
    show X G Y_X8_told d k n 161 [vA 25, vI x1, vI x2, vI x3, vI x4, vI x5, vI x6, vI x7, vI x8, vI x9, vI x10, vI x11] [] M2 Q
    refine x_iload (dA D_X8_told 89 rfl) rfl ?_
    refine x_aload_n (dA D_X8_told 90 rfl) rfl ?_
    refine x_get (v := vA 22) (dA D_X8_told 91 rfl) fw_RX8_32 (sO_25 hM2) (congrArg (rfV G) (sR_25_1 hM2)) ?_
    refine x_iconst (dA D_X8_told 92 rfl) ?_
    obtain ⟨h5, h⟩ := h
    obtain ⟨h6, h⟩ := h
    obtain ⟨h7, h⟩ := h
    refine x_callV 0 [vI 0] [vI x10] (dA D_X8_told 93 rfl) cw_RX8_69 rfl rfl (Nat.le_of_ble_eq_true rfl) (by decide) rfl hd1 (zk k) (zk n) (sO_22 hM2) (T_X0_tells hM2 h5 h6 h7 (by omega) (fun r9 M8 p10 hM8 => ?_)) (kI (fun _ _ h => h))
    have h := h r9 M8 p10 hM8
    show X G Y_X8_told d k n 171 [vA 25, vI x1, vI x2, vI x3, vI x4, vI x5, vI x6, vI x7, vI x8, vI x9, vI x10, vI x11] [vI r9, vI x10] M8 Q
    refine x_bipush (dA D_X8_told 94 rfl) (by decide) (by decide) ?_
    refine x_ishl (dA D_X8_told 95 rfl) ?_
    refine x_ior (dA D_X8_told 96 rfl) ?_
    refine x_nmI (fun v11 ev11 => ?_)
    have h := h v11 ev11
    refine x_istore (xs' := [vA 25, vI x1, vI x2, vI x3, vI x4, vI x5, vI x6, vI x7, vI x8, vI x9, vI v11, vI x11]) (dA D_X8_told 97 rfl) (by decide) rfl ?_
    refine x_iload (dA D_X8_told 98 rfl) rfl ?_
    refine x_iload (dA D_X8_told 99 rfl) rfl ?_
    refine x_aload_n (dA D_X8_told 100 rfl) rfl ?_
    refine x_get (v := vA 22) (dA D_X8_told 101 rfl) fw_RX8_32 (sO_25 hM8) (congrArg (rfV G) (sR_25_1 hM8)) ?_
    refine x_iconst (dA D_X8_told 102 rfl) ?_
    obtain ⟨h12, h⟩ := h
    obtain ⟨h13, h⟩ := h
    obtain ⟨h14, h⟩ := h
    refine x_callV 0 [vI 1] [vI x5, vI x11] (dA D_X8_told 103 rfl) cw_RX8_69 rfl rfl (Nat.le_of_ble_eq_true rfl) (by decide) rfl hd1 (zk k) (zk n) (sO_22 hM8) (T_X0_tells hM8 h12 h13 h14 (by omega) (fun r16 M15 p17 hM15 => ?_)) (kI (fun _ _ h => h))
    have h := h r16 M15 p17 hM15
    show X G Y_X8_told d k n 189 [vA 25, vI x1, vI x2, vI x3, vI x4, vI x5, vI x6, vI x7, vI x8, vI x9, vI v11, vI x11] [vI r16, vI x5, vI x11] M15 Q
    refine x_imul (dA D_X8_told 104 rfl) ?_
    refine x_iadd (dA D_X8_told 105 rfl) ?_
    refine x_nmI (fun v18 ev18 => ?_)
    have h := h v18 ev18
    refine x_istore (xs' := [vA 25, vI x1, vI x2, vI x3, vI x4, vI x5, vI x6, vI x7, vI x8, vI x9, vI v11, vI v18]) (dA D_X8_told 106 rfl) (by decide) rfl ?_
    exact h
set_option maxRecDepth 100000 in
theorem B_X8_told_193 {G : GG} {d : Nat} {k n : Nat} {x1 x2 x3 x4 x5 x6 x7 x8 x9 x10 x11 : Int} {M : MM} {Q : PV → MM → Prop} (hd : 1 ≤ d) (hS : Sh M) (h : 0 ≤ x7 ∧ x7 < 5940 ∧ ∀ M3, M3 = wr M 29 x7 (iOr (iOr 1073741824 (iShl x11 16)) x10) → Sh M3 → Q (vI (rd M3 29 x7)) M3) : X G Y_X8_told d k n 193 [vA 25, vI x1, vI x2, vI x3, vI x4, vI x5, vI x6, vI x7, vI x8, vI x9, vI x10, vI x11] [] M Q := by
  have hd1 : 1 ≤ d := by omega
  refine x_aload_n (dA D_X8_told 107 rfl) rfl ?_
  refine x_get (v := vA 29) (dA D_X8_told 108 rfl) fw_RX8_21 (sO_25 hS) (congrArg (rfV G) (sR_25_5 hS)) ?_
  refine x_iload (dA D_X8_told 109 rfl) rfl ?_
  refine x_ldc (a := 1073741824) (dA D_X8_told 110 rfl) ki_RX8_72 (by decide) ?_
  refine x_iload (dA D_X8_told 111 rfl) rfl ?_
  refine x_bipush (dA D_X8_told 112 rfl) (by decide) (by decide) ?_
  refine x_ishl (dA D_X8_told 113 rfl) ?_
  refine x_ior (dA D_X8_told 114 rfl) ?_
  refine x_iload (dA D_X8_told 115 rfl) rfl ?_
  refine x_ior (dA D_X8_told 116 rfl) ?_
  obtain ⟨h1, h⟩ := h
  obtain ⟨h2, h⟩ := h
  refine x_iast (dA D_X8_told 117 rfl) (sA_29 hS h1 h2) ?_
  refine x_nmM (fun M3 eM3 => ?_)
  have hM3 : Sh M3 := eM3 ▸ (sW_29 hS)
  have h := h M3 eM3 hM3
  refine x_aload_n (dA D_X8_told 118 rfl) rfl ?_
  refine x_get (v := vA 29) (dA D_X8_told 119 rfl) fw_RX8_21 (sO_25 hM3) (congrArg (rfV G) (sR_25_5 hM3)) ?_
  refine x_iload (dA D_X8_told 120 rfl) rfl ?_
  refine x_iald (dA D_X8_told 121 rfl) (sA_29 hM3 h1 h2) ?_
  exact x_ireturn (dA D_X8_told 122 rfl) rfl h
set_option maxRecDepth 100000 in
theorem B_X9_limbAt_0 {G : GG} {d : Nat} {k n : Nat} {t x1 x2 x3 x4 : Int} {M : MM} {Q : PV → MM → Prop} (hd : 2 ≤ d) (ht : t = 32 ∨ t = 44) (hS : Sh M) (h : 0 ≤ x1 ∧ x1 < 32 ∧ 0 ≤ (pop x1) ∧ (pop x1) < 6 ∧ ∀ v5, v5 = limF (Int.toNat (pop x1)) → 0 ≤ (((x1 * 5) + x2) + 1) ∧ (((x1 * 5) + x2) + 1) < 161 ∧ Q (vI ((rd M 27 (((x1 * 5) + x2) + 1)) + (((x3 * 6) + x4) * v5))) M) : X G Y_X9_limbAt d k n 0 [vA t, vI x1, vI x2, vI x3, vI x4, vU] [] M Q := by
  have hd1 : 1 ≤ d := by omega
  refine x_getsL (dA D_X9_limbAt 0 rfl) sf_RX9_77 ?_
  refine x_iload_n (dA D_X9_limbAt 1 rfl) rfl ?_
  obtain ⟨h1, h⟩ := h
  obtain ⟨h2, h⟩ := h
  refine x_callS [vI x1] [vA (-3)] (dA D_X9_limbAt 2 rfl) cw_RX9_80 rfl rfl (Nat.le_of_ble_eq_true rfl) hd1 (zk k) (zk n) (S_bitCount h1 h2 (by omega) ?_) (kI (fun _ _ h => h))
  show X G Y_X9_limbAt d k n 7 [vA t, vI x1, vI x2, vI x3, vI x4, vU] [vI (pop x1), vA (-3)] M Q
  obtain ⟨h3, h⟩ := h
  obtain ⟨h4, h⟩ := h
  refine x_tabL (dA D_X9_limbAt 3 rfl) h3 h4 ?_
  refine x_nmI (fun v5 ev5 => ?_)
  have h := h v5 ev5
  refine x_istore (xs' := [vA t, vI x1, vI x2, vI x3, vI x4, vI v5]) (dA D_X9_limbAt 4 rfl) (by decide) rfl ?_
  refine x_aload_n (dA D_X9_limbAt 5 rfl) rfl ?_
  refine x_get (v := vA 25) (dA D_X9_limbAt 6 rfl) fw_RX9_49 (sOt_0 ht hS) (congrArg (rfV G) (sRt_1 ht hS)) ?_
  refine x_get (v := vA 27) (dA D_X9_limbAt 7 rfl) fw_RX9_86 (sO_25 hS) (congrArg (rfV G) (sR_25_3 hS)) ?_
  refine x_iload_n (dA D_X9_limbAt 8 rfl) rfl ?_
  refine x_iload_n (dA D_X9_limbAt 9 rfl) rfl ?_
  refine x_callS [vI x1, vI x2] [vA 27] (dA D_X9_limbAt 10 rfl) cw_RX9_60 rfl rfl (Nat.le_of_ble_eq_true rfl) hd1 (zk k) (zk n) (S_X8_nodeOf  (by omega) ?_) (kI (fun _ _ h => h))
  show X G Y_X9_limbAt d k n 22 [vA t, vI x1, vI x2, vI x3, vI x4, vI v5] [vI (((x1 * 5) + x2) + 1), vA 27] M Q
  obtain ⟨h6, h⟩ := h
  obtain ⟨h7, h⟩ := h
  refine x_iald (dA D_X9_limbAt 11 rfl) (sA_27 hS h6 h7) ?_
  refine x_iload_n (dA D_X9_limbAt 12 rfl) rfl ?_
  refine x_iload (dA D_X9_limbAt 13 rfl) rfl ?_
  refine x_callS [vI x3, vI x4] [vI (rd M 27 (((x1 * 5) + x2) + 1))] (dA D_X9_limbAt 14 rfl) cw_RX9_64 rfl rfl (Nat.le_of_ble_eq_true rfl) hd1 (zk k) (zk n) (S_X8_crowdOf  (by omega) ?_) (kI (fun _ _ h => h))
  show X G Y_X9_limbAt d k n 29 [vA t, vI x1, vI x2, vI x3, vI x4, vI v5] [vI ((x3 * 6) + x4), vI (rd M 27 (((x1 * 5) + x2) + 1))] M Q
  refine x_iload (dA D_X9_limbAt 15 rfl) rfl ?_
  refine x_imul (dA D_X9_limbAt 16 rfl) ?_
  refine x_iadd (dA D_X9_limbAt 17 rfl) ?_
  exact x_ireturn (dA D_X9_limbAt 18 rfl) rfl h
theorem C_X9_limbAt {G : GG} {d : Nat} {t x1 x2 x3 x4 : Int} {M : MM} {Q : PV → MM → Prop} (h : X G Y_X9_limbAt d 0 0 0 [vA t, vI x1, vI x2, vI x3, vI x4, vU] [] M Q) : C G Y_X9_limbAt d 0 0 [vA t, vI x1, vI x2, vI x3, vI x4] M Q := X.entry (by decide) (Nat.le_of_ble_eq_true rfl) rfl rfl rfl h
set_option maxRecDepth 100000 in
theorem B_X9_bestAt_0 {G : GG} {d : Nat} {k n : Nat} {t x1 x2 x3 x4 : Int} {M : MM} {Q : PV → MM → Prop} (hd : 2 ≤ d) (ht : t = 32 ∨ t = 44) (hS : Sh M) (h : 0 ≤ (((x1 * 5) + x2) + 1) ∧ (((x1 * 5) + x2) + 1) < 161 ∧ 0 ≤ ((rd M 28 (((x1 * 5) + x2) + 1)) + ((x3 * 6) + x4)) ∧ ((rd M 28 (((x1 * 5) + x2) + 1)) + ((x3 * 6) + x4)) < 2916 ∧ ∀ v5, v5 = rd M (t + 2) ((rd M 28 (((x1 * 5) + x2) + 1)) + ((x3 * 6) + x4)) → inR (rd M t 9) ∧ Q (vI (if (iShr v5 3) ≠ (rd M t 9) then (-1) else ((iAnd v5 7) - 1))) M) : X G Y_X9_bestAt d k n 0 [vA t, vI x1, vI x2, vI x3, vI x4, vU] [] M Q := by
  have hd1 : 1 ≤ d := by omega
  refine x_aload_n (dA D_X9_bestAt 0 rfl) rfl ?_
  refine x_get (v := vA (t + 2)) (dA D_X9_bestAt 1 rfl) fw_RX9_17 (sOt_0 ht hS) (congrArg (rfV G) (sRt_4 ht hS)) ?_
  refine x_aload_n (dA D_X9_bestAt 2 rfl) rfl ?_
  refine x_get (v := vA 25) (dA D_X9_bestAt 3 rfl) fw_RX9_49 (sOt_0 ht hS) (congrArg (rfV G) (sRt_1 ht hS)) ?_
  refine x_get (v := vA 28) (dA D_X9_bestAt 4 rfl) fw_RX9_57 (sO_25 hS) (congrArg (rfV G) (sR_25_4 hS)) ?_
  refine x_iload_n (dA D_X9_bestAt 5 rfl) rfl ?_
  refine x_iload_n (dA D_X9_bestAt 6 rfl) rfl ?_
  refine x_callS [vI x1, vI x2] [vA 28, vA (t + 2)] (dA D_X9_bestAt 7 rfl) cw_RX9_60 rfl rfl (Nat.le_of_ble_eq_true rfl) hd1 (zk k) (zk n) (S_X8_nodeOf  (by omega) ?_) (kI (fun _ _ h => h))
  show X G Y_X9_bestAt d k n 16 [vA t, vI x1, vI x2, vI x3, vI x4, vU] [vI (((x1 * 5) + x2) + 1), vA 28, vA (t + 2)] M Q
  obtain ⟨h1, h⟩ := h
  obtain ⟨h2, h⟩ := h
  refine x_iald (dA D_X9_bestAt 8 rfl) (sA_28 hS h1 h2) ?_
  refine x_iload_n (dA D_X9_bestAt 9 rfl) rfl ?_
  refine x_iload (dA D_X9_bestAt 10 rfl) rfl ?_
  refine x_callS [vI x3, vI x4] [vI (rd M 28 (((x1 * 5) + x2) + 1)), vA (t + 2)] (dA D_X9_bestAt 11 rfl) cw_RX9_64 rfl rfl (Nat.le_of_ble_eq_true rfl) hd1 (zk k) (zk n) (S_X8_crowdOf  (by omega) ?_) (kI (fun _ _ h => h))
  show X G Y_X9_bestAt d k n 23 [vA t, vI x1, vI x2, vI x3, vI x4, vU] [vI ((x3 * 6) + x4), vI (rd M 28 (((x1 * 5) + x2) + 1)), vA (t + 2)] M Q
  refine x_iadd (dA D_X9_bestAt 12 rfl) ?_
  obtain ⟨h3, h⟩ := h
  obtain ⟨h4, h⟩ := h
  refine x_iald (dA D_X9_bestAt 13 rfl) (sAt_2 ht hS h3 h4) ?_
  refine x_nmI (fun v5 ev5 => ?_)
  have h := h v5 ev5
  refine x_istore (xs' := [vA t, vI x1, vI x2, vI x3, vI x4, vI v5]) (dA D_X9_bestAt 14 rfl) (by decide) rfl ?_
  refine x_iload (dA D_X9_bestAt 15 rfl) rfl ?_
  refine x_iconst (dA D_X9_bestAt 16 rfl) ?_
  refine x_ishr (dA D_X9_bestAt 17 rfl) ?_
  refine x_aload_n (dA D_X9_bestAt 18 rfl) rfl ?_
  refine x_get (v := vI (rd M t 9)) (dA D_X9_bestAt 19 rfl) fw_RX9_35 (sOt_0 ht hS) rfl ?_
  obtain ⟨h7, h⟩ := h
  have hJ : X G Y_X9_bestAt d k n 49 [vA t, vI x1, vI x2, vI x3, vI x4, vI v5] [vI (if (iShr v5 3) ≠ (rd M t 9) then (-1) else ((iAnd v5 7) - 1))] M Q := by
    exact x_ireturn (dA D_X9_bestAt 28 rfl) rfl h
  refine x_icmp_neP (tgt := 48) (dA D_X9_bestAt 20 rfl) (by decide) (inR_iShr _ _) h7 ⟨fun c6 => ?_, fun c6 => ?_⟩
  · refine x_iconst (dA D_X9_bestAt 27 rfl) ?_
    rw [if_pos c6] at hJ
    exact hJ
  · refine x_iload (dA D_X9_bestAt 21 rfl) rfl ?_
    refine x_bipush (dA D_X9_bestAt 22 rfl) (by decide) (by decide) ?_
    refine x_iand (dA D_X9_bestAt 23 rfl) ?_
    refine x_iconst (dA D_X9_bestAt 24 rfl) ?_
    refine x_isub (dA D_X9_bestAt 25 rfl) ?_
    refine x_goto (tgt := 49) (dA D_X9_bestAt 26 rfl) (by decide) ?_
    rw [if_neg (by first | omega | grind)] at hJ
    exact hJ
theorem C_X9_bestAt {G : GG} {d : Nat} {t x1 x2 x3 x4 : Int} {M : MM} {Q : PV → MM → Prop} (h : X G Y_X9_bestAt d 0 0 0 [vA t, vI x1, vI x2, vI x3, vI x4, vU] [] M Q) : C G Y_X9_bestAt d 0 0 [vA t, vI x1, vI x2, vI x3, vI x4] M Q := X.entry (by decide) (Nat.le_of_ble_eq_true rfl) rfl rfl rfl h
set_option maxRecDepth 100000 in
theorem B_X2_above_0 {G : GG} {d : Nat} {k n : Nat} {x0 x1 : Int} {M : MM} {Q : PV → MM → Prop} (hd : 1 ≤ d) (h : X G Y_X2_above d k n 5 [vA x0, vI x1, vI 0, vI 111] [] M Q) : X G Y_X2_above d k n 0 [vA x0, vI x1, vU, vU] [] M Q := by
  have hd1 : 1 ≤ d := by omega
  refine x_iconst (dA D_X2_above 0 rfl) ?_
  refine x_istore_n (xs' := [vA x0, vI x1, vI 0, vU]) (dA D_X2_above 1 rfl) (by decide) rfl ?_
  refine x_bipush (dA D_X2_above 2 rfl) (by decide) (by decide) ?_
  refine x_istore_n (xs' := [vA x0, vI x1, vI 0, vI 111]) (dA D_X2_above 3 rfl) (by decide) rfl ?_
  exact h
theorem C_X2_above {G : GG} {d : Nat} {x0 x1 : Int} {M : MM} {Q : PV → MM → Prop} (h : X G Y_X2_above d 0 0 0 [vA x0, vI x1, vU, vU] [] M Q) : C G Y_X2_above d 0 0 [vA x0, vI x1] M Q := X.entry (by decide) (Nat.le_of_ble_eq_true rfl) rfl rfl rfl h
set_option maxRecDepth 100000 in
theorem B_X2_above_5 {G : GG} {d : Nat} {k n : Nat} {x0 x1 x2 x3 : Int} {M : MM} {Q : PV → MM → Prop} (hd : 2 ≤ d) (h : inR x3 ∧ inR x1 ∧ ((x3 < x1 → Q (vI x2) M) ∧ (x1 ≤ x3 → Ar M x0 0 14 ∧ nrm (rd M x0) 0 14 ∧ (0 ≤ x3 ∧ x3 < 2000) ∧ ∀ v6, v6 = (x2 * 10) + (if x3 < 112 then digF (rd M x0) x3 else 0) → X G Y_X2_above d k n 5 [vA x0, vI x1, vI v6, vI (x3 + (-1))] [] M Q))) : X G Y_X2_above d k n 5 [vA x0, vI x1, vI x2, vI x3] [] M Q := by
  have hd1 : 1 ≤ d := by omega
  refine x_iload_n (dA D_X2_above 4 rfl) rfl ?_
  refine x_iload_n (dA D_X2_above 5 rfl) rfl ?_
  obtain ⟨h1, h⟩ := h
  obtain ⟨h2, h⟩ := h
  refine x_icmp_ltP (tgt := 27) (dA D_X2_above 6 rfl) (by decide) h1 h2 ⟨fun c => ?_, fun c => ?_⟩
  · have h := h.1 c
    refine x_iload_n (dA D_X2_above 17 rfl) rfl ?_
    exact x_ireturn (dA D_X2_above 18 rfl) rfl h
  · have h := h.2 c
    refine x_iload_n (dA D_X2_above 7 rfl) rfl ?_
    refine x_bipush (dA D_X2_above 8 rfl) (by decide) (by decide) ?_
    refine x_imul (dA D_X2_above 9 rfl) ?_
    refine x_aload_n (dA D_X2_above 10 rfl) rfl ?_
    refine x_iload_n (dA D_X2_above 11 rfl) rfl ?_
    obtain ⟨h3, h⟩ := h
    obtain ⟨h4, h⟩ := h
    obtain ⟨h5, h⟩ := h
    refine x_callS [vA x0, vI x3] [vI (x2 * 10)] (dA D_X2_above 12 rfl) cw_RX2_19 rfl rfl (Nat.le_of_ble_eq_true rfl) hd1 (zk k) (zk n) (S_X2_figure h3 h4 h5 (by omega) ?_) (kI (fun _ _ h => h))
    show X G Y_X2_above d k n 19 [vA x0, vI x1, vI x2, vI x3] [vI (if x3 < 112 then digF (rd M x0) x3 else 0), vI (x2 * 10)] M Q
    refine x_iadd (dA D_X2_above 13 rfl) ?_
    refine x_nmI (fun v6 ev6 => ?_)
    have h := h v6 ev6
    refine x_istore_n (xs' := [vA x0, vI x1, vI v6, vI x3]) (dA D_X2_above 14 rfl) (by decide) rfl ?_
    refine x_iinc (xs' := [vA x0, vI x1, vI v6, vI (x3 + (-1))]) (dA D_X2_above 15 rfl) rfl (by decide) rfl ?_
    refine x_goto (tgt := 5) (dA D_X2_above 16 rfl) (by decide) ?_
    exact h
set_option maxRecDepth 100000 in
theorem B_X2_nine_0 {G : GG} {d : Nat} {k n : Nat} {x0 x1 : Int} {M : MM} {Q : PV → MM → Prop} (hd : 1 ≤ d) (h : X G Y_X2_nine d k n 5 [vA x0, vI x1, vI 0, vI 8] [] M Q) : X G Y_X2_nine d k n 0 [vA x0, vI x1, vU, vU] [] M Q := by
  have hd1 : 1 ≤ d := by omega
  refine x_iconst (dA D_X2_nine 0 rfl) ?_
  refine x_istore_n (xs' := [vA x0, vI x1, vI 0, vU]) (dA D_X2_nine 1 rfl) (by decide) rfl ?_
  refine x_bipush (dA D_X2_nine 2 rfl) (by decide) (by decide) ?_
  refine x_istore_n (xs' := [vA x0, vI x1, vI 0, vI 8]) (dA D_X2_nine 3 rfl) (by decide) rfl ?_
  exact h
theorem C_X2_nine {G : GG} {d : Nat} {x0 x1 : Int} {M : MM} {Q : PV → MM → Prop} (h : X G Y_X2_nine d 0 0 0 [vA x0, vI x1, vU, vU] [] M Q) : C G Y_X2_nine d 0 0 [vA x0, vI x1] M Q := X.entry (by decide) (Nat.le_of_ble_eq_true rfl) rfl rfl rfl h
set_option maxRecDepth 100000 in
theorem B_X2_nine_5 {G : GG} {d : Nat} {k n : Nat} {x0 x1 x2 x3 : Int} {M : MM} {Q : PV → MM → Prop} (hd : 2 ≤ d) (h : inR x3 ∧ ((x3 < 0 → Q (vI x2) M) ∧ (0 ≤ x3 → Ar M x0 0 14 ∧ nrm (rd M x0) 0 14 ∧ (0 ≤ (x1 + x3) ∧ (x1 + x3) < 2000) ∧ ∀ v5, v5 = (x2 * 10) + (if (x1 + x3) < 112 then digF (rd M x0) (x1 + x3) else 0) → X G Y_X2_nine d k n 5 [vA x0, vI x1, vI v5, vI (x3 + (-1))] [] M Q))) : X G Y_X2_nine d k n 5 [vA x0, vI x1, vI x2, vI x3] [] M Q := by
  have hd1 : 1 ≤ d := by omega
  refine x_iload_n (dA D_X2_nine 4 rfl) rfl ?_
  obtain ⟨h1, h⟩ := h
  refine x_if_ltP (tgt := 28) (dA D_X2_nine 5 rfl) (by decide) h1 ⟨fun c => ?_, fun c => ?_⟩
  · have h := h.1 c
    refine x_iload_n (dA D_X2_nine 18 rfl) rfl ?_
    exact x_ireturn (dA D_X2_nine 19 rfl) rfl h
  · have h := h.2 c
    refine x_iload_n (dA D_X2_nine 6 rfl) rfl ?_
    refine x_bipush (dA D_X2_nine 7 rfl) (by decide) (by decide) ?_
    refine x_imul (dA D_X2_nine 8 rfl) ?_
    refine x_aload_n (dA D_X2_nine 9 rfl) rfl ?_
    refine x_iload_n (dA D_X2_nine 10 rfl) rfl ?_
    refine x_iload_n (dA D_X2_nine 11 rfl) rfl ?_
    refine x_iadd (dA D_X2_nine 12 rfl) ?_
    obtain ⟨h2, h⟩ := h
    obtain ⟨h3, h⟩ := h
    obtain ⟨h4, h⟩ := h
    refine x_callS [vA x0, vI (x1 + x3)] [vI (x2 * 10)] (dA D_X2_nine 13 rfl) cw_RX2_19 rfl rfl (Nat.le_of_ble_eq_true rfl) hd1 (zk k) (zk n) (S_X2_figure h2 h3 h4 (by omega) ?_) (kI (fun _ _ h => h))
    show X G Y_X2_nine d k n 20 [vA x0, vI x1, vI x2, vI x3] [vI (if (x1 + x3) < 112 then digF (rd M x0) (x1 + x3) else 0), vI (x2 * 10)] M Q
    refine x_iadd (dA D_X2_nine 14 rfl) ?_
    refine x_nmI (fun v5 ev5 => ?_)
    have h := h v5 ev5
    refine x_istore_n (xs' := [vA x0, vI x1, vI v5, vI x3]) (dA D_X2_nine 15 rfl) (by decide) rfl ?_
    refine x_iinc (xs' := [vA x0, vI x1, vI v5, vI (x3 + (-1))]) (dA D_X2_nine 16 rfl) rfl (by decide) rfl ?_
    refine x_goto (tgt := 5) (dA D_X2_nine 17 rfl) (by decide) ?_
    exact h
set_option maxRecDepth 100000 in
theorem B_X3_takeRow_0 {G : GG} {d : Nat} {k n : Nat} {x1 : Int} {M : MM} {Q : PV → MM → Prop} (hd : 1 ≤ d) (hS : Sh M) (h : ∀ M1, M1 = wr M 30 4 (if 5 < (iShr x1 15) then 5 else (iShr x1 15)) → Sh M1 → X G Y_X3_takeRow d k n 14 [vA 30, vI x1, vI 0] [] M1 Q) : X G Y_X3_takeRow d k n 0 [vA 30, vI x1, vU] [] M Q := by
  have hd1 : 1 ≤ d := by omega
  refine x_aload_n (dA D_X3_takeRow 0 rfl) rfl ?_
  refine x_iload_n (dA D_X3_takeRow 1 rfl) rfl ?_
  refine x_bipush (dA D_X3_takeRow 2 rfl) (by decide) (by decide) ?_
  refine x_ishr (dA D_X3_takeRow 3 rfl) ?_
  refine x_iconst (dA D_X3_takeRow 4 rfl) ?_
  refine x_mminI [vA 30] (dA D_X3_takeRow 5 rfl) ml_RX3_73 (Nat.le_of_ble_eq_true rfl) hd1 (inR_iShr _ _) ⟨by decide, by decide⟩ ?_
  refine x_put (x := if 5 < (iShr x1 15) then 5 else (iShr x1 15)) (dA D_X3_takeRow 6 rfl) fw_RX3_15 (fun _ _ hc => by cases hc; exact Or.inl rfl) (sO_30 hS) rfl rfl rfl ?_
  refine x_nmM (fun M1 eM1 => ?_)
  have hM1 : Sh M1 := eM1 ▸ (sW_30_4 hS)
  have h := h M1 eM1 hM1
  refine x_iconst (dA D_X3_takeRow 7 rfl) ?_
  refine x_istore_n (xs' := [vA 30, vI x1, vI 0]) (dA D_X3_takeRow 8 rfl) (by decide) rfl ?_
  exact h
theorem C_X3_takeRow {G : GG} {d : Nat} {x1 : Int} {M : MM} {Q : PV → MM → Prop} (h : X G Y_X3_takeRow d 0 0 0 [vA 30, vI x1, vU] [] M Q) : C G Y_X3_takeRow d 0 0 [vA 30, vI x1] M Q := X.entry (by decide) (Nat.le_of_ble_eq_true rfl) rfl rfl rfl h
set_option maxRecDepth 100000 in
theorem B_X3_takeRow_14 {G : GG} {d : Nat} {k n : Nat} {x1 x2 : Int} {M : MM} {Q : PV → MM → Prop} (hd : 1 ≤ d) (hS : Sh M) (h : inR x2 ∧ inR (rd M 30 4) ∧ (((rd M 30 4) ≤ x2 → Q vU M) ∧ (x2 < (rd M 30 4) → 0 ≤ x2 ∧ x2 < 5 ∧ ∀ M5, M5 = wr M 31 x2 (iAnd (iShr x1 (3 * x2)) 7) → Sh M5 → X G Y_X3_takeRow d k n 14 [vA 30, vI x1, vI (x2 + 1)] [] M5 Q))) : X G Y_X3_takeRow d k n 14 [vA 30, vI x1, vI x2] [] M Q := by
  have hd1 : 1 ≤ d := by omega
  refine x_iload_n (dA D_X3_takeRow 9 rfl) rfl ?_
  refine x_aload_n (dA D_X3_takeRow 10 rfl) rfl ?_
  refine x_get (v := vI (rd M 30 4)) (dA D_X3_takeRow 11 rfl) fw_RX3_15 (sO_30 hS) rfl ?_
  obtain ⟨h1, h⟩ := h
  obtain ⟨h2, h⟩ := h
  refine x_icmp_geP (tgt := 42) (dA D_X3_takeRow 12 rfl) (by decide) h1 h2 ⟨fun c => ?_, fun c => ?_⟩
  · have h := h.1 c
    exact x_return (dA D_X3_takeRow 26 rfl) rfl h
  · have h := h.2 c
    refine x_aload_n (dA D_X3_takeRow 13 rfl) rfl ?_
    refine x_get (v := vA 31) (dA D_X3_takeRow 14 rfl) fw_RX3_9 (sO_30 hS) (congrArg (rfV G) (sR_30_3 hS)) ?_
    refine x_iload_n (dA D_X3_takeRow 15 rfl) rfl ?_
    refine x_iload_n (dA D_X3_takeRow 16 rfl) rfl ?_
    refine x_iconst (dA D_X3_takeRow 17 rfl) ?_
    refine x_iload_n (dA D_X3_takeRow 18 rfl) rfl ?_
    refine x_imul (dA D_X3_takeRow 19 rfl) ?_
    refine x_ishr (dA D_X3_takeRow 20 rfl) ?_
    refine x_bipush (dA D_X3_takeRow 21 rfl) (by decide) (by decide) ?_
    refine x_iand (dA D_X3_takeRow 22 rfl) ?_
    obtain ⟨h3, h⟩ := h
    obtain ⟨h4, h⟩ := h
    refine x_iast (dA D_X3_takeRow 23 rfl) (sA_31 hS h3 h4) ?_
    refine x_nmM (fun M5 eM5 => ?_)
    have hM5 : Sh M5 := eM5 ▸ (sW_31 hS)
    have h := h M5 eM5 hM5
    refine x_iinc (xs' := [vA 30, vI x1, vI (x2 + 1)]) (dA D_X3_takeRow 24 rfl) rfl (by decide) rfl ?_
    refine x_goto (tgt := 14) (dA D_X3_takeRow 25 rfl) (by decide) ?_
    exact h
set_option maxRecDepth 100000 in
theorem B_X3_ofRow_0 {G : GG} {d : Nat} {k n : Nat} {x1 x2 x3 : Int} {M : MM} {Q : PV → MM → Prop} (hd : 2 ≤ d) (hS : Sh M) (h : 0 ≤ x3 ∧ x3 < 32 ∧ ∀ v3, v3 = pop x3 → inR v3 ∧ inR x2 ∧ ((v3 < x2 → X G Y_X3_ofRow d k n 20 [vA 30, vA x1, vI x2, vI x3, vI v3, vI 0, vI 0] [] M Q) ∧ (x2 ≤ v3 → Q (vI (-1)) M))) : X G Y_X3_ofRow d k n 0 [vA 30, vA x1, vI x2, vI x3, vU, vU, vU] [] M Q := by
  have hd1 : 1 ≤ d := by omega
  refine x_iload_n (dA D_X3_ofRow 0 rfl) rfl ?_
  obtain ⟨h1, h⟩ := h
  obtain ⟨h2, h⟩ := h
  refine x_callS [vI x3] [] (dA D_X3_ofRow 1 rfl) cw_RX3_78 rfl rfl (Nat.le_of_ble_eq_true rfl) hd1 (zk k) (zk n) (S_bitCount h1 h2 (by omega) ?_) (kI (fun _ _ h => h))
  show X G Y_X3_ofRow d k n 4 [vA 30, vA x1, vI x2, vI x3, vU, vU, vU] [vI (pop x3)] M Q
  refine x_nmI (fun v3 ev3 => ?_)
  have h := h v3 ev3
  refine x_istore (xs' := [vA 30, vA x1, vI x2, vI x3, vI v3, vU, vU]) (dA D_X3_ofRow 2 rfl) (by decide) rfl ?_
  refine x_iload (dA D_X3_ofRow 3 rfl) rfl ?_
  refine x_iload_n (dA D_X3_ofRow 4 rfl) rfl ?_
  obtain ⟨h4, h⟩ := h
  obtain ⟨h5, h⟩ := h
  refine x_icmp_ltP (tgt := 14) (dA D_X3_ofRow 5 rfl) (by decide) h4 h5 ⟨fun c => ?_, fun c => ?_⟩
  · have h := h.1 c
    refine x_iconst (dA D_X3_ofRow 8 rfl) ?_
    refine x_istore (xs' := [vA 30, vA x1, vI x2, vI x3, vI v3, vI 0, vU]) (dA D_X3_ofRow 9 rfl) (by decide) rfl ?_
    refine x_iconst (dA D_X3_ofRow 10 rfl) ?_
    refine x_istore (xs' := [vA 30, vA x1, vI x2, vI x3, vI v3, vI 0, vI 0]) (dA D_X3_ofRow 11 rfl) (by decide) rfl ?_
    exact h
  · have h := h.2 c
    refine x_iconst (dA D_X3_ofRow 6 rfl) ?_
    exact x_ireturn (dA D_X3_ofRow 7 rfl) rfl h
theorem C_X3_ofRow {G : GG} {d : Nat} {x1 x2 x3 : Int} {M : MM} {Q : PV → MM → Prop} (h : X G Y_X3_ofRow d 0 0 0 [vA 30, vA x1, vI x2, vI x3, vU, vU, vU] [] M Q) : C G Y_X3_ofRow d 0 0 [vA 30, vA x1, vI x2, vI x3] M Q := X.entry (by decide) (Nat.le_of_ble_eq_true rfl) rfl rfl rfl h
set_option maxRecDepth 100000 in
theorem B_X3_ofRow_20 {G : GG} {d : Nat} {k n : Nat} {x1 x2 x3 x4 x5 x6 : Int} {r : Int → Int} {M : MM} {Q : PV → MM → Prop} (hd : 4 ≤ d) (hS : Sh M) (h : inR x6 ∧ inR x4 ∧ ((x4 ≤ x6 → inR x5 ∧ inR x3 ∧ ((x5 ≠ x3 → Q (vI (-1)) M) ∧ (x5 = x3 → HR M r ∧ RS r ∧ (0 ≤ x3 ∧ x3 < 32) ∧ okA M x1 20 x4 ∧ inR (rd M x1 x4) ∧ ((¬ ((0 ≤ (rd M x1 x4)) ∧ (((rd M x1 x4) < 5) ∧ ((iAnd (iShr (canB r x3) (rd M x1 x4)) 1) = 1))) → Q (vI (-1)) M) ∧ ((0 ≤ (rd M x1 x4)) ∧ (((rd M x1 x4) < 5) ∧ ((iAnd (iShr (canB r x3) (rd M x1 x4)) 1) = 1)) → Q (vI (rd M x1 x4)) M))))) ∧ (x6 < x4 → okA M x1 20 x6 ∧ ∀ v11, v11 = iOr x5 (iShl 1 (rd M x1 x6)) → X G Y_X3_ofRow d k n 20 [vA 30, vA x1, vI x2, vI x3, vI x4, vI v11, vI (x6 + 1)] [] M Q))) : X G Y_X3_ofRow d k n 20 [vA 30, vA x1, vI x2, vI x3, vI x4, vI x5, vI x6] [] M Q := by
  have hd1 : 1 ≤ d := by omega
  refine x_iload (dA D_X3_ofRow 12 rfl) rfl ?_
  refine x_iload (dA D_X3_ofRow 13 rfl) rfl ?_
  obtain ⟨h1, h⟩ := h
  obtain ⟨h2, h⟩ := h
  refine x_icmp_geP (tgt := 44) (dA D_X3_ofRow 14 rfl) (by decide) h1 h2 ⟨fun c => ?_, fun c => ?_⟩
  · have h := h.1 c
    refine x_iload (dA D_X3_ofRow 25 rfl) rfl ?_
    refine x_iload_n (dA D_X3_ofRow 26 rfl) rfl ?_
    obtain ⟨h3, h⟩ := h
    obtain ⟨h4, h⟩ := h
    refine x_icmp_neP (tgt := 75) (dA D_X3_ofRow 27 rfl) (by decide) h3 h4 ⟨fun c => ?_, fun c => ?_⟩
    · have h := h.1 c
      refine x_iconst (dA D_X3_ofRow 41 rfl) ?_
      exact x_ireturn (dA D_X3_ofRow 42 rfl) rfl h
    · have h := h.2 c
      refine x_aload_n (dA D_X3_ofRow 28 rfl) rfl ?_
      refine x_get (v := vA 1) (dA D_X3_ofRow 29 rfl) fw_RX3_19 (sO_30 hS) (congrArg (rfV G) (sR_30_0 hS)) ?_
      refine x_iload_n (dA D_X3_ofRow 30 rfl) rfl ?_
      obtain ⟨h5, h⟩ := h
      obtain ⟨h6, h⟩ := h
      obtain ⟨h7, h⟩ := h
      refine x_callV 3 [vI x3] [] (dA D_X3_ofRow 31 rfl) cw_RX3_52 rfl rfl (Nat.le_of_ble_eq_true rfl) (by decide) rfl hd1 (zk k) (zk n) (sO_1 hS) (S_X4_open hS h5 h6 h7 (by omega) ?_) (kI (fun _ _ h => h))
      show X G Y_X3_ofRow d k n 58 [vA 30, vA x1, vI x2, vI x3, vI x4, vI x5, vI x6] [vI (canB r x3)] M Q
      refine x_aload_n (dA D_X3_ofRow 32 rfl) rfl ?_
      refine x_iload (dA D_X3_ofRow 33 rfl) rfl ?_
      obtain ⟨h8, h⟩ := h
      refine x_iald (dA D_X3_ofRow 34 rfl) h8 ?_
      obtain ⟨h9, h⟩ := h
      refine x_callS [vI (canB r x3), vI (rd M x1 x4)] [] (dA D_X3_ofRow 35 rfl) cw_RX3_83 rfl rfl (Nat.le_of_ble_eq_true rfl) hd1 (zk k) (zk n) (S_X4_holds h9 (by omega) ?_) (kI (fun _ _ h => h))
      show X G Y_X3_ofRow d k n 65 [vA 30, vA x1, vI x2, vI x3, vI x4, vI x5, vI x6] [vI (if (0 ≤ (rd M x1 x4)) ∧ (((rd M x1 x4) < 5) ∧ ((iAnd (iShr (canB r x3) (rd M x1 x4)) 1) = 1)) then 1 else 0)] M Q
      refine x_if_eqB (tgt := 75) (dA D_X3_ofRow 36 rfl) (by decide) ⟨fun c => ?_, fun c => ?_⟩
      · have h := h.1 c
        refine x_iconst (dA D_X3_ofRow 41 rfl) ?_
        exact x_ireturn (dA D_X3_ofRow 42 rfl) rfl h
      · have h := h.2 c
        refine x_aload_n (dA D_X3_ofRow 37 rfl) rfl ?_
        refine x_iload (dA D_X3_ofRow 38 rfl) rfl ?_
        refine x_iald (dA D_X3_ofRow 39 rfl) h8 ?_
        refine x_goto (tgt := 76) (dA D_X3_ofRow 40 rfl) (by decide) ?_
        exact x_ireturn (dA D_X3_ofRow 42 rfl) rfl h
  · have h := h.2 c
    refine x_iload (dA D_X3_ofRow 15 rfl) rfl ?_
    refine x_iconst (dA D_X3_ofRow 16 rfl) ?_
    refine x_aload_n (dA D_X3_ofRow 17 rfl) rfl ?_
    refine x_iload (dA D_X3_ofRow 18 rfl) rfl ?_
    obtain ⟨h10, h⟩ := h
    refine x_iald (dA D_X3_ofRow 19 rfl) h10 ?_
    refine x_ishl (dA D_X3_ofRow 20 rfl) ?_
    refine x_ior (dA D_X3_ofRow 21 rfl) ?_
    refine x_nmI (fun v11 ev11 => ?_)
    have h := h v11 ev11
    refine x_istore (xs' := [vA 30, vA x1, vI x2, vI x3, vI x4, vI v11, vI x6]) (dA D_X3_ofRow 22 rfl) (by decide) rfl ?_
    refine x_iinc (xs' := [vA 30, vA x1, vI x2, vI x3, vI x4, vI v11, vI (x6 + 1)]) (dA D_X3_ofRow 23 rfl) rfl (by decide) rfl ?_
    refine x_goto (tgt := 20) (dA D_X3_ofRow 24 rfl) (by decide) ?_
    exact h
set_option maxRecDepth 100000 in
theorem B_J7_fill_bad5a_0 {G : GG} {d : Nat} {k n : Nat} {x0 x1 x2 x3 : Int} {M : MM} {Q : PV → MM → Prop} (hd : 2 ≤ d) (h : okO M x0 21 ∧ ((0 ≤ x1 ∧ x1 ≤ x2 ∧ x2 ≤ ((mT M x0).2) ∧ ((mT M x0).2) < 2147483648)) ∧ X G Y_J7_fill_bad5a d k n 10 [vA x0, vI x1, vI x2, vL x3, vU, vI x1] [] M Q) : X G Y_J7_fill_bad5a d k n 0 [vA x0, vI x1, vI x2, vL x3, vU, vU] [] M Q := by
  have hd1 : 1 ≤ d := by omega
  refine x_aload_n (dA D_J7_fill_bad5a 0 rfl) rfl ?_
  obtain ⟨h1, h⟩ := h
  refine x_alen (by decide) (by decide) (dA D_J7_fill_bad5a 1 rfl) h1 ?_
  refine x_iload_n (dA D_J7_fill_bad5a 2 rfl) rfl ?_
  refine x_iload_n (dA D_J7_fill_bad5a 3 rfl) rfl ?_
  obtain ⟨h2, h⟩ := h
  refine x_callS [vI ((mT M x0).2), vI x1, vI x2] [] (dA D_J7_fill_bad5a 4 rfl) cw_RJ7_13 rfl rfl (Nat.le_of_ble_eq_true rfl) hd1 (zk k) (zk n) (S_rangeCheck h2 (by omega) ?_) (kU (fun _ h => h))
  show X G Y_J7_fill_bad5a d k n 7 [vA x0, vI x1, vI x2, vL x3, vU, vU] [] M Q
  refine x_iload_n (dA D_J7_fill_bad5a 5 rfl) rfl ?_
  refine x_istore (xs' := [vA x0, vI x1, vI x2, vL x3, vU, vI x1]) (dA D_J7_fill_bad5a 6 rfl) (by decide) rfl ?_
  exact h
theorem C_J7_fill_bad5a {G : GG} {d : Nat} {x0 x1 x2 x3 : Int} {M : MM} {Q : PV → MM → Prop} (h : X G Y_J7_fill_bad5a d 0 0 0 [vA x0, vI x1, vI x2, vL x3, vU, vU] [] M Q) : C G Y_J7_fill_bad5a d 0 0 [vA x0, vI x1, vI x2, vL x3] M Q := X.entry (by decide) (Nat.le_of_ble_eq_true rfl) rfl rfl rfl h
set_option maxRecDepth 100000 in
theorem B_J7_fill_bad5a_10 {G : GG} {d : Nat} {k n : Nat} {x0 x1 x2 x3 x5 : Int} {M : MM} {Q : PV → MM → Prop} (hd : 1 ≤ d) (h : inR x5 ∧ inR x2 ∧ ((x2 ≤ x5 → Q vU M) ∧ (x5 < x2 → okA M x0 21 x5 ∧ ∀ M4, M4 = wr M x0 x5 x3 → X G Y_J7_fill_bad5a d k n 10 [vA x0, vI x1, vI x2, vL x3, vU, vI (x5 + 1)] [] M4 Q))) : X G Y_J7_fill_bad5a d k n 10 [vA x0, vI x1, vI x2, vL x3, vU, vI x5] [] M Q := by
  have hd1 : 1 ≤ d := by omega
  refine x_iload (dA D_J7_fill_bad5a 7 rfl) rfl ?_
  refine x_iload_n (dA D_J7_fill_bad5a 8 rfl) rfl ?_
  obtain ⟨h1, h⟩ := h
  obtain ⟨h2, h⟩ := h
  refine x_icmp_geP (tgt := 27) (dA D_J7_fill_bad5a 9 rfl) (by decide) h1 h2 ⟨fun c => ?_, fun c => ?_⟩
  · have h := h.1 c
    exact x_return (dA D_J7_fill_bad5a 16 rfl) rfl h
  · have h := h.2 c
    refine x_aload_n (dA D_J7_fill_bad5a 10 rfl) rfl ?_
    refine x_iload (dA D_J7_fill_bad5a 11 rfl) rfl ?_
    refine x_lload_n (dA D_J7_fill_bad5a 12 rfl) rfl ?_
    obtain ⟨h3, h⟩ := h
    refine x_last (dA D_J7_fill_bad5a 13 rfl) h3 ?_
    refine x_nmM (fun M4 eM4 => ?_)
    have h := h M4 eM4
    refine x_iinc (xs' := [vA x0, vI x1, vI x2, vL x3, vU, vI (x5 + 1)]) (dA D_J7_fill_bad5a 14 rfl) rfl (by decide) rfl ?_
    refine x_goto (tgt := 10) (dA D_J7_fill_bad5a 15 rfl) (by decide) ?_
    exact h
