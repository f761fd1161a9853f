set_option maxRecDepth 100000 in
theorem B_X12_weighRow_0 {G : GG} {d : Nat} {k n : Nat} {M : MM} {Q : PV → MM → Prop} (hd : 3 ≤ d) (hS : Sh M) (h : ∀ M1, M1 = wr M 67 44 ((rd M 67 44) + 1) → Sh M1 → C G Y_X12_chooseRow (d - 1) 0 0 [vA 67, vA 88, vI 0, vI (rd M1 67 41)] M1 (rU (fun M2 => Sh M2 ∧ C G Y_X12_reckonRow (d - 1) 0 0 [vA 67, vA 88, vI 0, vI (rd M2 67 41)] M2 (rU (fun M3 => Sh M3 ∧ inR (rd M3 67 44) ∧ (((rd M3 67 44) = 1 → X G Y_X12_weighRow d k n 65 [vA 67, vI 0] [] M3 Q) ∧ ((rd M3 67 44) ≠ 1 → Ar M3 (81 : Int) (14 * ((((((((0 : Int) * 6) + (-1 : Int)) + 1) * 6) + (rd M3 69 30)) * 6) + (rd M3 69 33))) 14 ∧ Ar M3 (85 : Int) (0 : Int) 14 ∧ nrm (rd M3 (81 : Int)) (14 * ((((((((0 : Int) * 6) + (-1 : Int)) + 1) * 6) + (rd M3 69 30)) * 6) + (rd M3 69 33))) 14 ∧ nrm (rd M3 (85 : Int)) (0 : Int) 14 ∧ inR (cmpI (vl (rd M3 (81 : Int)) (14 * ((((((((0 : Int) * 6) + (-1 : Int)) + 1) * 6) + (rd M3 69 30)) * 6) + (rd M3 69 33))) 14) (vl (rd M3 (85 : Int)) (0 : Int) 14)) ∧ (((cmpI (vl (rd M3 (81 : Int)) (14 * ((((((((0 : Int) * 6) + (-1 : Int)) + 1) * 6) + (rd M3 69 30)) * 6) + (rd M3 69 33))) 14) (vl (rd M3 (85 : Int)) (0 : Int) 14)) ≤ 0 → Q vU M3) ∧ (0 < (cmpI (vl (rd M3 (81 : Int)) (14 * ((((((((0 : Int) * 6) + (-1 : Int)) + 1) * 6) + (rd M3 69 30)) * 6) + (rd M3 69 33))) 14) (vl (rd M3 (85 : Int)) (0 : Int) 14)) → X G Y_X12_weighRow d k n 65 [vA 67, vI 0] [] M3 Q))))))))) : X G Y_X12_weighRow d k n 0 [vA 67, vU] [] M Q := by
  have hd1 : 1 ≤ d := by omega
  refine x_aload_n (dA D_X12_weighRow 0 rfl) rfl ?_
  refine x_dup (dA D_X12_weighRow 1 rfl) rfl ?_
  refine x_get (v := vI (rd M 67 44)) (dA D_X12_weighRow 2 rfl) fw_RX12_421 (sO_67 hS) rfl ?_
  refine x_iconst (dA D_X12_weighRow 3 rfl) ?_
  refine x_iadd (dA D_X12_weighRow 4 rfl) ?_
  refine x_put (x := (rd M 67 44) + 1) (dA D_X12_weighRow 5 rfl) fw_RX12_421 (fun _ _ hc => by cases hc; exact Or.inl rfl) (sO_67 hS) rfl rfl rfl ?_
  refine x_nmM (fun M1 eM1 => ?_)
  have hM1 : Sh M1 := eM1 ▸ (sW_67_44 hS)
  have h := h M1 eM1 hM1
  refine x_aload_n (dA D_X12_weighRow 6 rfl) rfl ?_
  refine x_aload_n (dA D_X12_weighRow 7 rfl) rfl ?_
  refine x_get (v := vA 88) (dA D_X12_weighRow 8 rfl) fw_RX12_94 (sO_67 hM1) (congrArg (rfV G) (sR_67_40 hM1)) ?_
  refine x_iconst (dA D_X12_weighRow 9 rfl) ?_
  refine x_aload_n (dA D_X12_weighRow 10 rfl) rfl ?_
  refine x_get (v := vI (rd M1 67 41)) (dA D_X12_weighRow 11 rfl) fw_RX12_424 (sO_67 hM1) rfl ?_
  refine x_callV 11 [vA 88, vI 0, vI (rd M1 67 41)] [] (dA D_X12_weighRow 12 rfl) cw_RX12_427 rfl rfl (Nat.le_of_ble_eq_true rfl) (by decide) rfl hd1 (zk k) (zk n) (sO_67 hM1) h (kU (fun M2 h => ?_))
  obtain ⟨hM2, h⟩ := h
  refine x_aload_n (dA D_X12_weighRow 13 rfl) rfl ?_
  refine x_aload_n (dA D_X12_weighRow 14 rfl) rfl ?_
  refine x_get (v := vA 88) (dA D_X12_weighRow 15 rfl) fw_RX12_94 (sO_67 hM2) (congrArg (rfV G) (sR_67_40 hM2)) ?_
  refine x_iconst (dA D_X12_weighRow 16 rfl) ?_
  refine x_aload_n (dA D_X12_weighRow 17 rfl) rfl ?_
  refine x_get (v := vI (rd M2 67 41)) (dA D_X12_weighRow 18 rfl) fw_RX12_424 (sO_67 hM2) rfl ?_
  refine x_callV 11 [vA 88, vI 0, vI (rd M2 67 41)] [] (dA D_X12_weighRow 19 rfl) cw_RX12_431 rfl rfl (Nat.le_of_ble_eq_true rfl) (by decide) rfl hd1 (zk k) (zk n) (sO_67 hM2) h (kU (fun M3 h => ?_))
  obtain ⟨hM3, h⟩ := h
  refine x_aload_n (dA D_X12_weighRow 20 rfl) rfl ?_
  refine x_get (v := vI (rd M3 67 44)) (dA D_X12_weighRow 21 rfl) fw_RX12_421 (sO_67 hM3) rfl ?_
  refine x_iconst (dA D_X12_weighRow 22 rfl) ?_
  obtain ⟨h4, h⟩ := h
  refine x_icmp_eqP (tgt := 63) (dA D_X12_weighRow 23 rfl) (by decide) h4 ⟨by decide, by decide⟩ ⟨fun c => ?_, fun c => ?_⟩
  · have h := h.1 c
    refine x_iconst (dA D_X12_weighRow 33 rfl) ?_
    refine x_istore_n (xs' := [vA 67, vI 0]) (dA D_X12_weighRow 34 rfl) (by decide) rfl ?_
    exact h
  · have h := h.2 c
    refine x_aload_n (dA D_X12_weighRow 24 rfl) rfl ?_
    refine x_get (v := vA 81) (dA D_X12_weighRow 25 rfl) fw_RX12_70 (sO_67 hM3) (congrArg (rfV G) (sR_67_32 hM3)) ?_
    refine x_aload_n (dA D_X12_weighRow 26 rfl) rfl ?_
    refine x_callV 11 [] [vA 81] (dA D_X12_weighRow 27 rfl) cw_RX12_434 rfl rfl (Nat.le_of_ble_eq_true rfl) (by decide) rfl hd1 (zk k) (zk n) (sO_67 hM3) (S_X12_rootAt hM3  (by omega) ?_) (kI (fun _ _ h => h))
    show X G Y_X12_weighRow d k n 52 [vA 67, vU] [vI (14 * ((((((((0 : Int) * 6) + (-1 : Int)) + 1) * 6) + (rd M3 69 30)) * 6) + (rd M3 69 33))), vA 81] M3 Q
    refine x_aload_n (dA D_X12_weighRow 28 rfl) rfl ?_
    refine x_get (v := vA 85) (dA D_X12_weighRow 29 rfl) fw_RX12_82 (sO_67 hM3) (congrArg (rfV G) (sR_67_36 hM3)) ?_
    refine x_iconst (dA D_X12_weighRow 30 rfl) ?_
    obtain ⟨h5, h⟩ := h
    obtain ⟨h6, h⟩ := h
    obtain ⟨h7, h⟩ := h
    obtain ⟨h8, h⟩ := h
    refine x_callS [vA 81, vI (14 * ((((((((0 : Int) * 6) + (-1 : Int)) + 1) * 6) + (rd M3 69 30)) * 6) + (rd M3 69 33))), vA 85, vI 0] [] (dA D_X12_weighRow 31 rfl) cw_RX12_414 rfl rfl (Nat.le_of_ble_eq_true rfl) hd1 (zk k) (zk n) (T_X12_compare h5 h6 h7 h8 (by omega) ?_) (kI (fun _ _ h => h))
    show X G Y_X12_weighRow d k n 60 [vA 67, vU] [vI (cmpI (vl (rd M3 (81 : Int)) (14 * ((((((((0 : Int) * 6) + (-1 : Int)) + 1) * 6) + (rd M3 69 30)) * 6) + (rd M3 69 33))) 14) (vl (rd M3 (85 : Int)) (0 : Int) 14))] M3 Q
    obtain ⟨h9, h⟩ := h
    refine x_if_leP (tgt := 130) (dA D_X12_weighRow 32 rfl) (by decide) h9 ⟨fun c => ?_, fun c => ?_⟩
    · have h := h.1 c
      exact x_return (dA D_X12_weighRow 71 rfl) rfl h
    · have h := h.2 c
      refine x_iconst (dA D_X12_weighRow 33 rfl) ?_
      refine x_istore_n (xs' := [vA 67, vI 0]) (dA D_X12_weighRow 34 rfl) (by decide) rfl ?_
      exact h
theorem C_X12_weighRow {G : GG} {d : Nat} {M : MM} {Q : PV → MM → Prop} (h : X G Y_X12_weighRow d 0 0 0 [vA 67, vU] [] M Q) : C G Y_X12_weighRow d 0 0 [vA 67] M Q := X.entry (by decide) (Nat.le_of_ble_eq_true rfl) rfl rfl rfl h
set_option maxRecDepth 100000 in
theorem B_X12_weighRow_65 {G : GG} {d : Nat} {k n : Nat} {x1 : Int} {M : MM} {Q : PV → MM → Prop} (hd : 3 ≤ d) (hS : Sh M) (h : inR x1 ∧ ((14 ≤ x1 → X G Y_X12_weighRow d k n 96 [vA 67, vI 0] [] M Q) ∧ (x1 < 14 → 0 ≤ ((14 * ((((((((0 : Int) * 6) + (-1 : Int)) + 1) * 6) + (rd M 69 30)) * 6) + (rd M 69 33))) + x1) ∧ ((14 * ((((((((0 : Int) * 6) + (-1 : Int)) + 1) * 6) + (rd M 69 30)) * 6) + (rd M 69 33))) + x1) < 96768 ∧ 0 ≤ x1 ∧ x1 < 14 ∧ ∀ M6, M6 = wr M 85 x1 (rd M 81 ((14 * ((((((((0 : Int) * 6) + (-1 : Int)) + 1) * 6) + (rd M 69 30)) * 6) + (rd M 69 33))) + x1)) → Sh M6 → X G Y_X12_weighRow d k n 65 [vA 67, vI (x1 + 1)] [] M6 Q))) : X G Y_X12_weighRow d k n 65 [vA 67, vI x1] [] M Q := by
  have hd1 : 1 ≤ d := by omega
  refine x_iload_n (dA D_X12_weighRow 35 rfl) rfl ?_
  refine x_bipush (dA D_X12_weighRow 36 rfl) (by decide) (by decide) ?_
  obtain ⟨h1, h⟩ := h
  refine x_icmp_geP (tgt := 94) (dA D_X12_weighRow 37 rfl) (by decide) h1 ⟨by decide, by decide⟩ ⟨fun c => ?_, fun c => ?_⟩
  · have h := h.1 c
    refine x_iconst (dA D_X12_weighRow 51 rfl) ?_
    refine x_istore_n (xs' := [vA 67, vI 0]) (dA D_X12_weighRow 52 rfl) (by decide) rfl ?_
    exact h
  · have h := h.2 c
    refine x_aload_n (dA D_X12_weighRow 38 rfl) rfl ?_
    refine x_get (v := vA 85) (dA D_X12_weighRow 39 rfl) fw_RX12_82 (sO_67 hS) (congrArg (rfV G) (sR_67_36 hS)) ?_
    refine x_iload_n (dA D_X12_weighRow 40 rfl) rfl ?_
    refine x_aload_n (dA D_X12_weighRow 41 rfl) rfl ?_
    refine x_get (v := vA 81) (dA D_X12_weighRow 42 rfl) fw_RX12_70 (sO_67 hS) (congrArg (rfV G) (sR_67_32 hS)) ?_
    refine x_aload_n (dA D_X12_weighRow 43 rfl) rfl ?_
    refine x_callV 11 [] [vA 81, vI x1, vA 85] (dA D_X12_weighRow 44 rfl) cw_RX12_434 rfl rfl (Nat.le_of_ble_eq_true rfl) (by decide) rfl hd1 (zk k) (zk n) (sO_67 hS) (S_X12_rootAt hS  (by omega) ?_) (kI (fun _ _ h => h))
    show X G Y_X12_weighRow d k n 84 [vA 67, vI x1] [vI (14 * ((((((((0 : Int) * 6) + (-1 : Int)) + 1) * 6) + (rd M 69 30)) * 6) + (rd M 69 33))), vA 81, vI x1, vA 85] M Q
    refine x_iload_n (dA D_X12_weighRow 45 rfl) rfl ?_
    refine x_iadd (dA D_X12_weighRow 46 rfl) ?_
    obtain ⟨h2, h⟩ := h
    obtain ⟨h3, h⟩ := h
    refine x_lald (dA D_X12_weighRow 47 rfl) (sA_81 hS h2 h3) ?_
    obtain ⟨h4, h⟩ := h
    obtain ⟨h5, h⟩ := h
    refine x_last (dA D_X12_weighRow 48 rfl) (sA_85 hS h4 h5) ?_
    refine x_nmM (fun M6 eM6 => ?_)
    have hM6 : Sh M6 := eM6 ▸ (sW_85 hS)
    have h := h M6 eM6 hM6
    refine x_iinc (xs' := [vA 67, vI (x1 + 1)]) (dA D_X12_weighRow 49 rfl) rfl (by decide) rfl ?_
    refine x_goto (tgt := 65) (dA D_X12_weighRow 50 rfl) (by decide) ?_
    exact h
set_option maxRecDepth 100000 in
theorem B_X12_weighRow_96 {G : GG} {d : Nat} {k n : Nat} {x1 : Int} {M : MM} {Q : PV → MM → Prop} (hd : 1 ≤ d) (hS : Sh M) (h : inR x1 ∧ inR (rd M 67 41) ∧ (((rd M 67 41) ≤ x1 → ∀ M3, M3 = wr M 67 43 (rd M 67 41) → Sh M3 → Q vU M3) ∧ (x1 < (rd M 67 41) → 0 ≤ x1 ∧ x1 < 5 ∧ ∀ M6, M6 = wr M 89 x1 (rd M 88 x1) → Sh M6 → X G Y_X12_weighRow d k n 96 [vA 67, vI (x1 + 1)] [] M6 Q))) : X G Y_X12_weighRow d k n 96 [vA 67, vI x1] [] M Q := by
  have hd1 : 1 ≤ d := by omega
  refine x_iload_n (dA D_X12_weighRow 53 rfl) rfl ?_
  refine x_aload_n (dA D_X12_weighRow 54 rfl) rfl ?_
  refine x_get (v := vI (rd M 67 41)) (dA D_X12_weighRow 55 rfl) fw_RX12_424 (sO_67 hS) rfl ?_
  obtain ⟨h1, h⟩ := h
  obtain ⟨h2, h⟩ := h
  refine x_icmp_geP (tgt := 122) (dA D_X12_weighRow 56 rfl) (by decide) h1 h2 ⟨fun c => ?_, fun c => ?_⟩
  · have h := h.1 c
    refine x_aload_n (dA D_X12_weighRow 67 rfl) rfl ?_
    refine x_aload_n (dA D_X12_weighRow 68 rfl) rfl ?_
    refine x_get (v := vI (rd M 67 41)) (dA D_X12_weighRow 69 rfl) fw_RX12_424 (sO_67 hS) rfl ?_
    refine x_put (x := rd M 67 41) (dA D_X12_weighRow 70 rfl) fw_RX12_437 (fun _ _ hc => by cases hc; exact Or.inl rfl) (sO_67 hS) rfl rfl rfl ?_
    refine x_nmM (fun M3 eM3 => ?_)
    have hM3 : Sh M3 := eM3 ▸ (sW_67_43 hS)
    have h := h M3 eM3 hM3
    exact x_return (dA D_X12_weighRow 71 rfl) rfl h
  · have h := h.2 c
    refine x_aload_n (dA D_X12_weighRow 57 rfl) rfl ?_
    refine x_get (v := vA 89) (dA D_X12_weighRow 58 rfl) fw_RX12_97 (sO_67 hS) (congrArg (rfV G) (sR_67_42 hS)) ?_
    refine x_iload_n (dA D_X12_weighRow 59 rfl) rfl ?_
    refine x_aload_n (dA D_X12_weighRow 60 rfl) rfl ?_
    refine x_get (v := vA 88) (dA D_X12_weighRow 61 rfl) fw_RX12_94 (sO_67 hS) (congrArg (rfV G) (sR_67_40 hS)) ?_
    refine x_iload_n (dA D_X12_weighRow 62 rfl) rfl ?_
    obtain ⟨h4, h⟩ := h
    obtain ⟨h5, h⟩ := h
    refine x_iald (dA D_X12_weighRow 63 rfl) (sA_88 hS h4 h5) ?_
    refine x_iast (dA D_X12_weighRow 64 rfl) (sA_89 hS h4 h5) ?_
    refine x_nmM (fun M6 eM6 => ?_)
    have hM6 : Sh M6 := eM6 ▸ (sW_89 hS)
    have h := h M6 eM6 hM6
    refine x_iinc (xs' := [vA 67, vI (x1 + 1)]) (dA D_X12_weighRow 65 rfl) rfl (by decide) rfl ?_
    refine x_goto (tgt := 96) (dA D_X12_weighRow 66 rfl) (by decide) ?_
    exact h
set_option maxRecDepth 100000 in
theorem B_X12_findFixed_0 {G : GG} {d : Nat} {k n : Nat} {M : MM} {Q : PV → MM → Prop} (hd : 1 ≤ d) (hS : Sh M) (h : ∀ M1, M1 = wr M 67 44 0 → Sh M1 → ∀ M2, M2 = wr M1 67 41 0 → Sh M2 → ∀ M3, M3 = wr M2 67 43 0 → Sh M3 → X G Y_X12_findFixed d k n 21 [vA 67, vI 0, vI 0, vI 1, vU, vU] [] M3 Q) : X G Y_X12_findFixed d k n 0 [vA 67, vU, vU, vU, vU, vU] [] M Q := by
  have hd1 : 1 ≤ d := by omega
  refine x_aload_n (dA D_X12_findFixed 0 rfl) rfl ?_
  refine x_iconst (dA D_X12_findFixed 1 rfl) ?_
  refine x_put (x := 0) (dA D_X12_findFixed 2 rfl) fw_RX12_421 (fun _ _ hc => by cases hc; exact Or.inl rfl) (sO_67 hS) rfl rfl rfl ?_
  refine x_nmM (fun M1 eM1 => ?_)
  have hM1 : Sh M1 := eM1 ▸ (sW_67_44 hS)
  have h := h M1 eM1 hM1
  refine x_aload_n (dA D_X12_findFixed 3 rfl) rfl ?_
  refine x_iconst (dA D_X12_findFixed 4 rfl) ?_
  refine x_put (x := 0) (dA D_X12_findFixed 5 rfl) fw_RX12_424 (fun _ _ hc => by cases hc; exact Or.inl rfl) (sO_67 hM1) rfl rfl rfl ?_
  refine x_nmM (fun M2 eM2 => ?_)
  have hM2 : Sh M2 := eM2 ▸ (sW_67_41 hM1)
  have h := h M2 eM2 hM2
  refine x_aload_n (dA D_X12_findFixed 6 rfl) rfl ?_
  refine x_iconst (dA D_X12_findFixed 7 rfl) ?_
  refine x_put (x := 0) (dA D_X12_findFixed 8 rfl) fw_RX12_437 (fun _ _ hc => by cases hc; exact Or.inl rfl) (sO_67 hM2) rfl rfl rfl ?_
  refine x_nmM (fun M3 eM3 => ?_)
  have hM3 : Sh M3 := eM3 ▸ (sW_67_43 hM2)
  have h := h M3 eM3 hM3
  refine x_iconst (dA D_X12_findFixed 9 rfl) ?_
  refine x_istore_n (xs' := [vA 67, vI 0, vU, vU, vU, vU]) (dA D_X12_findFixed 10 rfl) (by decide) rfl ?_
  refine x_iconst (dA D_X12_findFixed 11 rfl) ?_
  refine x_istore_n (xs' := [vA 67, vI 0, vI 0, vU, vU, vU]) (dA D_X12_findFixed 12 rfl) (by decide) rfl ?_
  refine x_iconst (dA D_X12_findFixed 13 rfl) ?_
  refine x_istore_n (xs' := [vA 67, vI 0, vI 0, vI 1, vU, vU]) (dA D_X12_findFixed 14 rfl) (by decide) rfl ?_
  exact h
theorem C_X12_findFixed {G : GG} {d : Nat} {M : MM} {Q : PV → MM → Prop} (h : X G Y_X12_findFixed d 0 0 0 [vA 67, vU, vU, vU, vU, vU] [] M Q) : C G Y_X12_findFixed d 0 0 [vA 67] M Q := X.entry (by decide) (Nat.le_of_ble_eq_true rfl) rfl rfl rfl h
set_option maxRecDepth 100000 in
theorem B_X12_findFixed_21 {G : GG} {d : Nat} {k n : Nat} {x1 x2 x3 : Int} {M : MM} {Q : PV → MM → Prop} (hd : 4 ≤ d) (hS : Sh M) (h : inR x3 ∧ ((x3 = 0 → Q vU M) ∧ (x3 ≠ 0 → RS (rd M 69) ∧ (0 ≤ x1 ∧ x1 < 32) ∧ ∀ v4, v4 = canB (rd M 69) x1 → X G Y_X12_findFixed d k n 35 [vA 67, vI x1, vI x2, vI x3, vI v4, vI x2] [] M Q))) : X G Y_X12_findFixed d k n 21 [vA 67, vI x1, vI x2, vI x3, vU, vU] [] M Q := by
  have hd1 : 1 ≤ d := by omega
  refine x_iload_n (dA D_X12_findFixed 15 rfl) rfl ?_
  obtain ⟨h1, h⟩ := h
  refine x_if_eqP (tgt := 162) (dA D_X12_findFixed 16 rfl) (by decide) h1 ⟨fun c => ?_, fun c => ?_⟩
  · have h := h.1 c
    exact x_return (dA D_X12_findFixed 95 rfl) rfl h
  · have h := h.2 c
    refine x_aload_n (dA D_X12_findFixed 17 rfl) rfl ?_
    refine x_iload_n (dA D_X12_findFixed 18 rfl) rfl ?_
    obtain ⟨h2, h⟩ := h
    obtain ⟨h3, h⟩ := h
    refine x_callV 11 [vI x1] [] (dA D_X12_findFixed 19 rfl) cw_RX12_356 rfl rfl (Nat.le_of_ble_eq_true rfl) (by decide) rfl hd1 (zk k) (zk n) (sO_67 hS) (S_X12_canBe hS h2 h3 (by omega) ?_) (kI (fun _ _ h => h))
    show X G Y_X12_findFixed d k n 30 [vA 67, vI x1, vI x2, vI x3, vU, vU] [vI (canB (rd M 69) x1)] M Q
    refine x_nmI (fun v4 ev4 => ?_)
    have h := h v4 ev4
    refine x_istore (xs' := [vA 67, vI x1, vI x2, vI x3, vI v4, vU]) (dA D_X12_findFixed 20 rfl) (by decide) rfl ?_
    refine x_iload_n (dA D_X12_findFixed 21 rfl) rfl ?_
    refine x_istore (xs' := [vA 67, vI x1, vI x2, vI x3, vI v4, vI x2]) (dA D_X12_findFixed 22 rfl) (by decide) rfl ?_
    exact h
set_option maxRecDepth 100000 in
theorem B_X12_findFixed_35 {G : GG} {d : Nat} {k n : Nat} {x1 x2 x3 x4 x5 : Int} {M : MM} {Q : PV → MM → Prop} (hd : 2 ≤ d) (hS : Sh M) (h : inR x5 ∧ ((((5 ≤ x5) ∨ ((iAnd (iShr x4 x5) 1) = 1)) → inR x4 ∧ inR x2 ∧ ((((x4 ≠ 0) ∨ (x2 ≠ 0)) → X G Y_X12_findFixed d k n 70 [vA 67, vI x1, vI x2, vI x3, vI x4, vI x5] [] M Q) ∧ (¬ ((x4 ≠ 0) ∨ (x2 ≠ 0)) → C G Y_X12_weighRow (d - 1) 0 0 [vA 67] M (rU (fun M15 => Sh M15 ∧ X G Y_X12_findFixed d k n 70 [vA 67, vI x1, vI x2, vI x3, vI x4, vI x5] [] M15 Q))))) ∧ (¬ ((5 ≤ x5) ∨ ((iAnd (iShr x4 x5) 1) = 1)) → X G Y_X12_findFixed d k n 35 [vA 67, vI x1, vI x2, vI x3, vI x4, vI (x5 + 1)] [] M Q))) : X G Y_X12_findFixed d k n 35 [vA 67, vI x1, vI x2, vI x3, vI x4, vI x5] [] M Q := by
  have hd1 : 1 ≤ d := by omega
  refine x_iload (dA D_X12_findFixed 23 rfl) rfl ?_
  refine x_iconst (dA D_X12_findFixed 24 rfl) ?_
  obtain ⟨h2, h⟩ := h
  have hA : ((5 ≤ x5) ∨ ((iAnd (iShr x4 x5) 1) = 1)) → X G Y_X12_findFixed d k n 57 [vA 67, vI x1, vI x2, vI x3, vI x4, vI x5] [] M Q := by
    intro c17
    have h := h.1 c17
    refine x_iload (dA D_X12_findFixed 32 rfl) rfl ?_
    obtain ⟨h9, h⟩ := h
    obtain ⟨h12, h⟩ := h
    have hA : ((x4 ≠ 0) ∨ (x2 ≠ 0)) → X G Y_X12_findFixed d k n 70 [vA 67, vI x1, vI x2, vI x3, vI x4, vI x5] [] M Q := by
      intro c16
      have h := h.1 c16
      exact h
    have hB : ¬ ((x4 ≠ 0) ∨ (x2 ≠ 0)) → X G Y_X12_findFixed d k n 66 [vA 67, vI x1, vI x2, vI x3, vI x4, vI x5] [] M Q := by
      intro c16
      have h := h.2 c16
      refine x_aload_n (dA D_X12_findFixed 36 rfl) rfl ?_
      refine x_callV 11 [] [] (dA D_X12_findFixed 37 rfl) cw_RX12_440 rfl rfl (Nat.le_of_ble_eq_true rfl) (by decide) rfl hd1 (zk k) (zk n) (sO_67 hS) h (kU (fun M15 h => ?_))
      obtain ⟨hM15, h⟩ := h
      exact h
    refine x_if_neP (tgt := 70) (dA D_X12_findFixed 33 rfl) (by decide) h9 ⟨fun c8 => ?_, fun c8 => ?_⟩
    · exact hA (by first | omega | grind)
    · refine x_iload_n (dA D_X12_findFixed 34 rfl) rfl ?_
      refine x_if_neP (tgt := 70) (dA D_X12_findFixed 35 rfl) (by decide) h12 ⟨fun c11 => ?_, fun c11 => ?_⟩
      · exact hA (by first | omega | grind)
      · exact hB (by first | omega | grind)
  have hB : ¬ ((5 ≤ x5) ∨ ((iAnd (iShr x4 x5) 1) = 1)) → X G Y_X12_findFixed d k n 51 [vA 67, vI x1, vI x2, vI x3, vI x4, vI x5] [] M Q := by
    intro c17
    have h := h.2 c17
    refine x_iinc (xs' := [vA 67, vI x1, vI x2, vI x3, vI x4, vI (x5 + 1)]) (dA D_X12_findFixed 30 rfl) rfl (by decide) rfl ?_
    refine x_goto (tgt := 35) (dA D_X12_findFixed 31 rfl) (by decide) ?_
    exact h
  refine x_icmp_geP (tgt := 57) (dA D_X12_findFixed 25 rfl) (by decide) h2 ⟨by decide, by decide⟩ ⟨fun c1 => ?_, fun c1 => ?_⟩
  · exact hA (by first | omega | grind)
  · refine x_iload (dA D_X12_findFixed 26 rfl) rfl ?_
    refine x_iload (dA D_X12_findFixed 27 rfl) rfl ?_
    refine x_callS [vI x4, vI x5] [] (dA D_X12_findFixed 28 rfl) cw_RX12_138 rfl rfl (Nat.le_of_ble_eq_true rfl) hd1 (zk k) (zk n) (S_X12_is  (by omega) ?_) (kI (fun _ _ h => h))
    show X G Y_X12_findFixed d k n 48 [vA 67, vI x1, vI x2, vI x3, vI x4, vI x5] [vI (if (iAnd (iShr x4 x5) 1) = 1 then 1 else 0)] M Q
    refine x_if_neB (tgt := 57) (dA D_X12_findFixed 29 rfl) (by decide) ⟨fun c6 => ?_, fun c6 => ?_⟩
    · exact hA (by first | omega | grind)
    · exact hB (by first | omega | grind)
set_option maxRecDepth 100000 in
theorem B_X12_findFixed_70 {G : GG} {d : Nat} {k n : Nat} {x1 x2 x3 x4 x5 : Int} {M : MM} {Q : PV → MM → Prop} (hd : 1 ≤ d) (hS : Sh M) (h : inR x5 ∧ ((5 ≤ x5 → inR (rd M 67 41) ∧ (((rd M 67 41) ≤ 0 → X G Y_X12_findFixed d k n 21 [vA 67, vI x1, vI x2, vI 0, vU, vU] [] M Q) ∧ (0 < (rd M 67 41) → ∀ M3, M3 = wr M 67 41 ((rd M 67 41) - 1) → Sh M3 → 0 ≤ (rd M3 67 41) ∧ (rd M3 67 41) < 5 ∧ ∀ v6, v6 = iAnd x1 (iXor (iShl 1 (rd M3 88 (rd M3 67 41))) (-1)) → ∀ v7, v7 = (rd M3 88 (rd M3 67 41)) + 1 → X G Y_X12_findFixed d k n 21 [vA 67, vI v6, vI v7, vI x3, vU, vU] [] M3 Q))) ∧ (x5 < 5 → 0 ≤ (rd M 67 41) ∧ (rd M 67 41) < 5 ∧ ∀ M10, M10 = wr M 88 (rd M 67 41) x5 → Sh M10 → ∀ M11, M11 = wr M10 67 41 ((rd M10 67 41) + 1) → Sh M11 → ∀ v12, v12 = iOr x1 (iShl 1 x5) → X G Y_X12_findFixed d k n 21 [vA 67, vI v12, vI 0, vI x3, vU, vU] [] M11 Q))) : X G Y_X12_findFixed d k n 70 [vA 67, vI x1, vI x2, vI x3, vI x4, vI x5] [] M Q := by
  have hd1 : 1 ≤ d := by omega
  refine x_iload (dA D_X12_findFixed 38 rfl) rfl ?_
  refine x_iconst (dA D_X12_findFixed 39 rfl) ?_
  obtain ⟨h1, h⟩ := h
  refine x_icmp_geP (tgt := 109) (dA D_X12_findFixed 40 rfl) (by decide) h1 ⟨by decide, by decide⟩ ⟨fun c => ?_, fun c => ?_⟩
  · have h := h.1 c
    refine x_aload_n (dA D_X12_findFixed 62 rfl) rfl ?_
    refine x_get (v := vI (rd M 67 41)) (dA D_X12_findFixed 63 rfl) fw_RX12_424 (sO_67 hS) rfl ?_
    obtain ⟨h2, h⟩ := h
    refine x_if_leP (tgt := 157) (dA D_X12_findFixed 64 rfl) (by decide) h2 ⟨fun c => ?_, fun c => ?_⟩
    · have h := h.1 c
      refine x_iconst (dA D_X12_findFixed 92 rfl) ?_
      refine x_istore_n (xs' := [vA 67, vI x1, vI x2, vI 0, vI x4, vI x5]) (dA D_X12_findFixed 93 rfl) (by decide) rfl ?_
      refine x_goto (tgt := 21) (dA D_X12_findFixed 94 rfl) (by decide) ?_
      refine X.weak (xs' := [vA 67, vI x1, vI x2, vI 0, vU, vU]) ⟨Or.inl rfl, Or.inl rfl, Or.inl rfl, Or.inl rfl, Or.inr rfl, Or.inr rfl, trivial⟩ ?_
      exact h
    · have h := h.2 c
      refine x_aload_n (dA D_X12_findFixed 65 rfl) rfl ?_
      refine x_dup (dA D_X12_findFixed 66 rfl) rfl ?_
      refine x_get (v := vI (rd M 67 41)) (dA D_X12_findFixed 67 rfl) fw_RX12_424 (sO_67 hS) rfl ?_
      refine x_iconst (dA D_X12_findFixed 68 rfl) ?_
      refine x_isub (dA D_X12_findFixed 69 rfl) ?_
      refine x_put (x := (rd M 67 41) - 1) (dA D_X12_findFixed 70 rfl) fw_RX12_424 (fun _ _ hc => by cases hc; exact Or.inl rfl) (sO_67 hS) rfl rfl rfl ?_
      refine x_nmM (fun M3 eM3 => ?_)
      have hM3 : Sh M3 := eM3 ▸ (sW_67_41 hS)
      have h := h M3 eM3 hM3
      refine x_iload_n (dA D_X12_findFixed 71 rfl) rfl ?_
      refine x_iconst (dA D_X12_findFixed 72 rfl) ?_
      refine x_aload_n (dA D_X12_findFixed 73 rfl) rfl ?_
      refine x_get (v := vA 88) (dA D_X12_findFixed 74 rfl) fw_RX12_94 (sO_67 hM3) (congrArg (rfV G) (sR_67_40 hM3)) ?_
      refine x_aload_n (dA D_X12_findFixed 75 rfl) rfl ?_
      refine x_get (v := vI (rd M3 67 41)) (dA D_X12_findFixed 76 rfl) fw_RX12_424 (sO_67 hM3) rfl ?_
      obtain ⟨h4, h⟩ := h
      obtain ⟨h5, h⟩ := h
      refine x_iald (dA D_X12_findFixed 77 rfl) (sA_88 hM3 h4 h5) ?_
      refine x_ishl (dA D_X12_findFixed 78 rfl) ?_
      refine x_iconst (dA D_X12_findFixed 79 rfl) ?_
      refine x_ixor (dA D_X12_findFixed 80 rfl) ?_
      refine x_iand (dA D_X12_findFixed 81 rfl) ?_
      refine x_nmI (fun v6 ev6 => ?_)
      have h := h v6 ev6
      refine x_istore_n (xs' := [vA 67, vI v6, vI x2, vI x3, vI x4, vI x5]) (dA D_X12_findFixed 82 rfl) (by decide) rfl ?_
      refine x_aload_n (dA D_X12_findFixed 83 rfl) rfl ?_
      refine x_get (v := vA 88) (dA D_X12_findFixed 84 rfl) fw_RX12_94 (sO_67 hM3) (congrArg (rfV G) (sR_67_40 hM3)) ?_
      refine x_aload_n (dA D_X12_findFixed 85 rfl) rfl ?_
      refine x_get (v := vI (rd M3 67 41)) (dA D_X12_findFixed 86 rfl) fw_RX12_424 (sO_67 hM3) rfl ?_
      refine x_iald (dA D_X12_findFixed 87 rfl) (sA_88 hM3 h4 h5) ?_
      refine x_iconst (dA D_X12_findFixed 88 rfl) ?_
      refine x_iadd (dA D_X12_findFixed 89 rfl) ?_
      refine x_nmI (fun v7 ev7 => ?_)
      have h := h v7 ev7
      refine x_istore_n (xs' := [vA 67, vI v6, vI v7, vI x3, vI x4, vI x5]) (dA D_X12_findFixed 90 rfl) (by decide) rfl ?_
      refine x_goto (tgt := 159) (dA D_X12_findFixed 91 rfl) (by decide) ?_
      refine x_goto (tgt := 21) (dA D_X12_findFixed 94 rfl) (by decide) ?_
      refine X.weak (xs' := [vA 67, vI v6, vI v7, vI x3, vU, vU]) ⟨Or.inl rfl, Or.inl rfl, Or.inl rfl, Or.inl rfl, Or.inr rfl, Or.inr rfl, trivial⟩ ?_
      exact h
  · have h := h.2 c
    refine x_aload_n (dA D_X12_findFixed 41 rfl) rfl ?_
    refine x_get (v := vA 88) (dA D_X12_findFixed 42 rfl) fw_RX12_94 (sO_67 hS) (congrArg (rfV G) (sR_67_40 hS)) ?_
    refine x_aload_n (dA D_X12_findFixed 43 rfl) rfl ?_
    refine x_get (v := vI (rd M 67 41)) (dA D_X12_findFixed 44 rfl) fw_RX12_424 (sO_67 hS) rfl ?_
    refine x_iload (dA D_X12_findFixed 45 rfl) rfl ?_
    obtain ⟨h8, h⟩ := h
    obtain ⟨h9, h⟩ := h
    refine x_iast (dA D_X12_findFixed 46 rfl) (sA_88 hS h8 h9) ?_
    refine x_nmM (fun M10 eM10 => ?_)
    have hM10 : Sh M10 := eM10 ▸ (sW_88 hS)
    have h := h M10 eM10 hM10
    refine x_aload_n (dA D_X12_findFixed 47 rfl) rfl ?_
    refine x_dup (dA D_X12_findFixed 48 rfl) rfl ?_
    refine x_get (v := vI (rd M10 67 41)) (dA D_X12_findFixed 49 rfl) fw_RX12_424 (sO_67 hM10) rfl ?_
    refine x_iconst (dA D_X12_findFixed 50 rfl) ?_
    refine x_iadd (dA D_X12_findFixed 51 rfl) ?_
    refine x_put (x := (rd M10 67 41) + 1) (dA D_X12_findFixed 52 rfl) fw_RX12_424 (fun _ _ hc => by cases hc; exact Or.inl rfl) (sO_67 hM10) rfl rfl rfl ?_
    refine x_nmM (fun M11 eM11 => ?_)
    have hM11 : Sh M11 := eM11 ▸ (sW_67_41 hM10)
    have h := h M11 eM11 hM11
    refine x_iload_n (dA D_X12_findFixed 53 rfl) rfl ?_
    refine x_iconst (dA D_X12_findFixed 54 rfl) ?_
    refine x_iload (dA D_X12_findFixed 55 rfl) rfl ?_
    refine x_ishl (dA D_X12_findFixed 56 rfl) ?_
    refine x_ior (dA D_X12_findFixed 57 rfl) ?_
    refine x_nmI (fun v12 ev12 => ?_)
    have h := h v12 ev12
    refine x_istore_n (xs' := [vA 67, vI v12, vI x2, vI x3, vI x4, vI x5]) (dA D_X12_findFixed 58 rfl) (by decide) rfl ?_
    refine x_iconst (dA D_X12_findFixed 59 rfl) ?_
    refine x_istore_n (xs' := [vA 67, vI v12, vI 0, vI x3, vI x4, vI x5]) (dA D_X12_findFixed 60 rfl) (by decide) rfl ?_
    refine x_goto (tgt := 159) (dA D_X12_findFixed 61 rfl) (by decide) ?_
    refine x_goto (tgt := 21) (dA D_X12_findFixed 94 rfl) (by decide) ?_
    refine X.weak (xs' := [vA 67, vI v12, vI 0, vI x3, vU, vU]) ⟨Or.inl rfl, Or.inl rfl, Or.inl rfl, Or.inl rfl, Or.inr rfl, Or.inr rfl, trivial⟩ ?_
    exact h
set_option maxRecDepth 100000 in
theorem B_X12_choose_0 {G : GG} {d : Nat} {k n : Nat} {x1 : Int} {M : MM} {Q : PV → MM → Prop} (hd : 2 ≤ d) (hS : Sh M) (h : inR x1 ∧ ((x1 ≠ 0 → ((x1 ≠ 1 → ((x1 ≠ 2 → C G Y_X12_findFixed (d - 1) 0 0 [vA 67] M (rU (fun M2 => Sh M2 ∧ C G Y_X12_chooseRow (d - 1) 0 0 [vA 67, vA 89, vI 0, vI (rd M2 67 43)] M2 (rU (fun M3 => Sh M3 ∧ Q vU M3))))) ∧ (x1 = 2 → C G Y_X12_reckon_ (d - 1) 0 0 [vA 67, vI 8, vI 1] M (rU (fun M4 => Sh M4 ∧ Q vU M4))))) ∧ (x1 = 1 → C G Y_X12_chooseMost (d - 1) 0 0 [vA 67] M (rU (fun M5 => Sh M5 ∧ Q vU M5))))) ∧ (x1 = 0 → C G Y_X12_chooseRow (d - 1) 0 0 [vA 67, vA 69, vI 45, vI (rd M 69 3)] M (rU (fun M6 => Sh M6 ∧ Q vU M6))))) : X G Y_X12_choose d k n 0 [vA 67, vI x1] [] M Q := by
  have hd1 : 1 ≤ d := by omega
  refine x_iload_n (dA D_X12_choose 0 rfl) rfl ?_
  obtain ⟨h1, h⟩ := h
  refine x_if_neP (tgt := 23) (dA D_X12_choose 1 rfl) (by decide) h1 ⟨fun c => ?_, fun c => ?_⟩
  · have h := h.1 c
    refine x_iload_n (dA D_X12_choose 12 rfl) rfl ?_
    refine x_iconst (dA D_X12_choose 13 rfl) ?_
    refine x_icmp_neP (tgt := 35) (dA D_X12_choose 14 rfl) (by decide) h1 ⟨by decide, by decide⟩ ⟨fun c => ?_, fun c => ?_⟩
    · have h := h.1 c
      refine x_iload_n (dA D_X12_choose 18 rfl) rfl ?_
      refine x_iconst (dA D_X12_choose 19 rfl) ?_
      refine x_icmp_neP (tgt := 50) (dA D_X12_choose 20 rfl) (by decide) h1 ⟨by decide, by decide⟩ ⟨fun c => ?_, fun c => ?_⟩
      · have h := h.1 c
        refine x_aload_n (dA D_X12_choose 26 rfl) rfl ?_
        refine x_callV 11 [] [] (dA D_X12_choose 27 rfl) cw_RX12_451 rfl rfl (Nat.le_of_ble_eq_true rfl) (by decide) rfl hd1 (zk k) (zk n) (sO_67 hS) h (kU (fun M2 h => ?_))
        obtain ⟨hM2, h⟩ := h
        refine x_aload_n (dA D_X12_choose 28 rfl) rfl ?_
        refine x_aload_n (dA D_X12_choose 29 rfl) rfl ?_
        refine x_get (v := vA 89) (dA D_X12_choose 30 rfl) fw_RX12_97 (sO_67 hM2) (congrArg (rfV G) (sR_67_42 hM2)) ?_
        refine x_iconst (dA D_X12_choose 31 rfl) ?_
        refine x_aload_n (dA D_X12_choose 32 rfl) rfl ?_
        refine x_get (v := vI (rd M2 67 43)) (dA D_X12_choose 33 rfl) fw_RX12_437 (sO_67 hM2) rfl ?_
        refine x_callV 11 [vA 89, vI 0, vI (rd M2 67 43)] [] (dA D_X12_choose 34 rfl) cw_RX12_427 rfl rfl (Nat.le_of_ble_eq_true rfl) (by decide) rfl hd1 (zk k) (zk n) (sO_67 hM2) h (kU (fun M3 h => ?_))
        obtain ⟨hM3, h⟩ := h
        exact x_return (dA D_X12_choose 35 rfl) rfl h
      · have h := h.2 c
        refine x_aload_n (dA D_X12_choose 21 rfl) rfl ?_
        refine x_bipush (dA D_X12_choose 22 rfl) (by decide) (by decide) ?_
        refine x_iconst (dA D_X12_choose 23 rfl) ?_
        refine x_callV 11 [vI 8, vI 1] [] (dA D_X12_choose 24 rfl) cw_RX12_448 rfl rfl (Nat.le_of_ble_eq_true rfl) (by decide) rfl hd1 (zk k) (zk n) (sO_67 hS) h (kU (fun M4 h => ?_))
        obtain ⟨hM4, h⟩ := h
        refine x_goto (tgt := 67) (dA D_X12_choose 25 rfl) (by decide) ?_
        exact x_return (dA D_X12_choose 35 rfl) rfl h
    · have h := h.2 c
      refine x_aload_n (dA D_X12_choose 15 rfl) rfl ?_
      refine x_callV 11 [] [] (dA D_X12_choose 16 rfl) cw_RX12_445 rfl rfl (Nat.le_of_ble_eq_true rfl) (by decide) rfl hd1 (zk k) (zk n) (sO_67 hS) h (kU (fun M5 h => ?_))
      obtain ⟨hM5, h⟩ := h
      refine x_goto (tgt := 67) (dA D_X12_choose 17 rfl) (by decide) ?_
      exact x_return (dA D_X12_choose 35 rfl) rfl h
  · have h := h.2 c
    refine x_aload_n (dA D_X12_choose 2 rfl) rfl ?_
    refine x_aload_n (dA D_X12_choose 3 rfl) rfl ?_
    refine x_get (v := vA 69) (dA D_X12_choose 4 rfl) fw_RX12_13 (sO_67 hS) (congrArg (rfV G) (sR_67_3 hS)) ?_
    refine x_bipush (dA D_X12_choose 5 rfl) (by decide) (by decide) ?_
    refine x_aload_n (dA D_X12_choose 6 rfl) rfl ?_
    refine x_get (v := vA 69) (dA D_X12_choose 7 rfl) fw_RX12_13 (sO_67 hS) (congrArg (rfV G) (sR_67_3 hS)) ?_
    refine x_iconst (dA D_X12_choose 8 rfl) ?_
    refine x_iald (dA D_X12_choose 9 rfl) (sA_69 hS (by decide) (by decide)) ?_
    refine x_callV 11 [vA 69, vI 45, vI (rd M 69 3)] [] (dA D_X12_choose 10 rfl) cw_RX12_427 rfl rfl (Nat.le_of_ble_eq_true rfl) (by decide) rfl hd1 (zk k) (zk n) (sO_67 hS) h (kU (fun M6 h => ?_))
    obtain ⟨hM6, h⟩ := h
    refine x_goto (tgt := 67) (dA D_X12_choose 11 rfl) (by decide) ?_
    exact x_return (dA D_X12_choose 35 rfl) rfl h
theorem C_X12_choose {G : GG} {d : Nat} {x1 : Int} {M : MM} {Q : PV → MM → Prop} (h : X G Y_X12_choose d 0 0 0 [vA 67, vI x1] [] M Q) : C G Y_X12_choose d 0 0 [vA 67, vI x1] M Q := X.entry (by decide) (Nat.le_of_ble_eq_true rfl) rfl rfl rfl h
set_option maxRecDepth 100000 in
theorem B_X12_findRoot_0 {G : GG} {d : Nat} {k n : Nat} {x1 x2 : Int} {M : MM} {Q : PV → MM → Prop} (hd : 2 ≤ d) (hS : Sh M) (h : C G Y_X12_choose (d - 1) 0 0 [vA 67, vI x1] M (rU (fun M1 => Sh M1 ∧ C G Y_X12_reckon_ (d - 1) 0 0 [vA 67, vI x2, vI 0] M1 (rU (fun M2 => Sh M2 ∧ X G Y_X12_findRoot d k n 13 [vA 67, vI x1, vI x2, vI 0] [] M2 Q))))) : X G Y_X12_findRoot d k n 0 [vA 67, vI x1, vI x2, vU] [] M Q := by
  have hd1 : 1 ≤ d := by omega
  refine x_aload_n (dA D_X12_findRoot 0 rfl) rfl ?_
  refine x_iload_n (dA D_X12_findRoot 1 rfl) rfl ?_
  refine x_callV 11 [vI x1] [] (dA D_X12_findRoot 2 rfl) cw_RX12_454 rfl rfl (Nat.le_of_ble_eq_true rfl) (by decide) rfl hd1 (zk k) (zk n) (sO_67 hS) h (kU (fun M1 h => ?_))
  obtain ⟨hM1, h⟩ := h
  refine x_aload_n (dA D_X12_findRoot 3 rfl) rfl ?_
  refine x_iload_n (dA D_X12_findRoot 4 rfl) rfl ?_
  refine x_iconst (dA D_X12_findRoot 5 rfl) ?_
  refine x_callV 11 [vI x2, vI 0] [] (dA D_X12_findRoot 6 rfl) cw_RX12_448 rfl rfl (Nat.le_of_ble_eq_true rfl) (by decide) rfl hd1 (zk k) (zk n) (sO_67 hM1) h (kU (fun M2 h => ?_))
  obtain ⟨hM2, h⟩ := h
  refine x_iconst (dA D_X12_findRoot 7 rfl) ?_
  refine x_istore_n (xs' := [vA 67, vI x1, vI x2, vI 0]) (dA D_X12_findRoot 8 rfl) (by decide) rfl ?_
  exact h
theorem C_X12_findRoot {G : GG} {d : Nat} {x1 x2 : Int} {M : MM} {Q : PV → MM → Prop} (h : X G Y_X12_findRoot d 0 0 0 [vA 67, vI x1, vI x2, vU] [] M Q) : C G Y_X12_findRoot d 0 0 [vA 67, vI x1, vI x2] M Q := X.entry (by decide) (Nat.le_of_ble_eq_true rfl) rfl rfl rfl h
set_option maxRecDepth 100000 in
theorem B_X12_findRoot_13 {G : GG} {d : Nat} {k n : Nat} {x1 x2 x3 : Int} {M : MM} {Q : PV → MM → Prop} (hd : 3 ≤ d) (hS : Sh M) (h : inR x3 ∧ ((14 ≤ x3 → Q vU M) ∧ (x3 < 14 → 0 ≤ ((14 * ((((((((0 : Int) * 6) + (-1 : Int)) + 1) * 6) + (rd M 69 30)) * 6) + (rd M 69 33))) + x3) ∧ ((14 * ((((((((0 : Int) * 6) + (-1 : Int)) + 1) * 6) + (rd M 69 30)) * 6) + (rd M 69 33))) + x3) < 96768 ∧ 0 ≤ x3 ∧ x3 < 14 ∧ ∀ M6, M6 = wr M 85 x3 (rd M 81 ((14 * ((((((((0 : Int) * 6) + (-1 : Int)) + 1) * 6) + (rd M 69 30)) * 6) + (rd M 69 33))) + x3)) → Sh M6 → X G Y_X12_findRoot d k n 13 [vA 67, vI x1, vI x2, vI (x3 + 1)] [] M6 Q))) : X G Y_X12_findRoot d k n 13 [vA 67, vI x1, vI x2, vI x3] [] M Q := by
  have hd1 : 1 ≤ d := by omega
  refine x_iload_n (dA D_X12_findRoot 9 rfl) rfl ?_
  refine x_bipush (dA D_X12_findRoot 10 rfl) (by decide) (by decide) ?_
  obtain ⟨h1, h⟩ := h
  refine x_icmp_geP (tgt := 42) (dA D_X12_findRoot 11 rfl) (by decide) h1 ⟨by decide, by decide⟩ ⟨fun c => ?_, fun c => ?_⟩
  · have h := h.1 c
    exact x_return (dA D_X12_findRoot 25 rfl) rfl h
  · have h := h.2 c
    refine x_aload_n (dA D_X12_findRoot 12 rfl) rfl ?_
    refine x_get (v := vA 85) (dA D_X12_findRoot 13 rfl) fw_RX12_82 (sO_67 hS) (congrArg (rfV G) (sR_67_36 hS)) ?_
    refine x_iload_n (dA D_X12_findRoot 14 rfl) rfl ?_
    refine x_aload_n (dA D_X12_findRoot 15 rfl) rfl ?_
    refine x_get (v := vA 81) (dA D_X12_findRoot 16 rfl) fw_RX12_70 (sO_67 hS) (congrArg (rfV G) (sR_67_32 hS)) ?_
    refine x_aload_n (dA D_X12_findRoot 17 rfl) rfl ?_
    refine x_callV 11 [] [vA 81, vI x3, vA 85] (dA D_X12_findRoot 18 rfl) cw_RX12_434 rfl rfl (Nat.le_of_ble_eq_true rfl) (by decide) rfl hd1 (zk k) (zk n) (sO_67 hS) (S_X12_rootAt hS  (by omega) ?_) (kI (fun _ _ h => h))
    show X G Y_X12_findRoot d k n 32 [vA 67, vI x1, vI x2, vI x3] [vI (14 * ((((((((0 : Int) * 6) + (-1 : Int)) + 1) * 6) + (rd M 69 30)) * 6) + (rd M 69 33))), vA 81, vI x3, vA 85] M Q
    refine x_iload_n (dA D_X12_findRoot 19 rfl) rfl ?_
    refine x_iadd (dA D_X12_findRoot 20 rfl) ?_
    obtain ⟨h2, h⟩ := h
    obtain ⟨h3, h⟩ := h
    refine x_lald (dA D_X12_findRoot 21 rfl) (sA_81 hS h2 h3) ?_
    obtain ⟨h4, h⟩ := h
    obtain ⟨h5, h⟩ := h
    refine x_last (dA D_X12_findRoot 22 rfl) (sA_85 hS h4 h5) ?_
    refine x_nmM (fun M6 eM6 => ?_)
    have hM6 : Sh M6 := eM6 ▸ (sW_85 hS)
    have h := h M6 eM6 hM6
    refine x_iinc (xs' := [vA 67, vI x1, vI x2, vI (x3 + 1)]) (dA D_X12_findRoot 23 rfl) rfl (by decide) rfl ?_
    refine x_goto (tgt := 13) (dA D_X12_findRoot 24 rfl) (by decide) ?_
    exact h
set_option maxRecDepth 100000 in
theorem B_X12_digits_0 {G : GG} {d : Nat} {k n : Nat} {x0 x1 : Int} {M : MM} {Q : PV → MM → Prop} (hd : 1 ≤ d) (h : X G Y_X12_digits d k n 6 [vA x0, vI x1, vL 0, vU, vI 111] [] M Q) : X G Y_X12_digits d k n 0 [vA x0, vI x1, vU, vU, vU] [] M Q := by
  have hd1 : 1 ≤ d := by omega
  refine x_lconst (a := 0) (dA D_X12_digits 0 rfl) (by decide) ?_
  refine x_lstore_n (xs' := [vA x0, vI x1, vL 0, vU, vU]) (dA D_X12_digits 1 rfl) (by decide) rfl ?_
  refine x_bipush (dA D_X12_digits 2 rfl) (by decide) (by decide) ?_
  refine x_istore (xs' := [vA x0, vI x1, vL 0, vU, vI 111]) (dA D_X12_digits 3 rfl) (by decide) rfl ?_
  exact h
theorem C_X12_digits {G : GG} {d : Nat} {x0 x1 : Int} {M : MM} {Q : PV → MM → Prop} (h : X G Y_X12_digits d 0 0 0 [vA x0, vI x1, vU, vU, vU] [] M Q) : C G Y_X12_digits d 0 0 [vA x0, vI x1] M Q := X.entry (by decide) (Nat.le_of_ble_eq_true rfl) rfl rfl rfl h
set_option maxRecDepth 100000 in
theorem B_X12_digits_6 {G : GG} {d : Nat} {k n : Nat} {x0 x1 x2 x4 : Int} {M : MM} {Q : PV → MM → Prop} (hd : 2 ≤ d) (h : inR x4 ∧ inR x1 ∧ ((x4 < x1 → Q (vL x2) M) ∧ (x1 ≤ x4 → Ar M x0 0 14 ∧ nrm (rd M x0) 0 14 ∧ (0 ≤ x4 ∧ x4 < 112) ∧ inR (digF (rd M x0) x4) ∧ ∀ v7, v7 = (x2 * 10) + (digF (rd M x0) x4) → X G Y_X12_digits d k n 6 [vA x0, vI x1, vL v7, vU, vI (x4 + (-1))] [] M Q))) : X G Y_X12_digits d k n 6 [vA x0, vI x1, vL x2, vU, vI x4] [] M Q := by
  have hd1 : 1 ≤ d := by omega
  refine x_iload (dA D_X12_digits 4 rfl) rfl ?_
  refine x_iload_n (dA D_X12_digits 5 rfl) rfl ?_
  obtain ⟨h1, h⟩ := h
  obtain ⟨h2, h⟩ := h
  refine x_icmp_ltP (tgt := 32) (dA D_X12_digits 6 rfl) (by decide) h1 h2 ⟨fun c => ?_, fun c => ?_⟩
  · have h := h.1 c
    refine x_lload_n (dA D_X12_digits 18 rfl) rfl ?_
    exact x_lreturn (dA D_X12_digits 19 rfl) rfl h
  · have h := h.2 c
    refine x_lload_n (dA D_X12_digits 7 rfl) rfl ?_
    refine x_ldc2 (a := 10) (dA D_X12_digits 8 rfl) kl_RX12_212 (by decide) ?_
    refine x_lmul (dA D_X12_digits 9 rfl) ?_
    refine x_aload_n (dA D_X12_digits 10 rfl) rfl ?_
    refine x_iload (dA D_X12_digits 11 rfl) rfl ?_
    obtain ⟨h3, h⟩ := h
    obtain ⟨h4, h⟩ := h
    obtain ⟨h5, h⟩ := h
    refine x_callS [vA x0, vI x4] [vL (x2 * 10)] (dA D_X12_digits 12 rfl) cw_RX12_363 rfl rfl (Nat.le_of_ble_eq_true rfl) hd1 (zk k) (zk n) (S_X12_digit h3 h4 h5 (by omega) ?_) (kI (fun _ _ h => h))
    show X G Y_X12_digits d k n 23 [vA x0, vI x1, vL x2, vU, vI x4] [vI (digF (rd M x0) x4), vL (x2 * 10)] M Q
    obtain ⟨h6, h⟩ := h
    refine x_i2l (dA D_X12_digits 13 rfl) h6 ?_
    refine x_ladd (dA D_X12_digits 14 rfl) ?_
    refine x_nmL (fun v7 ev7 => ?_)
    have h := h v7 ev7
    refine x_lstore_n (xs' := [vA x0, vI x1, vL v7, vU, vI x4]) (dA D_X12_digits 15 rfl) (by decide) rfl ?_
    refine x_iinc (xs' := [vA x0, vI x1, vL v7, vU, vI (x4 + (-1))]) (dA D_X12_digits 16 rfl) rfl (by decide) rfl ?_
    refine x_goto (tgt := 6) (dA D_X12_digits 17 rfl) (by decide) ?_
    exact h
set_option maxRecDepth 100000 in
theorem B_X12_lessOf_0 {G : GG} {d : Nat} {k n : Nat} {x1 x2 x3 : Int} {M : MM} {Q : PV → MM → Prop} (hd : 2 ≤ d) (hS : Sh M) (h : Ar M x1 x2 14 ∧ Ar M x3 (0 : Int) 14 ∧ nrm (rd M x1) x2 14 ∧ nrm (rd M x3) (0 : Int) 14 ∧ ∀ v5, v5 = cmpI (vl (rd M x1) x2 14) (vl (rd M x3) (0 : Int) 14) → Ar M (84 : Int) (0 : Int) 14 ∧ ∀ M7, (Ch M M7 (84 : Int) (0 : Int) 14 ∧ ∀ i : Int, 0 ≤ i → i < 14 → rd M7 (84 : Int) ((0 : Int) + i) = 0) → Sh M7 → X G Y_X12_lessOf d k n 23 [vA 67, vA x1, vI x2, vA x3, vI v5, vL 0, vU, vI 0, vU, vU] [] M7 Q) : X G Y_X12_lessOf d k n 0 [vA 67, vA x1, vI x2, vA x3, vU, vU, vU, vU, vU, vU] [] M Q := by
  have hd1 : 1 ≤ d := by omega
  refine x_aload_n (dA D_X12_lessOf 0 rfl) rfl ?_
  refine x_iload_n (dA D_X12_lessOf 1 rfl) rfl ?_
  refine x_aload_n (dA D_X12_lessOf 2 rfl) rfl ?_
  refine x_iconst (dA D_X12_lessOf 3 rfl) ?_
  obtain ⟨h1, h⟩ := h
  obtain ⟨h2, h⟩ := h
  obtain ⟨h3, h⟩ := h
  obtain ⟨h4, h⟩ := h
  refine x_callS [vA x1, vI x2, vA x3, vI 0] [] (dA D_X12_lessOf 4 rfl) cw_RX12_414 rfl rfl (Nat.le_of_ble_eq_true rfl) hd1 (zk k) (zk n) (T_X12_compare h1 h2 h3 h4 (by omega) ?_) (kI (fun _ _ h => h))
  show X G Y_X12_lessOf d k n 7 [vA 67, vA x1, vI x2, vA x3, vU, vU, vU, vU, vU, vU] [vI (cmpI (vl (rd M x1) x2 14) (vl (rd M x3) (0 : Int) 14))] M Q
  refine x_nmI (fun v5 ev5 => ?_)
  have h := h v5 ev5
  refine x_istore (xs' := [vA 67, vA x1, vI x2, vA x3, vI v5, vU, vU, vU, vU, vU]) (dA D_X12_lessOf 5 rfl) (by decide) rfl ?_
  refine x_aload_n (dA D_X12_lessOf 6 rfl) rfl ?_
  refine x_get (v := vA 84) (dA D_X12_lessOf 7 rfl) fw_RX12_79 (sO_67 hS) (congrArg (rfV G) (sR_67_35 hS)) ?_
  refine x_iconst (dA D_X12_lessOf 8 rfl) ?_
  obtain ⟨h6, h⟩ := h
  refine x_callS [vA 84, vI 0] [] (dA D_X12_lessOf 9 rfl) cw_RX12_376 rfl rfl (Nat.le_of_ble_eq_true rfl) hd1 (zk k) (zk n) (T_X12_clear hS h6 (by omega) (fun M7 p9 hM7 => ?_)) (kU (fun _ h => h))
  have h := h M7 p9 hM7
  show X G Y_X12_lessOf d k n 17 [vA 67, vA x1, vI x2, vA x3, vI v5, vU, vU, vU, vU, vU] [] M7 Q
  refine x_lconst (a := 0) (dA D_X12_lessOf 10 rfl) (by decide) ?_
  refine x_lstore (xs' := [vA 67, vA x1, vI x2, vA x3, vI v5, vL 0, vU, vU, vU, vU]) (dA D_X12_lessOf 11 rfl) (by decide) rfl ?_
  refine x_iconst (dA D_X12_lessOf 12 rfl) ?_
  refine x_istore (xs' := [vA 67, vA x1, vI x2, vA x3, vI v5, vL 0, vU, vI 0, vU, vU]) (dA D_X12_lessOf 13 rfl) (by decide) rfl ?_
  exact h
theorem C_X12_lessOf {G : GG} {d : Nat} {x1 x2 x3 : Int} {M : MM} {Q : PV → MM → Prop} (h : X G Y_X12_lessOf d 0 0 0 [vA 67, vA x1, vI x2, vA x3, vU, vU, vU, vU, vU, vU] [] M Q) : C G Y_X12_lessOf d 0 0 [vA 67, vA x1, vI x2, vA x3] M Q := X.entry (by decide) (Nat.le_of_ble_eq_true rfl) rfl rfl rfl h
set_option maxRecDepth 100000 in
theorem B_X12_lessOf_23 {G : GG} {d : Nat} {k n : Nat} {x1 x2 x3 x4 x5 x7 : Int} {M : MM} {Q : PV → MM → Prop} (hd : 2 ≤ d) (hS : Sh M) (h : inR x7 ∧ ((14 ≤ x7 → C G Y_X12_digits (d - 1) 0 0 [vA 84, vI 98] M (rL (fun r3 M2 => Sh M2 ∧ inR x4 ∧ Q (vI (if 0 ≤ x4 then r3 else (-r3))) M2))) ∧ (x7 < 14 → inR x4 ∧ ((x4 < 0 → okA M x3 21 x7 ∧ okA M x1 21 (x2 + x7) ∧ ∀ v13, v13 = (rd M x3 x7) - (rd M x1 (x2 + x7)) → ∀ v14, v14 = v13 - x5 → inL v14 ∧ ∀ v20, v20 = (if 0 ≤ v14 then 0 else 1) → 0 ≤ x7 ∧ x7 < 14 ∧ ∀ M29, M29 = wr M 84 x7 (if 0 ≤ v14 then v14 else (v14 + 100000000)) → Sh M29 → X G Y_X12_lessOf d k n 23 [vA 67, vA x1, vI x2, vA x3, vI x4, vL v20, vU, vI (x7 + 1), vU, vU] [] M29 Q) ∧ (0 ≤ x4 → okA M x1 21 (x2 + x7) ∧ okA M x3 21 x7 ∧ ∀ v32, v32 = (rd M x1 (x2 + x7)) - (rd M x3 x7) → ∀ v33, v33 = v32 - x5 → inL v33 ∧ ∀ v39, v39 = (if 0 ≤ v33 then 0 else 1) → 0 ≤ x7 ∧ x7 < 14 ∧ ∀ M48, M48 = wr M 84 x7 (if 0 ≤ v33 then v33 else (v33 + 100000000)) → Sh M48 → X G Y_X12_lessOf d k n 23 [vA 67, vA x1, vI x2, vA x3, vI x4, vL v39, vU, vI (x7 + 1), vU, vU] [] M48 Q))))) : X G Y_X12_lessOf d k n 23 [vA 67, vA x1, vI x2, vA x3, vI x4, vL x5, vU, vI x7, vU, vU] [] M Q := by
  have hd1 : 1 ≤ d := by omega
  refine x_iload (dA D_X12_lessOf 14 rfl) rfl ?_
  refine x_bipush (dA D_X12_lessOf 15 rfl) (by decide) (by decide) ?_
  obtain ⟨h1, h⟩ := h
  refine x_icmp_geP (tgt := 114) (dA D_X12_lessOf 16 rfl) (by decide) h1 ⟨by decide, by decide⟩ ⟨fun c => ?_, fun c => ?_⟩
  · have h := h.1 c
    refine x_aload_n (dA D_X12_lessOf 66 rfl) rfl ?_
    refine x_get (v := vA 84) (dA D_X12_lessOf 67 rfl) fw_RX12_79 (sO_67 hS) (congrArg (rfV G) (sR_67_35 hS)) ?_
    refine x_bipush (dA D_X12_lessOf 68 rfl) (by decide) (by decide) ?_
    refine x_callS [vA 84, vI 98] [] (dA D_X12_lessOf 69 rfl) cw_RX12_463 rfl rfl (Nat.le_of_ble_eq_true rfl) hd1 (zk k) (zk n) h (kL' (fun r3 M2 h => ?_))
    obtain ⟨hM2, h⟩ := h
    refine x_l2i (dA D_X12_lessOf 70 rfl) ?_
    refine x_istore (xs' := [vA 67, vA x1, vI x2, vA x3, vI x4, vL x5, vU, vI r3, vU, vU]) (dA D_X12_lessOf 71 rfl) (by decide) rfl ?_
    refine x_iload (dA D_X12_lessOf 72 rfl) rfl ?_
    obtain ⟨h5, h⟩ := h
    have hJ : X G Y_X12_lessOf d k n 139 [vA 67, vA x1, vI x2, vA x3, vI x4, vL x5, vU, vI r3, vU, vU] [vI (if 0 ≤ x4 then r3 else (-r3))] M2 Q := by
      exact x_ireturn (dA D_X12_lessOf 78 rfl) rfl h
    refine x_if_geP (tgt := 137) (dA D_X12_lessOf 73 rfl) (by decide) h5 ⟨fun c4 => ?_, fun c4 => ?_⟩
    · refine x_iload (dA D_X12_lessOf 77 rfl) rfl ?_
      rw [if_pos c4] at hJ
      exact hJ
    · refine x_iload (dA D_X12_lessOf 74 rfl) rfl ?_
      refine x_ineg (dA D_X12_lessOf 75 rfl) ?_
      refine x_goto (tgt := 139) (dA D_X12_lessOf 76 rfl) (by decide) ?_
      rw [if_neg (by first | omega | grind)] at hJ
      exact hJ
  · have h := h.2 c
    refine x_iload (dA D_X12_lessOf 17 rfl) rfl ?_
    obtain ⟨h10, h⟩ := h
    refine x_if_ltP (tgt := 49) (dA D_X12_lessOf 18 rfl) (by decide) h10 ⟨fun c => ?_, fun c => ?_⟩
    · have h := h.1 c
      refine x_aload_n (dA D_X12_lessOf 29 rfl) rfl ?_
      refine x_iload (dA D_X12_lessOf 30 rfl) rfl ?_
      obtain ⟨h11, h⟩ := h
      refine x_lald (dA D_X12_lessOf 31 rfl) h11 ?_
      refine x_aload_n (dA D_X12_lessOf 32 rfl) rfl ?_
      refine x_iload_n (dA D_X12_lessOf 33 rfl) rfl ?_
      refine x_iload (dA D_X12_lessOf 34 rfl) rfl ?_
      refine x_iadd (dA D_X12_lessOf 35 rfl) ?_
      obtain ⟨h12, h⟩ := h
      refine x_lald (dA D_X12_lessOf 36 rfl) h12 ?_
      refine x_lsub (dA D_X12_lessOf 37 rfl) ?_
      refine x_nmL (fun v13 ev13 => ?_)
      have h := h v13 ev13
      refine x_lstore (xs' := [vA 67, vA x1, vI x2, vA x3, vI x4, vL x5, vU, vI x7, vL v13, vU]) (dA D_X12_lessOf 38 rfl) (by decide) rfl ?_
      refine x_lload (dA D_X12_lessOf 39 rfl) rfl ?_
      refine x_lload (dA D_X12_lessOf 40 rfl) rfl ?_
      refine x_lsub (dA D_X12_lessOf 41 rfl) ?_
      refine x_nmL (fun v14 ev14 => ?_)
      have h := h v14 ev14
      refine x_lstore (xs' := [vA 67, vA x1, vI x2, vA x3, vI x4, vL x5, vU, vI x7, vL v14, vU]) (dA D_X12_lessOf 42 rfl) (by decide) rfl ?_
      refine x_lload (dA D_X12_lessOf 43 rfl) rfl ?_
      refine x_lconst (a := 0) (dA D_X12_lessOf 44 rfl) (by decide) ?_
      obtain ⟨h16, h⟩ := h
      have hJ : X G Y_X12_lessOf d k n 81 [vA 67, vA x1, vI x2, vA x3, vI x4, vL x5, vU, vI x7, vL v14, vU] [vL (if 0 ≤ v14 then 0 else 1)] M Q := by
        refine x_nmL (fun v20 ev20 => ?_)
        have h := h v20 ev20
        refine x_lstore (xs' := [vA 67, vA x1, vI x2, vA x3, vI x4, vL v20, vU, vI x7, vL v14, vU]) (dA D_X12_lessOf 50 rfl) (by decide) rfl ?_
        refine x_aload_n (dA D_X12_lessOf 51 rfl) rfl ?_
        refine x_get (v := vA 84) (dA D_X12_lessOf 52 rfl) fw_RX12_79 (sO_67 hS) (congrArg (rfV G) (sR_67_35 hS)) ?_
        refine x_iload (dA D_X12_lessOf 53 rfl) rfl ?_
        refine x_lload (dA D_X12_lessOf 54 rfl) rfl ?_
        refine x_lconst (a := 0) (dA D_X12_lessOf 55 rfl) (by decide) ?_
        have hJ : X G Y_X12_lessOf d k n 107 [vA 67, vA x1, vI x2, vA x3, vI x4, vL v20, vU, vI x7, vL v14, vU] [vL (if 0 ≤ v14 then v14 else (v14 + 100000000)), vI x7, vA 84] M Q := by
          obtain ⟨h27, h⟩ := h
          obtain ⟨h28, h⟩ := h
          refine x_last (dA D_X12_lessOf 63 rfl) (sA_84 hS h27 h28) ?_
          refine x_nmM (fun M29 eM29 => ?_)
          have hM29 : Sh M29 := eM29 ▸ (sW_84 hS)
          have h := h M29 eM29 hM29
          refine x_iinc (xs' := [vA 67, vA x1, vI x2, vA x3, vI x4, vL v20, vU, vI (x7 + 1), vL v14, vU]) (dA D_X12_lessOf 64 rfl) rfl (by decide) rfl ?_
          refine x_goto (tgt := 23) (dA D_X12_lessOf 65 rfl) (by decide) ?_
          refine X.weak (xs' := [vA 67, vA x1, vI x2, vA x3, vI x4, vL v20, vU, vI (x7 + 1), vU, vU]) ⟨Or.inl rfl, Or.inl rfl, Or.inl rfl, Or.inl rfl, Or.inl rfl, Or.inl rfl, Or.inl rfl, Or.inl rfl, Or.inr rfl, Or.inl rfl, trivial⟩ ?_
          exact h
        refine x_lcmp_geP (tgt := 105) (dA D_X12_lessOf 56 rfl) (dA D_X12_lessOf 57 rfl) (by decide) h16 ⟨by decide, by decide⟩ ⟨fun c21 => ?_, fun c21 => ?_⟩
        · refine x_lload (dA D_X12_lessOf 62 rfl) rfl ?_
          rw [if_pos c21] at hJ
          exact hJ
        · refine x_lload (dA D_X12_lessOf 58 rfl) rfl ?_
          refine x_ldc2 (a := 100000000) (dA D_X12_lessOf 59 rfl) kl_RX12_359 (by decide) ?_
          refine x_ladd (dA D_X12_lessOf 60 rfl) ?_
          refine x_goto (tgt := 107) (dA D_X12_lessOf 61 rfl) (by decide) ?_
          rw [if_neg (by first | omega | grind)] at hJ
          exact hJ
      refine x_lcmp_geP (tgt := 80) (dA D_X12_lessOf 45 rfl) (dA D_X12_lessOf 46 rfl) (by decide) h16 ⟨by decide, by decide⟩ ⟨fun c15 => ?_, fun c15 => ?_⟩
      · refine x_lconst (a := 0) (dA D_X12_lessOf 49 rfl) (by decide) ?_
        rw [if_pos c15] at hJ
        exact hJ
      · refine x_lconst (a := 1) (dA D_X12_lessOf 47 rfl) (by decide) ?_
        refine x_goto (tgt := 81) (dA D_X12_lessOf 48 rfl) (by decide) ?_
        rw [if_neg (by first | omega | grind)] at hJ
        exact hJ
    · have h := h.2 c
      refine x_aload_n (dA D_X12_lessOf 19 rfl) rfl ?_
      refine x_iload_n (dA D_X12_lessOf 20 rfl) rfl ?_
      refine x_iload (dA D_X12_lessOf 21 rfl) rfl ?_
      refine x_iadd (dA D_X12_lessOf 22 rfl) ?_
      obtain ⟨h30, h⟩ := h
      refine x_lald (dA D_X12_lessOf 23 rfl) h30 ?_
      refine x_aload_n (dA D_X12_lessOf 24 rfl) rfl ?_
      refine x_iload (dA D_X12_lessOf 25 rfl) rfl ?_
      obtain ⟨h31, h⟩ := h
      refine x_lald (dA D_X12_lessOf 26 rfl) h31 ?_
      refine x_lsub (dA D_X12_lessOf 27 rfl) ?_
      refine x_goto (tgt := 60) (dA D_X12_lessOf 28 rfl) (by decide) ?_
      refine x_nmL (fun v32 ev32 => ?_)
      have h := h v32 ev32
      refine x_lstore (xs' := [vA 67, vA x1, vI x2, vA x3, vI x4, vL x5, vU, vI x7, vL v32, vU]) (dA D_X12_lessOf 38 rfl) (by decide) rfl ?_
      refine x_lload (dA D_X12_lessOf 39 rfl) rfl ?_
      refine x_lload (dA D_X12_lessOf 40 rfl) rfl ?_
      refine x_lsub (dA D_X12_lessOf 41 rfl) ?_
      refine x_nmL (fun v33 ev33 => ?_)
      have h := h v33 ev33
      refine x_lstore (xs' := [vA 67, vA x1, vI x2, vA x3, vI x4, vL x5, vU, vI x7, vL v33, vU]) (dA D_X12_lessOf 42 rfl) (by decide) rfl ?_
      refine x_lload (dA D_X12_lessOf 43 rfl) rfl ?_
      refine x_lconst (a := 0) (dA D_X12_lessOf 44 rfl) (by decide) ?_
      obtain ⟨h35, h⟩ := h
      have hJ : X G Y_X12_lessOf d k n 81 [vA 67, vA x1, vI x2, vA x3, vI x4, vL x5, vU, vI x7, vL v33, vU] [vL (if 0 ≤ v33 then 0 else 1)] M Q := by
        refine x_nmL (fun v39 ev39 => ?_)
        have h := h v39 ev39
        refine x_lstore (xs' := [vA 67, vA x1, vI x2, vA x3, vI x4, vL v39, vU, vI x7, vL v33, vU]) (dA D_X12_lessOf 50 rfl) (by decide) rfl ?_
        refine x_aload_n (dA D_X12_lessOf 51 rfl) rfl ?_
        refine x_get (v := vA 84) (dA D_X12_lessOf 52 rfl) fw_RX12_79 (sO_67 hS) (congrArg (rfV G) (sR_67_35 hS)) ?_
        refine x_iload (dA D_X12_lessOf 53 rfl) rfl ?_
        refine x_lload (dA D_X12_lessOf 54 rfl) rfl ?_
        refine x_lconst (a := 0) (dA D_X12_lessOf 55 rfl) (by decide) ?_
        have hJ : X G Y_X12_lessOf d k n 107 [vA 67, vA x1, vI x2, vA x3, vI x4, vL v39, vU, vI x7, vL v33, vU] [vL (if 0 ≤ v33 then v33 else (v33 + 100000000)), vI x7, vA 84] M Q := by
          obtain ⟨h46, h⟩ := h
          obtain ⟨h47, h⟩ := h
          refine x_last (dA D_X12_lessOf 63 rfl) (sA_84 hS h46 h47) ?_
          refine x_nmM (fun M48 eM48 => ?_)
          have hM48 : Sh M48 := eM48 ▸ (sW_84 hS)
          have h := h M48 eM48 hM48
          refine x_iinc (xs' := [vA 67, vA x1, vI x2, vA x3, vI x4, vL v39, vU, vI (x7 + 1), vL v33, vU]) (dA D_X12_lessOf 64 rfl) rfl (by decide) rfl ?_
          refine x_goto (tgt := 23) (dA D_X12_lessOf 65 rfl) (by decide) ?_
          refine X.weak (xs' := [vA 67, vA x1, vI x2, vA x3, vI x4, vL v39, vU, vI (x7 + 1), vU, vU]) ⟨Or.inl rfl, Or.inl rfl, Or.inl rfl, Or.inl rfl, Or.inl rfl, Or.inl rfl, Or.inl rfl, Or.inl rfl, Or.inr rfl, Or.inl rfl, trivial⟩ ?_
          exact h
        refine x_lcmp_geP (tgt := 105) (dA D_X12_lessOf 56 rfl) (dA D_X12_lessOf 57 rfl) (by decide) h35 ⟨by decide, by decide⟩ ⟨fun c40 => ?_, fun c40 => ?_⟩
        · refine x_lload (dA D_X12_lessOf 62 rfl) rfl ?_
          rw [if_pos c40] at hJ
          exact hJ
        · refine x_lload (dA D_X12_lessOf 58 rfl) rfl ?_
          refine x_ldc2 (a := 100000000) (dA D_X12_lessOf 59 rfl) kl_RX12_359 (by decide) ?_
          refine x_ladd (dA D_X12_lessOf 60 rfl) ?_
          refine x_goto (tgt := 107) (dA D_X12_lessOf 61 rfl) (by decide) ?_
          rw [if_neg (by first | omega | grind)] at hJ
          exact hJ
      refine x_lcmp_geP (tgt := 80) (dA D_X12_lessOf 45 rfl) (dA D_X12_lessOf 46 rfl) (by decide) h35 ⟨by decide, by decide⟩ ⟨fun c34 => ?_, fun c34 => ?_⟩
      · refine x_lconst (a := 0) (dA D_X12_lessOf 49 rfl) (by decide) ?_
        rw [if_pos c34] at hJ
        exact hJ
      · refine x_lconst (a := 1) (dA D_X12_lessOf 47 rfl) (by decide) ?_
        refine x_goto (tgt := 81) (dA D_X12_lessOf 48 rfl) (by decide) ?_
        rw [if_neg (by first | omega | grind)] at hJ
        exact hJ
