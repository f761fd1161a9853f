set_option maxRecDepth 100000 in
theorem B_X12_reckonScene_0 {G : GG} {d : Nat} {k n : Nat} {x1 x2 x3 x4 x5 x6 : Int} {sm : Int → LSm} {M : MM} {Q : PV → MM → Prop} (hd : 7 ≤ d) (hS : Sh M) (h : Ar M (83 : Int) (0 : Int) 14 ∧ ∀ M2, (Ch M M2 (83 : Int) (0 : Int) 14 ∧ ∀ i : Int, 0 ≤ i → i < 14 → rd M2 (83 : Int) ((0 : Int) + i) = 0) → Sh M2 → MOK M2 sm ∧ rngS x2 x3 x4 x5 x6 ∧ ((0 ≤ x1 ∧ x1 ≤ 8 ∧ -1 ≤ rd M2 67 39 ∧ rd M2 67 39 ≤ 1 ∧ (rd M2 67 39 ≠ -1 → x1 = 8))) ∧ ∀ r9 M8, (Fr KA M2 M8 ∧ r9 = brg (rd M2 69) sm (gl x1 (rd M2 67 39)) x2 x3 x4 x5 x6) → Sh M8 → 0 ≤ x3 ∧ x3 < 32 ∧ Ar M8 (83 : Int) 0 14 ∧ nrm (rd M8 (83 : Int)) 0 14 ∧ (0 ≤ r9 ∧ r9 ≤ 1000000000) ∧ ((∃ q : Int, (20 * (5 - (pop x3))) = 20 * (5 - q) ∧ 0 ≤ q ∧ q ≤ 5 ∧ vl (rd M8 (83 : Int)) 0 14 + r9 * sc q < Bp 14)) ∧ ∀ M17, (Ch M8 M17 (83 : Int) 0 14 ∧ nrm (rd M17 (83 : Int)) 0 14 ∧ ∀ q : Int, (20 * (5 - (pop x3))) = 20 * (5 - q) → 0 ≤ q → q ≤ 5 → vl (rd M17 (83 : Int)) 0 14 = vl (rd M8 (83 : Int)) 0 14 + r9 * sc q) → Sh M17 → 0 ≤ ((10 + (3 * x2)) + (2 : Int)) ∧ ((10 + (3 * x2)) + (2 : Int)) < 5460 ∧ inR (rd M17 69 ((10 + (3 * x2)) + (2 : Int))) ∧ (((rd M17 69 ((10 + (3 * x2)) + (2 : Int))) ≠ 1 → MOK M17 sm ∧ (((0 : Int) = 0 ∨ (0 : Int) = 1)) ∧ ∀ r26 M25, (Fr KA M17 M25 ∧ r26 = chn (rd M17 69) sm (0 : Int) x2 x3 x4 x5 x6) → Sh M25 → (0 ≤ (0 : Int) ∧ (0 : Int) ≤ 1) ∧ (0 ≤ x5 ∧ x5 < 6) ∧ (0 ≤ r26 ∧ r26 ≤ 100) ∧ ∀ M31, (Ch M25 M31 87 (36 * (0 : Int) + 6 * x5) 6 ∧ ∀ k : Int, 0 ≤ k → k ≤ x5 → rd M31 87 (36 * (0 : Int) + 6 * x5 + k) = stv x5 r26 k) → Sh M31 → MOK M31 sm ∧ (((1 : Int) = 0 ∨ (1 : Int) = 1)) ∧ ∀ r37 M36, (Fr KA M31 M36 ∧ r37 = chn (rd M31 69) sm (1 : Int) x2 x3 x4 x5 x6) → Sh M36 → (0 ≤ (1 : Int) ∧ (1 : Int) ≤ 1) ∧ (0 ≤ x6 ∧ x6 < 6) ∧ (0 ≤ r37 ∧ r37 ≤ 100) ∧ ∀ M42, (Ch M36 M42 87 (36 * (1 : Int) + 6 * x6) 6 ∧ ∀ k : Int, 0 ≤ k → k ≤ x6 → rd M42 87 (36 * (1 : Int) + 6 * x6 + k) = stv x6 r37 k) → Sh M42 → X G Y_X12_reckonScene d k n 91 [vA 67, vI x1, vI x2, vI x3, vI x4, vI x5, vI x6, vI 0, vU] [] M42 Q) ∧ ((rd M17 69 ((10 + (3 * x2)) + (2 : Int))) = 1 → Q vU M17))) : X G Y_X12_reckonScene d k n 0 [vA 67, vI x1, vI x2, vI x3, vI x4, vI x5, vI x6, vU, vU] [] M Q := by
  have hd1 : 1 ≤ d := by omega
  refine x_aload_n (dA D_X12_reckonScene 0 rfl) rfl ?_
  refine x_get (v := vA 83) (dA D_X12_reckonScene 1 rfl) fw_RX12_76 (sO_67 hS) (congrArg (rfV G) (sR_67_34 hS)) ?_
  refine x_iconst (dA D_X12_reckonScene 2 rfl) ?_
  obtain ⟨h1, h⟩ := h
  refine x_callS [vA 83, vI 0] [] (dA D_X12_reckonScene 3 rfl) cw_RX12_376 rfl rfl (Nat.le_of_ble_eq_true rfl) hd1 (zk k) (zk n) (T_X12_clear hS h1 (by omega) (fun M2 p4 hM2 => ?_)) (kU (fun _ h => h))
  have h := h M2 p4 hM2
  show X G Y_X12_reckonScene d k n 8 [vA 67, vI x1, vI x2, vI x3, vI x4, vI x5, vI x6, vU, vU] [] M2 Q
  refine x_aload_n (dA D_X12_reckonScene 4 rfl) rfl ?_
  refine x_get (v := vA 83) (dA D_X12_reckonScene 5 rfl) fw_RX12_76 (sO_67 hM2) (congrArg (rfV G) (sR_67_34 hM2)) ?_
  refine x_aload_n (dA D_X12_reckonScene 6 rfl) rfl ?_
  refine x_iload_n (dA D_X12_reckonScene 7 rfl) rfl ?_
  refine x_iload_n (dA D_X12_reckonScene 8 rfl) rfl ?_
  refine x_iload_n (dA D_X12_reckonScene 9 rfl) rfl ?_
  refine x_iload (dA D_X12_reckonScene 10 rfl) rfl ?_
  refine x_iload (dA D_X12_reckonScene 11 rfl) rfl ?_
  refine x_iload (dA D_X12_reckonScene 12 rfl) rfl ?_
  obtain ⟨h5, h⟩ := h
  obtain ⟨h6, h⟩ := h
  obtain ⟨h7, h⟩ := h
  refine x_callV 11 [vI x1, vI x2, vI x3, vI x4, vI x5, vI x6] [vA 83] (dA D_X12_reckonScene 13 rfl) cw_RX12_380 rfl rfl (Nat.le_of_ble_eq_true rfl) (by decide) rfl hd1 (zk k) (zk n) (sO_67 hM2) (T_X12_brings hM2 h5 h6 h7 (by omega) (fun r9 M8 p10 hM8 => ?_)) (kL' (fun _ _ h => h))
  have h := h r9 M8 p10 hM8
  show X G Y_X12_reckonScene d k n 25 [vA 67, vI x1, vI x2, vI x3, vI x4, vI x5, vI x6, vU, vU] [vL r9, vA 83] M8 Q
  refine x_bipush (dA D_X12_reckonScene 14 rfl) (by decide) (by decide) ?_
  refine x_iconst (dA D_X12_reckonScene 15 rfl) ?_
  refine x_iload_n (dA D_X12_reckonScene 16 rfl) rfl ?_
  obtain ⟨h11, h⟩ := h
  obtain ⟨h12, h⟩ := h
  refine x_callS [vI x3] [vI 5, vI 20, vL r9, vA 83] (dA D_X12_reckonScene 17 rfl) cw_RX12_367 rfl rfl (Nat.le_of_ble_eq_true rfl) hd1 (zk k) (zk n) (S_X12_bits h11 h12 (by omega) ?_) (kI (fun _ _ h => h))
  show X G Y_X12_reckonScene d k n 32 [vA 67, vI x1, vI x2, vI x3, vI x4, vI x5, vI x6, vU, vU] [vI (pop x3), vI 5, vI 20, vL r9, vA 83] M8 Q
  refine x_isub (dA D_X12_reckonScene 18 rfl) ?_
  refine x_imul (dA D_X12_reckonScene 19 rfl) ?_
  obtain ⟨h13, h⟩ := h
  obtain ⟨h14, h⟩ := h
  obtain ⟨h15, h⟩ := h
  obtain ⟨h16, h⟩ := h
  refine x_callS [vA 83, vL r9, vI (20 * (5 - (pop x3)))] [] (dA D_X12_reckonScene 20 rfl) cw_RX12_384 rfl rfl (Nat.le_of_ble_eq_true rfl) hd1 (zk k) (zk n) (T_X12_addNumber hM8 h13 h14 h15 h16 (by omega) (fun M17 p19 hM17 => ?_)) (kU (fun _ h => h))
  have h := h M17 p19 hM17
  show X G Y_X12_reckonScene d k n 37 [vA 67, vI x1, vI x2, vI x3, vI x4, vI x5, vI x6, vU, vU] [] M17 Q
  refine x_aload_n (dA D_X12_reckonScene 21 rfl) rfl ?_
  refine x_iload_n (dA D_X12_reckonScene 22 rfl) rfl ?_
  refine x_iconst (dA D_X12_reckonScene 23 rfl) ?_
  obtain ⟨h20, h⟩ := h
  obtain ⟨h21, h⟩ := h
  refine x_callV 11 [vI x2, vI 2] [] (dA D_X12_reckonScene 24 rfl) cw_RX12_350 rfl rfl (Nat.le_of_ble_eq_true rfl) (by decide) rfl hd1 (zk k) (zk n) (sO_67 hM17) (S_X12_ofScene hM17 h20 h21 (by omega) ?_) (kI (fun _ _ h => h))
  show X G Y_X12_reckonScene d k n 43 [vA 67, vI x1, vI x2, vI x3, vI x4, vI x5, vI x6, vU, vU] [vI (rd M17 69 ((10 + (3 * x2)) + (2 : Int)))] M17 Q
  refine x_iconst (dA D_X12_reckonScene 25 rfl) ?_
  obtain ⟨h22, h⟩ := h
  refine x_icmp_neP (tgt := 48) (dA D_X12_reckonScene 26 rfl) (by decide) h22 ⟨by decide, by decide⟩ ⟨fun c => ?_, fun c => ?_⟩
  · have h := h.1 c
    refine x_aload_n (dA D_X12_reckonScene 28 rfl) rfl ?_
    refine x_iconst (dA D_X12_reckonScene 29 rfl) ?_
    refine x_iload (dA D_X12_reckonScene 30 rfl) rfl ?_
    refine x_aload_n (dA D_X12_reckonScene 31 rfl) rfl ?_
    refine x_iconst (dA D_X12_reckonScene 32 rfl) ?_
    refine x_iload_n (dA D_X12_reckonScene 33 rfl) rfl ?_
    refine x_iload_n (dA D_X12_reckonScene 34 rfl) rfl ?_
    refine x_iload (dA D_X12_reckonScene 35 rfl) rfl ?_
    refine x_iload (dA D_X12_reckonScene 36 rfl) rfl ?_
    refine x_iload (dA D_X12_reckonScene 37 rfl) rfl ?_
    obtain ⟨h23, h⟩ := h
    obtain ⟨h24, h⟩ := h
    refine x_callV 11 [vI 0, vI x2, vI x3, vI x4, vI x5, vI x6] [vI x5, vI 0, vA 67] (dA D_X12_reckonScene 38 rfl) cw_RX12_388 rfl rfl (Nat.le_of_ble_eq_true rfl) (by decide) rfl hd1 (zk k) (zk n) (sO_67 hM17) (T_X12_chance hM17 h23 h24 h6 (by omega) (fun r26 M25 p27 hM25 => ?_)) (kI (fun _ _ h => h))
    have h := h r26 M25 p27 hM25
    show X G Y_X12_reckonScene d k n 65 [vA 67, vI x1, vI x2, vI x3, vI x4, vI x5, vI x6, vU, vU] [vI r26, vI x5, vI 0, vA 67] M25 Q
    obtain ⟨h28, h⟩ := h
    obtain ⟨h29, h⟩ := h
    obtain ⟨h30, h⟩ := h
    refine x_callV 11 [vI 0, vI x5, vI r26] [] (dA D_X12_reckonScene 39 rfl) cw_RX12_392 rfl rfl (Nat.le_of_ble_eq_true rfl) (by decide) rfl hd1 (zk k) (zk n) (sO_67 hM25) (T_X12_findStays hM25 h28 h29 h30 (by omega) (fun M31 p33 hM31 => ?_)) (kU (fun _ h => h))
    have h := h M31 p33 hM31
    show X G Y_X12_reckonScene d k n 68 [vA 67, vI x1, vI x2, vI x3, vI x4, vI x5, vI x6, vU, vU] [] M31 Q
    refine x_aload_n (dA D_X12_reckonScene 40 rfl) rfl ?_
    refine x_iconst (dA D_X12_reckonScene 41 rfl) ?_
    refine x_iload (dA D_X12_reckonScene 42 rfl) rfl ?_
    refine x_aload_n (dA D_X12_reckonScene 43 rfl) rfl ?_
    refine x_iconst (dA D_X12_reckonScene 44 rfl) ?_
    refine x_iload_n (dA D_X12_reckonScene 45 rfl) rfl ?_
    refine x_iload_n (dA D_X12_reckonScene 46 rfl) rfl ?_
    refine x_iload (dA D_X12_reckonScene 47 rfl) rfl ?_
    refine x_iload (dA D_X12_reckonScene 48 rfl) rfl ?_
    refine x_iload (dA D_X12_reckonScene 49 rfl) rfl ?_
    obtain ⟨h34, h⟩ := h
    obtain ⟨h35, h⟩ := h
    refine x_callV 11 [vI 1, vI x2, vI x3, vI x4, vI x5, vI x6] [vI x6, vI 1, vA 67] (dA D_X12_reckonScene 50 rfl) cw_RX12_388 rfl rfl (Nat.le_of_ble_eq_true rfl) (by decide) rfl hd1 (zk k) (zk n) (sO_67 hM31) (T_X12_chance hM31 h34 h35 h6 (by omega) (fun r37 M36 p38 hM36 => ?_)) (kI (fun _ _ h => h))
    have h := h r37 M36 p38 hM36
    show X G Y_X12_reckonScene d k n 85 [vA 67, vI x1, vI x2, vI x3, vI x4, vI x5, vI x6, vU, vU] [vI r37, vI x6, vI 1, vA 67] M36 Q
    obtain ⟨h39, h⟩ := h
    obtain ⟨h40, h⟩ := h
    obtain ⟨h41, h⟩ := h
    refine x_callV 11 [vI 1, vI x6, vI r37] [] (dA D_X12_reckonScene 51 rfl) cw_RX12_392 rfl rfl (Nat.le_of_ble_eq_true rfl) (by decide) rfl hd1 (zk k) (zk n) (sO_67 hM36) (T_X12_findStays hM36 h39 h40 h41 (by omega) (fun M42 p44 hM42 => ?_)) (kU (fun _ h => h))
    have h := h M42 p44 hM42
    show X G Y_X12_reckonScene d k n 88 [vA 67, vI x1, vI x2, vI x3, vI x4, vI x5, vI x6, vU, vU] [] M42 Q
    refine x_iconst (dA D_X12_reckonScene 52 rfl) ?_
    refine x_istore (xs' := [vA 67, vI x1, vI x2, vI x3, vI x4, vI x5, vI x6, vI 0, vU]) (dA D_X12_reckonScene 53 rfl) (by decide) rfl ?_
    exact h
  · have h := h.2 c
    exact x_return (dA D_X12_reckonScene 27 rfl) rfl h
theorem C_X12_reckonScene {G : GG} {d : Nat} {x1 x2 x3 x4 x5 x6 : Int} {M : MM} {Q : PV → MM → Prop} (h : X G Y_X12_reckonScene d 0 0 0 [vA 67, vI x1, vI x2, vI x3, vI x4, vI x5, vI x6, vU, vU] [] M Q) : C G Y_X12_reckonScene d 0 0 [vA 67, vI x1, vI x2, vI x3, vI x4, vI x5, vI x6] M Q := X.entry (by decide) (Nat.le_of_ble_eq_true rfl) rfl rfl rfl h
set_option maxRecDepth 100000 in
theorem B_X12_reckonScene_91 {G : GG} {d : Nat} {k n : Nat} {x1 x2 x3 x4 x5 x6 x7 : Int} {M : MM} {Q : PV → MM → Prop} (hd : 2 ≤ d) (hS : Sh M) (h : inR x7 ∧ inR x5 ∧ ((x5 < x7 → Q vU M) ∧ (x7 ≤ x5 → Ar M (84 : Int) (0 : Int) 14 ∧ ∀ M4, (Ch M M4 (84 : Int) (0 : Int) 14 ∧ ∀ i : Int, 0 ≤ i → i < 14 → rd M4 (84 : Int) ((0 : Int) + i) = 0) → Sh M4 → X G Y_X12_reckonScene d k n 109 [vA 67, vI x1, vI x2, vI x3, vI x4, vI x5, vI x6, vI x7, vI 0] [] M4 Q))) : X G Y_X12_reckonScene d k n 91 [vA 67, vI x1, vI x2, vI x3, vI x4, vI x5, vI x6, vI x7, vU] [] M Q := by
  have hd1 : 1 ≤ d := by omega
  refine x_iload (dA D_X12_reckonScene 54 rfl) rfl ?_
  refine x_iload (dA D_X12_reckonScene 55 rfl) rfl ?_
  obtain ⟨h1, h⟩ := h
  obtain ⟨h2, h⟩ := h
  refine x_icmp_gtP (tgt := 198) (dA D_X12_reckonScene 56 rfl) (by decide) h1 h2 ⟨fun c => ?_, fun c => ?_⟩
  · have h := h.1 c
    exact x_return (dA D_X12_reckonScene 112 rfl) rfl h
  · have h := h.2 c
    refine x_aload_n (dA D_X12_reckonScene 57 rfl) rfl ?_
    refine x_get (v := vA 84) (dA D_X12_reckonScene 58 rfl) fw_RX12_79 (sO_67 hS) (congrArg (rfV G) (sR_67_35 hS)) ?_
    refine x_iconst (dA D_X12_reckonScene 59 rfl) ?_
    obtain ⟨h3, h⟩ := h
    refine x_callS [vA 84, vI 0] [] (dA D_X12_reckonScene 60 rfl) cw_RX12_376 rfl rfl (Nat.le_of_ble_eq_true rfl) hd1 (zk k) (zk n) (T_X12_clear hS h3 (by omega) (fun M4 p6 hM4 => ?_)) (kU (fun _ h => h))
    have h := h M4 p6 hM4
    show X G Y_X12_reckonScene d k n 106 [vA 67, vI x1, vI x2, vI x3, vI x4, vI x5, vI x6, vI x7, vU] [] M4 Q
    refine x_iconst (dA D_X12_reckonScene 61 rfl) ?_
    refine x_istore (xs' := [vA 67, vI x1, vI x2, vI x3, vI x4, vI x5, vI x6, vI x7, vI 0]) (dA D_X12_reckonScene 62 rfl) (by decide) rfl ?_
    exact h
set_option maxRecDepth 100000 in
theorem B_X12_reckonScene_109 {G : GG} {d : Nat} {k n : Nat} {x1 x2 x3 x4 x5 x6 x7 x8 : Int} {M : MM} {Q : PV → MM → Prop} (hd : 2 ≤ d) (hS : Sh M) (h : inR x8 ∧ inR x6 ∧ ((x6 < x8 → 0 ≤ ((6 * x5) + x7) ∧ ((6 * x5) + x7) < 72 ∧ Ar M (83 : Int) (0 : Int) 14 ∧ Ar M (84 : Int) (0 : Int) 14 ∧ (83 : Int) ≠ (84 : Int) ∧ nrm (rd M (83 : Int)) (0 : Int) 14 ∧ nrm (rd M (84 : Int)) (0 : Int) 14 ∧ (0 ≤ (rd M 87 ((6 * x5) + x7)) ∧ (rd M 87 ((6 * x5) + x7)) ≤ 10000000000) ∧ vl (rd M (83 : Int)) (0 : Int) 14 + vl (rd M (84 : Int)) (0 : Int) 14 * (rd M 87 ((6 * x5) + x7)) < Bp 14 ∧ ∀ M12, (Ch M M12 (83 : Int) (0 : Int) 14 ∧ nrm (rd M12 (83 : Int)) (0 : Int) 14 ∧ vl (rd M12 (83 : Int)) (0 : Int) 14 = vl (rd M (83 : Int)) (0 : Int) 14 + vl (rd M (84 : Int)) (0 : Int) 14 * (rd M 87 ((6 * x5) + x7))) → Sh M12 → X G Y_X12_reckonScene d k n 91 [vA 67, vI x1, vI x2, vI x3, vI x4, vI x5, vI x6, vI (x7 + 1), vU] [] M12 Q) ∧ (x8 ≤ x6 → 0 ≤ ((36 + (6 * x6)) + x8) ∧ ((36 + (6 * x6)) + x8) < 72 ∧ Ar M (84 : Int) (0 : Int) 14 ∧ Ar M (81 : Int) (14 * ((((((((iOr x3 (iShl 1 x2)) * 6) + x2) + 1) * 6) + x7) * 6) + x8)) 14 ∧ (84 : Int) ≠ (81 : Int) ∧ nrm (rd M (84 : Int)) (0 : Int) 14 ∧ nrm (rd M (81 : Int)) (14 * ((((((((iOr x3 (iShl 1 x2)) * 6) + x2) + 1) * 6) + x7) * 6) + x8)) 14 ∧ (0 ≤ (rd M 87 ((36 + (6 * x6)) + x8)) ∧ (rd M 87 ((36 + (6 * x6)) + x8)) ≤ 10000000000) ∧ vl (rd M (84 : Int)) (0 : Int) 14 + vl (rd M (81 : Int)) (14 * ((((((((iOr x3 (iShl 1 x2)) * 6) + x2) + 1) * 6) + x7) * 6) + x8)) 14 * (rd M 87 ((36 + (6 * x6)) + x8)) < Bp 14 ∧ ∀ M24, (Ch M M24 (84 : Int) (0 : Int) 14 ∧ nrm (rd M24 (84 : Int)) (0 : Int) 14 ∧ vl (rd M24 (84 : Int)) (0 : Int) 14 = vl (rd M (84 : Int)) (0 : Int) 14 + vl (rd M (81 : Int)) (14 * ((((((((iOr x3 (iShl 1 x2)) * 6) + x2) + 1) * 6) + x7) * 6) + x8)) 14 * (rd M 87 ((36 + (6 * x6)) + x8))) → Sh M24 → X G Y_X12_reckonScene d k n 109 [vA 67, vI x1, vI x2, vI x3, vI x4, vI x5, vI x6, vI x7, vI (x8 + 1)] [] M24 Q))) : X G Y_X12_reckonScene d k n 109 [vA 67, vI x1, vI x2, vI x3, vI x4, vI x5, vI x6, vI x7, vI x8] [] M Q := by
  have hd1 : 1 ≤ d := by omega
  refine x_iload (dA D_X12_reckonScene 63 rfl) rfl ?_
  refine x_iload (dA D_X12_reckonScene 64 rfl) rfl ?_
  obtain ⟨h1, h⟩ := h
  obtain ⟨h2, h⟩ := h
  refine x_icmp_gtP (tgt := 166) (dA D_X12_reckonScene 65 rfl) (by decide) h1 h2 ⟨fun c => ?_, fun c => ?_⟩
  · have h := h.1 c
    refine x_aload_n (dA D_X12_reckonScene 95 rfl) rfl ?_
    refine x_get (v := vA 83) (dA D_X12_reckonScene 96 rfl) fw_RX12_76 (sO_67 hS) (congrArg (rfV G) (sR_67_34 hS)) ?_
    refine x_iconst (dA D_X12_reckonScene 97 rfl) ?_
    refine x_aload_n (dA D_X12_reckonScene 98 rfl) rfl ?_
    refine x_get (v := vA 84) (dA D_X12_reckonScene 99 rfl) fw_RX12_79 (sO_67 hS) (congrArg (rfV G) (sR_67_35 hS)) ?_
    refine x_iconst (dA D_X12_reckonScene 100 rfl) ?_
    refine x_aload_n (dA D_X12_reckonScene 101 rfl) rfl ?_
    refine x_get (v := vA 87) (dA D_X12_reckonScene 102 rfl) fw_RX12_88 (sO_67 hS) (congrArg (rfV G) (sR_67_38 hS)) ?_
    refine x_bipush (dA D_X12_reckonScene 103 rfl) (by decide) (by decide) ?_
    refine x_iload (dA D_X12_reckonScene 104 rfl) rfl ?_
    refine x_imul (dA D_X12_reckonScene 105 rfl) ?_
    refine x_iload (dA D_X12_reckonScene 106 rfl) rfl ?_
    refine x_iadd (dA D_X12_reckonScene 107 rfl) ?_
    obtain ⟨h3, h⟩ := h
    obtain ⟨h4, h⟩ := h
    refine x_lald (dA D_X12_reckonScene 108 rfl) (sA_87 hS h3 h4) ?_
    obtain ⟨h5, h⟩ := h
    obtain ⟨h6, h⟩ := h
    obtain ⟨h7, h⟩ := h
    obtain ⟨h8, h⟩ := h
    obtain ⟨h9, h⟩ := h
    obtain ⟨h10, h⟩ := h
    obtain ⟨h11, h⟩ := h
    refine x_callS [vA 83, vI 0, vA 84, vI 0, vL (rd M 87 ((6 * x5) + x7))] [] (dA D_X12_reckonScene 109 rfl) cw_RX12_399 rfl rfl (Nat.le_of_ble_eq_true rfl) hd1 (zk k) (zk n) (T_X12_add hS h5 h6 h7 h8 h9 h10 h11 (by omega) (fun M12 p14 hM12 => ?_)) (kU (fun _ h => h))
    have h := h M12 p14 hM12
    show X G Y_X12_reckonScene d k n 192 [vA 67, vI x1, vI x2, vI x3, vI x4, vI x5, vI x6, vI x7, vI x8] [] M12 Q
    refine x_iinc (xs' := [vA 67, vI x1, vI x2, vI x3, vI x4, vI x5, vI x6, vI (x7 + 1), vI x8]) (dA D_X12_reckonScene 110 rfl) rfl (by decide) rfl ?_
    refine x_goto (tgt := 91) (dA D_X12_reckonScene 111 rfl) (by decide) ?_
    refine X.weak (xs' := [vA 67, vI x1, vI x2, vI x3, vI x4, vI x5, vI x6, vI (x7 + 1), vU]) ⟨Or.inl rfl, Or.inl rfl, Or.inl rfl, Or.inl rfl, Or.inl rfl, Or.inl rfl, Or.inl rfl, Or.inl rfl, Or.inr rfl, trivial⟩ ?_
    exact h
  · have h := h.2 c
    refine x_aload_n (dA D_X12_reckonScene 66 rfl) rfl ?_
    refine x_get (v := vA 84) (dA D_X12_reckonScene 67 rfl) fw_RX12_79 (sO_67 hS) (congrArg (rfV G) (sR_67_35 hS)) ?_
    refine x_iconst (dA D_X12_reckonScene 68 rfl) ?_
    refine x_aload_n (dA D_X12_reckonScene 69 rfl) rfl ?_
    refine x_get (v := vA 81) (dA D_X12_reckonScene 70 rfl) fw_RX12_70 (sO_67 hS) (congrArg (rfV G) (sR_67_32 hS)) ?_
    refine x_bipush (dA D_X12_reckonScene 71 rfl) (by decide) (by decide) ?_
    refine x_iload_n (dA D_X12_reckonScene 72 rfl) rfl ?_
    refine x_iconst (dA D_X12_reckonScene 73 rfl) ?_
    refine x_iload_n (dA D_X12_reckonScene 74 rfl) rfl ?_
    refine x_ishl (dA D_X12_reckonScene 75 rfl) ?_
    refine x_ior (dA D_X12_reckonScene 76 rfl) ?_
    refine x_iload_n (dA D_X12_reckonScene 77 rfl) rfl ?_
    refine x_iload (dA D_X12_reckonScene 78 rfl) rfl ?_
    refine x_iload (dA D_X12_reckonScene 79 rfl) rfl ?_
    refine x_callS [vI (iOr x3 (iShl 1 x2)), vI x2, vI x7, vI x8] [vI 14, vA 81, vI 0, vA 84] (dA D_X12_reckonScene 80 rfl) cw_RX12_395 rfl rfl (Nat.le_of_ble_eq_true rfl) hd1 (zk k) (zk n) (S_X12_stateOf  (by omega) ?_) (kI (fun _ _ h => h))
    show X G Y_X12_reckonScene d k n 140 [vA 67, vI x1, vI x2, vI x3, vI x4, vI x5, vI x6, vI x7, vI x8] [vI ((((((((iOr x3 (iShl 1 x2)) * 6) + x2) + 1) * 6) + x7) * 6) + x8), vI 14, vA 81, vI 0, vA 84] M Q
    refine x_imul (dA D_X12_reckonScene 81 rfl) ?_
    refine x_aload_n (dA D_X12_reckonScene 82 rfl) rfl ?_
    refine x_get (v := vA 87) (dA D_X12_reckonScene 83 rfl) fw_RX12_88 (sO_67 hS) (congrArg (rfV G) (sR_67_38 hS)) ?_
    refine x_bipush (dA D_X12_reckonScene 84 rfl) (by decide) (by decide) ?_
    refine x_bipush (dA D_X12_reckonScene 85 rfl) (by decide) (by decide) ?_
    refine x_iload (dA D_X12_reckonScene 86 rfl) rfl ?_
    refine x_imul (dA D_X12_reckonScene 87 rfl) ?_
    refine x_iadd (dA D_X12_reckonScene 88 rfl) ?_
    refine x_iload (dA D_X12_reckonScene 89 rfl) rfl ?_
    refine x_iadd (dA D_X12_reckonScene 90 rfl) ?_
    obtain ⟨h15, h⟩ := h
    obtain ⟨h16, h⟩ := h
    refine x_lald (dA D_X12_reckonScene 91 rfl) (sA_87 hS h15 h16) ?_
    obtain ⟨h17, h⟩ := h
    obtain ⟨h18, h⟩ := h
    obtain ⟨h19, h⟩ := h
    obtain ⟨h20, h⟩ := h
    obtain ⟨h21, h⟩ := h
    obtain ⟨h22, h⟩ := h
    obtain ⟨h23, h⟩ := h
    refine x_callS [vA 84, vI 0, vA 81, vI (14 * ((((((((iOr x3 (iShl 1 x2)) * 6) + x2) + 1) * 6) + x7) * 6) + x8)), vL (rd M 87 ((36 + (6 * x6)) + x8))] [] (dA D_X12_reckonScene 92 rfl) cw_RX12_399 rfl rfl (Nat.le_of_ble_eq_true rfl) hd1 (zk k) (zk n) (T_X12_add hS h17 h18 h19 h20 h21 h22 h23 (by omega) (fun M24 p26 hM24 => ?_)) (kU (fun _ h => h))
    have h := h M24 p26 hM24
    show X G Y_X12_reckonScene d k n 160 [vA 67, vI x1, vI x2, vI x3, vI x4, vI x5, vI x6, vI x7, vI x8] [] M24 Q
    refine x_iinc (xs' := [vA 67, vI x1, vI x2, vI x3, vI x4, vI x5, vI x6, vI x7, vI (x8 + 1)]) (dA D_X12_reckonScene 93 rfl) rfl (by decide) rfl ?_
    refine x_goto (tgt := 109) (dA D_X12_reckonScene 94 rfl) (by decide) ?_
    exact h
set_option maxRecDepth 100000 in
theorem B_X12_mostBehind_0 {G : GG} {d : Nat} {k n : Nat} {x1 x2 x3 x4 : Int} {M : MM} {Q : PV → MM → Prop} (hd : 4 ≤ d) (hS : Sh M) (h : RS (rd M 69) ∧ (0 ≤ x1 ∧ x1 < 32) ∧ ∀ v3, v3 = canB (rd M 69) x1 → X G Y_X12_mostBehind d k n 16 [vA 67, vI x1, vI x2, vI x3, vI x4, vI (-1), vI (-1), vI v3, vI 0, vU, vU] [] M Q) : X G Y_X12_mostBehind d k n 0 [vA 67, vI x1, vI x2, vI x3, vI x4, vU, vU, vU, vU, vU, vU] [] M Q := by
  have hd1 : 1 ≤ d := by omega
  refine x_iconst (dA D_X12_mostBehind 0 rfl) ?_
  refine x_istore (xs' := [vA 67, vI x1, vI x2, vI x3, vI x4, vI (-1), vU, vU, vU, vU, vU]) (dA D_X12_mostBehind 1 rfl) (by decide) rfl ?_
  refine x_iconst (dA D_X12_mostBehind 2 rfl) ?_
  refine x_istore (xs' := [vA 67, vI x1, vI x2, vI x3, vI x4, vI (-1), vI (-1), vU, vU, vU, vU]) (dA D_X12_mostBehind 3 rfl) (by decide) rfl ?_
  refine x_aload_n (dA D_X12_mostBehind 4 rfl) rfl ?_
  refine x_iload_n (dA D_X12_mostBehind 5 rfl) rfl ?_
  obtain ⟨h1, h⟩ := h
  obtain ⟨h2, h⟩ := h
  refine x_callV 11 [vI x1] [] (dA D_X12_mostBehind 6 rfl) cw_RX12_356 rfl rfl (Nat.le_of_ble_eq_true rfl) (by decide) rfl hd1 (zk k) (zk n) (sO_67 hS) (S_X12_canBe hS h1 h2 (by omega) ?_) (kI (fun _ _ h => h))
  show X G Y_X12_mostBehind d k n 11 [vA 67, vI x1, vI x2, vI x3, vI x4, vI (-1), vI (-1), vU, vU, vU, vU] [vI (canB (rd M 69) x1)] M Q
  refine x_nmI (fun v3 ev3 => ?_)
  have h := h v3 ev3
  refine x_istore (xs' := [vA 67, vI x1, vI x2, vI x3, vI x4, vI (-1), vI (-1), vI v3, vU, vU, vU]) (dA D_X12_mostBehind 7 rfl) (by decide) rfl ?_
  refine x_iconst (dA D_X12_mostBehind 8 rfl) ?_
  refine x_istore (xs' := [vA 67, vI x1, vI x2, vI x3, vI x4, vI (-1), vI (-1), vI v3, vI 0, vU, vU]) (dA D_X12_mostBehind 9 rfl) (by decide) rfl ?_
  exact h
theorem C_X12_mostBehind {G : GG} {d : Nat} {x1 x2 x3 x4 : Int} {M : MM} {Q : PV → MM → Prop} (h : X G Y_X12_mostBehind d 0 0 0 [vA 67, vI x1, vI x2, vI x3, vI x4, vU, vU, vU, vU, vU, vU] [] M Q) : C G Y_X12_mostBehind d 0 0 [vA 67, vI x1, vI x2, vI x3, vI x4] M Q := X.entry (by decide) (Nat.le_of_ble_eq_true rfl) rfl rfl rfl h
set_option maxRecDepth 100000 in
theorem B_X12_mostBehind_16 {G : GG} {d : Nat} {k n : Nat} {x1 x2 x3 x4 x5 x6 x7 x8 : Int} {sm : Int → LSm} {M : MM} {Q : PV → MM → Prop} (hd : 7 ≤ d) (hS : Sh M) (h : inR x8 ∧ inR (rd M 69 0) ∧ (((rd M 69 0) ≤ x8 → Q (vI x5) M) ∧ (x8 < (rd M 69 0) → ((¬ ((iAnd (iShr x7 x8) 1) = 1) → X G Y_X12_mostBehind d k n 16 [vA 67, vI x1, vI x2, vI x3, vI x4, vI x5, vI x6, vI x7, vI (x8 + 1), vU, vU] [] M Q) ∧ ((iAnd (iShr x7 x8) 1) = 1 → 0 ≤ ((10 + (3 * x8)) + (2 : Int)) ∧ ((10 + (3 * x8)) + (2 : Int)) < 5460 ∧ inR (rd M 69 ((10 + (3 * x8)) + (2 : Int))) ∧ ∀ v10, v10 = (if (rd M 69 ((10 + (3 * x8)) + (2 : Int))) = 1 then 1 else 0) → inR v10 ∧ ((v10 = 0 → MOK M sm ∧ (((0 : Int) = 0 ∨ (0 : Int) = 1)) ∧ rngS x8 x1 x2 x3 x4 ∧ ∀ r16 M15, (Fr KA M M15 ∧ r16 = chn (rd M 69) sm (0 : Int) x8 x1 x2 x3 x4) → Sh M15 → MOK M15 sm ∧ (((1 : Int) = 0 ∨ (1 : Int) = 1)) ∧ ∀ r21 M20, (Fr KA M15 M20 ∧ r21 = chn (rd M15 69) sm (1 : Int) x8 x1 x2 x3 x4) → Sh M20 → ∀ v23, v23 = (x3 * r16) + (x4 * r21) → inR v23 ∧ inR x6 ∧ ∀ v30, v30 = (if v23 ≤ x6 then x5 else x8) → ∀ v35, v35 = (if v23 ≤ x6 then x6 else v23) → X G Y_X12_mostBehind d k n 16 [vA 67, vI x1, vI x2, vI x3, vI x4, vI v30, vI v35, vI x7, vI (x8 + 1), vU, vU] [] M20 Q) ∧ (v10 ≠ 0 → ∀ v36, v36 = 100 * (x3 + x4) → inR v36 ∧ inR x6 ∧ ∀ v43, v43 = (if v36 ≤ x6 then x5 else x8) → ∀ v48, v48 = (if v36 ≤ x6 then x6 else v36) → X G Y_X12_mostBehind d k n 16 [vA 67, vI x1, vI x2, vI x3, vI x4, vI v43, vI v48, vI x7, vI (x8 + 1), vU, vU] [] M Q))))))) : X G Y_X12_mostBehind d k n 16 [vA 67, vI x1, vI x2, vI x3, vI x4, vI x5, vI x6, vI x7, vI x8, vU, vU] [] M Q := by
  have hd1 : 1 ≤ d := by omega
  refine x_iload (dA D_X12_mostBehind 10 rfl) rfl ?_
  refine x_aload_n (dA D_X12_mostBehind 11 rfl) rfl ?_
  refine x_get (v := vA 69) (dA D_X12_mostBehind 12 rfl) fw_RX12_13 (sO_67 hS) (congrArg (rfV G) (sR_67_3 hS)) ?_
  refine x_iconst (dA D_X12_mostBehind 13 rfl) ?_
  refine x_iald (dA D_X12_mostBehind 14 rfl) (sA_69 hS (by decide) (by decide)) ?_
  obtain ⟨h1, h⟩ := h
  obtain ⟨h2, h⟩ := h
  refine x_icmp_geP (tgt := 140) (dA D_X12_mostBehind 15 rfl) (by decide) h1 h2 ⟨fun c => ?_, fun c => ?_⟩
  · have h := h.1 c
    refine x_iload (dA D_X12_mostBehind 76 rfl) rfl ?_
    exact x_ireturn (dA D_X12_mostBehind 77 rfl) rfl h
  · have h := h.2 c
    refine x_iload (dA D_X12_mostBehind 16 rfl) rfl ?_
    refine x_iload (dA D_X12_mostBehind 17 rfl) rfl ?_
    refine x_callS [vI x7, vI x8] [] (dA D_X12_mostBehind 18 rfl) cw_RX12_138 rfl rfl (Nat.le_of_ble_eq_true rfl) hd1 (zk k) (zk n) (S_X12_is  (by omega) ?_) (kI (fun _ _ h => h))
    show X G Y_X12_mostBehind d k n 34 [vA 67, vI x1, vI x2, vI x3, vI x4, vI x5, vI x6, vI x7, vI x8, vU, vU] [vI (if (iAnd (iShr x7 x8) 1) = 1 then 1 else 0)] M Q
    refine x_if_eqB (tgt := 134) (dA D_X12_mostBehind 19 rfl) (by decide) ⟨fun c => ?_, fun c => ?_⟩
    · have h := h.1 c
      refine x_iinc (xs' := [vA 67, vI x1, vI x2, vI x3, vI x4, vI x5, vI x6, vI x7, vI (x8 + 1), vU, vU]) (dA D_X12_mostBehind 74 rfl) rfl (by decide) rfl ?_
      refine x_goto (tgt := 16) (dA D_X12_mostBehind 75 rfl) (by decide) ?_
      exact h
    · have h := h.2 c
      refine x_aload_n (dA D_X12_mostBehind 20 rfl) rfl ?_
      refine x_iload (dA D_X12_mostBehind 21 rfl) rfl ?_
      refine x_iconst (dA D_X12_mostBehind 22 rfl) ?_
      obtain ⟨h3, h⟩ := h
      obtain ⟨h4, h⟩ := h
      refine x_callV 11 [vI x8, vI 2] [] (dA D_X12_mostBehind 23 rfl) cw_RX12_350 rfl rfl (Nat.le_of_ble_eq_true rfl) (by decide) rfl hd1 (zk k) (zk n) (sO_67 hS) (S_X12_ofScene hS h3 h4 (by omega) ?_) (kI (fun _ _ h => h))
      show X G Y_X12_mostBehind d k n 44 [vA 67, vI x1, vI x2, vI x3, vI x4, vI x5, vI x6, vI x7, vI x8, vU, vU] [vI (rd M 69 ((10 + (3 * x8)) + (2 : Int)))] M Q
      refine x_iconst (dA D_X12_mostBehind 24 rfl) ?_
      obtain ⟨h6, h⟩ := h
      have hJ : X G Y_X12_mostBehind d k n 53 [vA 67, vI x1, vI x2, vI x3, vI x4, vI x5, vI x6, vI x7, vI x8, vU, vU] [vI (if (rd M 69 ((10 + (3 * x8)) + (2 : Int))) = 1 then 1 else 0)] M Q := by
        refine x_nmI (fun v10 ev10 => ?_)
        have h := h v10 ev10
        refine x_istore (xs' := [vA 67, vI x1, vI x2, vI x3, vI x4, vI x5, vI x6, vI x7, vI x8, vI v10, vU]) (dA D_X12_mostBehind 29 rfl) (by decide) rfl ?_
        refine x_iload (dA D_X12_mostBehind 30 rfl) rfl ?_
        obtain ⟨h11, h⟩ := h
        refine x_if_eqP (tgt := 70) (dA D_X12_mostBehind 31 rfl) (by decide) h11 ⟨fun c => ?_, fun c => ?_⟩
        · have h := h.1 c
          refine x_iload_n (dA D_X12_mostBehind 38 rfl) rfl ?_
          refine x_aload_n (dA D_X12_mostBehind 39 rfl) rfl ?_
          refine x_iconst (dA D_X12_mostBehind 40 rfl) ?_
          refine x_iload (dA D_X12_mostBehind 41 rfl) rfl ?_
          refine x_iload_n (dA D_X12_mostBehind 42 rfl) rfl ?_
          refine x_iload_n (dA D_X12_mostBehind 43 rfl) rfl ?_
          refine x_iload_n (dA D_X12_mostBehind 44 rfl) rfl ?_
          refine x_iload (dA D_X12_mostBehind 45 rfl) rfl ?_
          obtain ⟨h12, h⟩ := h
          obtain ⟨h13, h⟩ := h
          obtain ⟨h14, h⟩ := h
          refine x_callV 11 [vI 0, vI x8, vI x1, vI x2, vI x3, vI x4] [vI x3] (dA D_X12_mostBehind 46 rfl) cw_RX12_388 rfl rfl (Nat.le_of_ble_eq_true rfl) (by decide) rfl hd1 (zk k) (zk n) (sO_67 hS) (T_X12_chance hS h12 h13 h14 (by omega) (fun r16 M15 p17 hM15 => ?_)) (kI (fun _ _ h => h))
          have h := h r16 M15 p17 hM15
          show X G Y_X12_mostBehind d k n 83 [vA 67, vI x1, vI x2, vI x3, vI x4, vI x5, vI x6, vI x7, vI x8, vI v10, vU] [vI r16, vI x3] M15 Q
          refine x_imul (dA D_X12_mostBehind 47 rfl) ?_
          refine x_iload (dA D_X12_mostBehind 48 rfl) rfl ?_
          refine x_aload_n (dA D_X12_mostBehind 49 rfl) rfl ?_
          refine x_iconst (dA D_X12_mostBehind 50 rfl) ?_
          refine x_iload (dA D_X12_mostBehind 51 rfl) rfl ?_
          refine x_iload_n (dA D_X12_mostBehind 52 rfl) rfl ?_
          refine x_iload_n (dA D_X12_mostBehind 53 rfl) rfl ?_
          refine x_iload_n (dA D_X12_mostBehind 54 rfl) rfl ?_
          refine x_iload (dA D_X12_mostBehind 55 rfl) rfl ?_
          obtain ⟨h18, h⟩ := h
          obtain ⟨h19, h⟩ := h
          refine x_callV 11 [vI 1, vI x8, vI x1, vI x2, vI x3, vI x4] [vI x4, vI (x3 * r16)] (dA D_X12_mostBehind 56 rfl) cw_RX12_388 rfl rfl (Nat.le_of_ble_eq_true rfl) (by decide) rfl hd1 (zk k) (zk n) (sO_67 hM15) (T_X12_chance hM15 h18 h19 h14 (by omega) (fun r21 M20 p22 hM20 => ?_)) (kI (fun _ _ h => h))
          have h := h r21 M20 p22 hM20
          show X G Y_X12_mostBehind d k n 98 [vA 67, vI x1, vI x2, vI x3, vI x4, vI x5, vI x6, vI x7, vI x8, vI v10, vU] [vI r21, vI x4, vI (x3 * r16)] M20 Q
          refine x_imul (dA D_X12_mostBehind 57 rfl) ?_
          refine x_iadd (dA D_X12_mostBehind 58 rfl) ?_
          refine x_nmI (fun v23 ev23 => ?_)
          have h := h v23 ev23
          refine x_istore (xs' := [vA 67, vI x1, vI x2, vI x3, vI x4, vI x5, vI x6, vI x7, vI x8, vI v10, vI v23]) (dA D_X12_mostBehind 59 rfl) (by decide) rfl ?_
          refine x_iload (dA D_X12_mostBehind 60 rfl) rfl ?_
          refine x_iload (dA D_X12_mostBehind 61 rfl) rfl ?_
          obtain ⟨h25, h⟩ := h
          obtain ⟨h26, h⟩ := h
          have hJ : X G Y_X12_mostBehind d k n 116 [vA 67, vI x1, vI x2, vI x3, vI x4, vI x5, vI x6, vI x7, vI x8, vI v10, vI v23] [vI (if v23 ≤ x6 then x5 else x8)] M20 Q := by
            refine x_nmI (fun v30 ev30 => ?_)
            have h := h v30 ev30
            refine x_istore (xs' := [vA 67, vI x1, vI x2, vI x3, vI x4, vI v30, vI x6, vI x7, vI x8, vI v10, vI v23]) (dA D_X12_mostBehind 66 rfl) (by decide) rfl ?_
            refine x_iload (dA D_X12_mostBehind 67 rfl) rfl ?_
            refine x_iload (dA D_X12_mostBehind 68 rfl) rfl ?_
            have hJ : X G Y_X12_mostBehind d k n 132 [vA 67, vI x1, vI x2, vI x3, vI x4, vI v30, vI x6, vI x7, vI x8, vI v10, vI v23] [vI (if v23 ≤ x6 then x6 else v23)] M20 Q := by
              refine x_nmI (fun v35 ev35 => ?_)
              have h := h v35 ev35
              refine x_istore (xs' := [vA 67, vI x1, vI x2, vI x3, vI x4, vI v30, vI v35, vI x7, vI x8, vI v10, vI v23]) (dA D_X12_mostBehind 73 rfl) (by decide) rfl ?_
              refine x_iinc (xs' := [vA 67, vI x1, vI x2, vI x3, vI x4, vI v30, vI v35, vI x7, vI (x8 + 1), vI v10, vI v23]) (dA D_X12_mostBehind 74 rfl) rfl (by decide) rfl ?_
              refine x_goto (tgt := 16) (dA D_X12_mostBehind 75 rfl) (by decide) ?_
              refine X.weak (xs' := [vA 67, vI x1, vI x2, vI x3, vI x4, vI v30, vI v35, vI x7, vI (x8 + 1), vU, vU]) ⟨Or.inl rfl, Or.inl rfl, Or.inl rfl, Or.inl rfl, Or.inl rfl, Or.inl rfl, Or.inl rfl, Or.inl rfl, Or.inl rfl, Or.inr rfl, Or.inr rfl, trivial⟩ ?_
              exact h
            refine x_icmp_leP (tgt := 130) (dA D_X12_mostBehind 69 rfl) (by decide) h25 h26 ⟨fun c31 => ?_, fun c31 => ?_⟩
            · refine x_iload (dA D_X12_mostBehind 72 rfl) rfl ?_
              rw [if_pos c31] at hJ
              exact hJ
            · refine x_iload (dA D_X12_mostBehind 70 rfl) rfl ?_
              refine x_goto (tgt := 132) (dA D_X12_mostBehind 71 rfl) (by decide) ?_
              rw [if_neg (by first | omega | grind)] at hJ
              exact hJ
          refine x_icmp_leP (tgt := 114) (dA D_X12_mostBehind 62 rfl) (by decide) h25 h26 ⟨fun c24 => ?_, fun c24 => ?_⟩
          · refine x_iload (dA D_X12_mostBehind 65 rfl) rfl ?_
            rw [if_pos c24] at hJ
            exact hJ
          · refine x_iload (dA D_X12_mostBehind 63 rfl) rfl ?_
            refine x_goto (tgt := 116) (dA D_X12_mostBehind 64 rfl) (by decide) ?_
            rw [if_neg (by first | omega | grind)] at hJ
            exact hJ
        · have h := h.2 c
          refine x_bipush (dA D_X12_mostBehind 32 rfl) (by decide) (by decide) ?_
          refine x_iload_n (dA D_X12_mostBehind 33 rfl) rfl ?_
          refine x_iload (dA D_X12_mostBehind 34 rfl) rfl ?_
          refine x_iadd (dA D_X12_mostBehind 35 rfl) ?_
          refine x_imul (dA D_X12_mostBehind 36 rfl) ?_
          refine x_goto (tgt := 100) (dA D_X12_mostBehind 37 rfl) (by decide) ?_
          refine x_nmI (fun v36 ev36 => ?_)
          have h := h v36 ev36
          refine x_istore (xs' := [vA 67, vI x1, vI x2, vI x3, vI x4, vI x5, vI x6, vI x7, vI x8, vI v10, vI v36]) (dA D_X12_mostBehind 59 rfl) (by decide) rfl ?_
          refine x_iload (dA D_X12_mostBehind 60 rfl) rfl ?_
          refine x_iload (dA D_X12_mostBehind 61 rfl) rfl ?_
          obtain ⟨h38, h⟩ := h
          obtain ⟨h39, h⟩ := h
          have hJ : X G Y_X12_mostBehind d k n 116 [vA 67, vI x1, vI x2, vI x3, vI x4, vI x5, vI x6, vI x7, vI x8, vI v10, vI v36] [vI (if v36 ≤ x6 then x5 else x8)] M Q := by
            refine x_nmI (fun v43 ev43 => ?_)
            have h := h v43 ev43
            refine x_istore (xs' := [vA 67, vI x1, vI x2, vI x3, vI x4, vI v43, vI x6, vI x7, vI x8, vI v10, vI v36]) (dA D_X12_mostBehind 66 rfl) (by decide) rfl ?_
            refine x_iload (dA D_X12_mostBehind 67 rfl) rfl ?_
            refine x_iload (dA D_X12_mostBehind 68 rfl) rfl ?_
            have hJ : X G Y_X12_mostBehind d k n 132 [vA 67, vI x1, vI x2, vI x3, vI x4, vI v43, vI x6, vI x7, vI x8, vI v10, vI v36] [vI (if v36 ≤ x6 then x6 else v36)] M Q := by
              refine x_nmI (fun v48 ev48 => ?_)
              have h := h v48 ev48
              refine x_istore (xs' := [vA 67, vI x1, vI x2, vI x3, vI x4, vI v43, vI v48, vI x7, vI x8, vI v10, vI v36]) (dA D_X12_mostBehind 73 rfl) (by decide) rfl ?_
              refine x_iinc (xs' := [vA 67, vI x1, vI x2, vI x3, vI x4, vI v43, vI v48, vI x7, vI (x8 + 1), vI v10, vI v36]) (dA D_X12_mostBehind 74 rfl) rfl (by decide) rfl ?_
              refine x_goto (tgt := 16) (dA D_X12_mostBehind 75 rfl) (by decide) ?_
              refine X.weak (xs' := [vA 67, vI x1, vI x2, vI x3, vI x4, vI v43, vI v48, vI x7, vI (x8 + 1), vU, vU]) ⟨Or.inl rfl, Or.inl rfl, Or.inl rfl, Or.inl rfl, Or.inl rfl, Or.inl rfl, Or.inl rfl, Or.inl rfl, Or.inl rfl, Or.inr rfl, Or.inr rfl, trivial⟩ ?_
              exact h
            refine x_icmp_leP (tgt := 130) (dA D_X12_mostBehind 69 rfl) (by decide) h38 h39 ⟨fun c44 => ?_, fun c44 => ?_⟩
            · refine x_iload (dA D_X12_mostBehind 72 rfl) rfl ?_
              rw [if_pos c44] at hJ
              exact hJ
            · refine x_iload (dA D_X12_mostBehind 70 rfl) rfl ?_
              refine x_goto (tgt := 132) (dA D_X12_mostBehind 71 rfl) (by decide) ?_
              rw [if_neg (by first | omega | grind)] at hJ
              exact hJ
          refine x_icmp_leP (tgt := 114) (dA D_X12_mostBehind 62 rfl) (by decide) h38 h39 ⟨fun c37 => ?_, fun c37 => ?_⟩
          · refine x_iload (dA D_X12_mostBehind 65 rfl) rfl ?_
            rw [if_pos c37] at hJ
            exact hJ
          · refine x_iload (dA D_X12_mostBehind 63 rfl) rfl ?_
            refine x_goto (tgt := 116) (dA D_X12_mostBehind 64 rfl) (by decide) ?_
            rw [if_neg (by first | omega | grind)] at hJ
            exact hJ
      refine x_icmp_neP (tgt := 52) (dA D_X12_mostBehind 25 rfl) (by decide) h6 ⟨by decide, by decide⟩ ⟨fun c5 => ?_, fun c5 => ?_⟩
      · refine x_iconst (dA D_X12_mostBehind 28 rfl) ?_
        have e0 : (if (rd M 69 ((10 + (3 * x8)) + (2 : Int))) = 1 then (1 : Int) else 0) = 0 := if_neg (by first | omega | grind)
        rw [e0] at hJ
        exact hJ
      · refine x_iconst (dA D_X12_mostBehind 26 rfl) ?_
        refine x_goto (tgt := 53) (dA D_X12_mostBehind 27 rfl) (by decide) ?_
        have e0 : (if (rd M 69 ((10 + (3 * x8)) + (2 : Int))) = 1 then (1 : Int) else 0) = 1 := if_pos (by first | omega | grind)
        rw [e0] at hJ
        exact hJ
set_option maxRecDepth 100000 in
theorem B_X12_nextOf_0 {G : GG} {d : Nat} {k n : Nat} {x1 x2 x3 x4 : Int} {M : MM} {Q : PV → MM → Prop} (hd : 1 ≤ d) (hS : Sh M) (h : X G Y_X12_nextOf d k n 6 [vA 67, vA x1, vI x2, vI x3, vI x4, vI 0, vI 0] [] M Q) : X G Y_X12_nextOf d k n 0 [vA 67, vA x1, vI x2, vI x3, vI x4, vU, vU] [] M Q := by
  have hd1 : 1 ≤ d := by omega
  refine x_iconst (dA D_X12_nextOf 0 rfl) ?_
  refine x_istore (xs' := [vA 67, vA x1, vI x2, vI x3, vI x4, vI 0, vU]) (dA D_X12_nextOf 1 rfl) (by decide) rfl ?_
  refine x_iconst (dA D_X12_nextOf 2 rfl) ?_
  refine x_istore (xs' := [vA 67, vA x1, vI x2, vI x3, vI x4, vI 0, vI 0]) (dA D_X12_nextOf 3 rfl) (by decide) rfl ?_
  exact h
theorem C_X12_nextOf {G : GG} {d : Nat} {x1 x2 x3 x4 : Int} {M : MM} {Q : PV → MM → Prop} (h : X G Y_X12_nextOf d 0 0 0 [vA 67, vA x1, vI x2, vI x3, vI x4, vU, vU] [] M Q) : C G Y_X12_nextOf d 0 0 [vA 67, vA x1, vI x2, vI x3, vI x4] M Q := X.entry (by decide) (Nat.le_of_ble_eq_true rfl) rfl rfl rfl h
set_option maxRecDepth 100000 in
theorem B_X12_nextOf_6 {G : GG} {d : Nat} {k n : Nat} {x1 x2 x3 x4 x5 x6 : Int} {M : MM} {Q : PV → MM → Prop} (hd : 4 ≤ d) (hS : Sh M) (h : inR x6 ∧ inR x3 ∧ ((x3 ≤ x6 → Q (vI (-1)) M) ∧ (x6 < x3 → inR x5 ∧ inR x4 ∧ ((x5 ≠ x4 → okA M x1 20 (x2 + x6) ∧ ∀ v6, v6 = iOr x5 (iShl 1 (rd M x1 (x2 + x6))) → X G Y_X12_nextOf d k n 6 [vA 67, vA x1, vI x2, vI x3, vI x4, vI v6, vI (x6 + 1)] [] M Q) ∧ (x5 = x4 → RS (rd M 69) ∧ (0 ≤ x4 ∧ x4 < 32) ∧ okA M x1 20 (x2 + x6) ∧ ((¬ ((iAnd (iShr (canB (rd M 69) x4) (rd M x1 (x2 + x6))) 1) = 1) → Q (vI (-1)) M) ∧ ((iAnd (iShr (canB (rd M 69) x4) (rd M x1 (x2 + x6))) 1) = 1 → Q (vI (rd M x1 (x2 + x6))) M))))))) : X G Y_X12_nextOf d k n 6 [vA 67, vA x1, vI x2, vI x3, vI x4, vI x5, vI x6] [] M Q := by
  have hd1 : 1 ≤ d := by omega
  refine x_iload (dA D_X12_nextOf 4 rfl) rfl ?_
  refine x_iload_n (dA D_X12_nextOf 5 rfl) rfl ?_
  obtain ⟨h1, h⟩ := h
  obtain ⟨h2, h⟩ := h
  refine x_icmp_geP (tgt := 67) (dA D_X12_nextOf 6 rfl) (by decide) h1 h2 ⟨fun c => ?_, fun c => ?_⟩
  · have h := h.1 c
    refine x_iconst (dA D_X12_nextOf 40 rfl) ?_
    exact x_ireturn (dA D_X12_nextOf 41 rfl) rfl h
  · have h := h.2 c
    refine x_iload (dA D_X12_nextOf 7 rfl) rfl ?_
    refine x_iload (dA D_X12_nextOf 8 rfl) rfl ?_
    obtain ⟨h3, h⟩ := h
    obtain ⟨h4, h⟩ := h
    refine x_icmp_neP (tgt := 48) (dA D_X12_nextOf 9 rfl) (by decide) h3 h4 ⟨fun c => ?_, fun c => ?_⟩
    · have h := h.1 c
      refine x_iload (dA D_X12_nextOf 28 rfl) rfl ?_
      refine x_iconst (dA D_X12_nextOf 29 rfl) ?_
      refine x_aload_n (dA D_X12_nextOf 30 rfl) rfl ?_
      refine x_iload_n (dA D_X12_nextOf 31 rfl) rfl ?_
      refine x_iload (dA D_X12_nextOf 32 rfl) rfl ?_
      refine x_iadd (dA D_X12_nextOf 33 rfl) ?_
      obtain ⟨h5, h⟩ := h
      refine x_iald (dA D_X12_nextOf 34 rfl) h5 ?_
      refine x_ishl (dA D_X12_nextOf 35 rfl) ?_
      refine x_ior (dA D_X12_nextOf 36 rfl) ?_
      refine x_nmI (fun v6 ev6 => ?_)
      have h := h v6 ev6
      refine x_istore (xs' := [vA 67, vA x1, vI x2, vI x3, vI x4, vI v6, vI x6]) (dA D_X12_nextOf 37 rfl) (by decide) rfl ?_
      refine x_iinc (xs' := [vA 67, vA x1, vI x2, vI x3, vI x4, vI v6, vI (x6 + 1)]) (dA D_X12_nextOf 38 rfl) rfl (by decide) rfl ?_
      refine x_goto (tgt := 6) (dA D_X12_nextOf 39 rfl) (by decide) ?_
      exact h
    · have h := h.2 c
      refine x_aload_n (dA D_X12_nextOf 10 rfl) rfl ?_
      refine x_iload (dA D_X12_nextOf 11 rfl) rfl ?_
      obtain ⟨h7, h⟩ := h
      obtain ⟨h8, h⟩ := h
      refine x_callV 11 [vI x4] [] (dA D_X12_nextOf 12 rfl) cw_RX12_356 rfl rfl (Nat.le_of_ble_eq_true rfl) (by decide) rfl hd1 (zk k) (zk n) (sO_67 hS) (S_X12_canBe hS h7 h8 (by omega) ?_) (kI (fun _ _ h => h))
      show X G Y_X12_nextOf d k n 25 [vA 67, vA x1, vI x2, vI x3, vI x4, vI x5, vI x6] [vI (canB (rd M 69) x4)] M Q
      refine x_aload_n (dA D_X12_nextOf 13 rfl) rfl ?_
      refine x_iload_n (dA D_X12_nextOf 14 rfl) rfl ?_
      refine x_iload (dA D_X12_nextOf 15 rfl) rfl ?_
      refine x_iadd (dA D_X12_nextOf 16 rfl) ?_
      obtain ⟨h9, h⟩ := h
      refine x_iald (dA D_X12_nextOf 17 rfl) h9 ?_
      refine x_callS [vI (canB (rd M 69) x4), vI (rd M x1 (x2 + x6))] [] (dA D_X12_nextOf 18 rfl) cw_RX12_138 rfl rfl (Nat.le_of_ble_eq_true rfl) hd1 (zk k) (zk n) (S_X12_is  (by omega) ?_) (kI (fun _ _ h => h))
      show X G Y_X12_nextOf d k n 34 [vA 67, vA x1, vI x2, vI x3, vI x4, vI x5, vI x6] [vI (if (iAnd (iShr (canB (rd M 69) x4) (rd M x1 (x2 + x6))) 1) = 1 then 1 else 0)] M Q
      refine x_if_eqB (tgt := 46) (dA D_X12_nextOf 19 rfl) (by decide) ⟨fun c => ?_, fun c => ?_⟩
      · have h := h.1 c
        refine x_iconst (dA D_X12_nextOf 26 rfl) ?_
        exact x_ireturn (dA D_X12_nextOf 27 rfl) rfl h
      · have h := h.2 c
        refine x_aload_n (dA D_X12_nextOf 20 rfl) rfl ?_
        refine x_iload_n (dA D_X12_nextOf 21 rfl) rfl ?_
        refine x_iload (dA D_X12_nextOf 22 rfl) rfl ?_
        refine x_iadd (dA D_X12_nextOf 23 rfl) ?_
        refine x_iald (dA D_X12_nextOf 24 rfl) h9 ?_
        refine x_goto (tgt := 47) (dA D_X12_nextOf 25 rfl) (by decide) ?_
        exact x_ireturn (dA D_X12_nextOf 27 rfl) rfl h
