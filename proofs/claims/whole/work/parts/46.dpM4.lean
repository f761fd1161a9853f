set_option maxRecDepth 100000 in
theorem B_X12_reckonState_0 {G : GG} {d : Nat} {k n : Nat} {x1 x2 x3 x4 x5 x6 : Int} {M : MM} {Q : PV → MM → Prop} (hd : 2 ≤ d) (hS : Sh M) (h : ∀ v1, v1 = ((((((x3 * 6) + x4) + 1) * 6) + x5) * 6) + x6 → ∀ v2, v2 = 14 * v1 → Ar M (81 : Int) v2 14 ∧ ∀ M4, (Ch M M4 (81 : Int) v2 14 ∧ ∀ i : Int, 0 ≤ i → i < 14 → rd M4 (81 : Int) (v2 + i) = 0) → Sh M4 → inR x2 ∧ ((x2 = 0 → X G Y_X12_reckonState d k n 40 [vA 67, vI x1, vI x2, vI x3, vI x4, vI x5, vI x6, vI v1, vI v2, vU, vU, vU, vU] [] M4 Q) ∧ (x2 ≠ 0 → 0 ≤ v1 ∧ v1 < 6912 ∧ ∀ M10, M10 = wr M4 82 v1 (-1) → Sh M10 → X G Y_X12_reckonState d k n 40 [vA 67, vI x1, vI x2, vI x3, vI x4, vI x5, vI x6, vI v1, vI v2, vU, vU, vU, vU] [] M10 Q))) : X G Y_X12_reckonState d k n 0 [vA 67, vI x1, vI x2, vI x3, vI x4, vI x5, vI x6, vU, vU, vU, vU, vU, vU] [] M Q := by
  have hd1 : 1 ≤ d := by omega
  refine x_iload_n (dA D_X12_reckonState 0 rfl) rfl ?_
  refine x_iload (dA D_X12_reckonState 1 rfl) rfl ?_
  refine x_iload (dA D_X12_reckonState 2 rfl) rfl ?_
  refine x_iload (dA D_X12_reckonState 3 rfl) rfl ?_
  refine x_callS [vI x3, vI x4, vI x5, vI x6] [] (dA D_X12_reckonState 4 rfl) cw_RX12_395 rfl rfl (Nat.le_of_ble_eq_true rfl) hd1 (zk k) (zk n) (S_X12_stateOf  (by omega) ?_) (kI (fun _ _ h => h))
  show X G Y_X12_reckonState d k n 10 [vA 67, vI x1, vI x2, vI x3, vI x4, vI x5, vI x6, vU, vU, vU, vU, vU, vU] [vI (((((((x3 * 6) + x4) + 1) * 6) + x5) * 6) + x6)] M Q
  refine x_nmI (fun v1 ev1 => ?_)
  have h := h v1 ev1
  refine x_istore (xs' := [vA 67, vI x1, vI x2, vI x3, vI x4, vI x5, vI x6, vI v1, vU, vU, vU, vU, vU]) (dA D_X12_reckonState 5 rfl) (by decide) rfl ?_
  refine x_bipush (dA D_X12_reckonState 6 rfl) (by decide) (by decide) ?_
  refine x_iload (dA D_X12_reckonState 7 rfl) rfl ?_
  refine x_imul (dA D_X12_reckonState 8 rfl) ?_
  refine x_nmI (fun v2 ev2 => ?_)
  have h := h v2 ev2
  refine x_istore (xs' := [vA 67, vI x1, vI x2, vI x3, vI x4, vI x5, vI x6, vI v1, vI v2, vU, vU, vU, vU]) (dA D_X12_reckonState 9 rfl) (by decide) rfl ?_
  refine x_aload_n (dA D_X12_reckonState 10 rfl) rfl ?_
  refine x_get (v := vA 81) (dA D_X12_reckonState 11 rfl) fw_RX12_70 (sO_67 hS) (congrArg (rfV G) (sR_67_32 hS)) ?_
  refine x_iload (dA D_X12_reckonState 12 rfl) rfl ?_
  obtain ⟨h3, h⟩ := h
  refine x_callS [vA 81, vI v2] [] (dA D_X12_reckonState 13 rfl) cw_RX12_376 rfl rfl (Nat.le_of_ble_eq_true rfl) hd1 (zk k) (zk n) (T_X12_clear hS h3 (by omega) (fun M4 p6 hM4 => ?_)) (kU (fun _ h => h))
  have h := h M4 p6 hM4
  show X G Y_X12_reckonState d k n 28 [vA 67, vI x1, vI x2, vI x3, vI x4, vI x5, vI x6, vI v1, vI v2, vU, vU, vU, vU] [] M4 Q
  refine x_iload_n (dA D_X12_reckonState 14 rfl) rfl ?_
  obtain ⟨h7, h⟩ := h
  refine x_if_eqP (tgt := 40) (dA D_X12_reckonState 15 rfl) (by decide) h7 ⟨fun c => ?_, fun c => ?_⟩
  · have h := h.1 c
    exact h
  · have h := h.2 c
    refine x_aload_n (dA D_X12_reckonState 16 rfl) rfl ?_
    refine x_get (v := vA 82) (dA D_X12_reckonState 17 rfl) fw_RX12_73 (sO_67 hM4) (congrArg (rfV G) (sR_67_33 hM4)) ?_
    refine x_iload (dA D_X12_reckonState 18 rfl) rfl ?_
    refine x_iconst (dA D_X12_reckonState 19 rfl) ?_
    obtain ⟨h8, h⟩ := h
    obtain ⟨h9, h⟩ := h
    refine x_iast (dA D_X12_reckonState 20 rfl) (sA_82 hM4 h8 h9) ?_
    refine x_nmM (fun M10 eM10 => ?_)
    have hM10 : Sh M10 := eM10 ▸ (sW_82 hM4)
    have h := h M10 eM10 hM10
    exact h
theorem C_X12_reckonState {G : GG} {d : Nat} {x1 x2 x3 x4 x5 x6 : Int} {M : MM} {Q : PV → MM → Prop} (h : X G Y_X12_reckonState d 0 0 0 [vA 67, vI x1, vI x2, vI x3, vI x4, vI x5, vI x6, vU, vU, vU, vU, vU, vU] [] M Q) : C G Y_X12_reckonState d 0 0 [vA 67, vI x1, vI x2, vI x3, vI x4, vI x5, vI x6] M Q := X.entry (by decide) (Nat.le_of_ble_eq_true rfl) rfl rfl rfl h
set_option maxRecDepth 100000 in
theorem B_X12_reckonState_40 {G : GG} {d : Nat} {k n : Nat} {x1 x2 x3 x4 x5 x6 x7 x8 : Int} {M : MM} {Q : PV → MM → Prop} (hd : 4 ≤ d) (hS : Sh M) (h : inR (x5 + x6) ∧ (((x5 + x6) ≠ 0 → inR x2 ∧ ((x2 = 0 → 0 ≤ x7 ∧ x7 < 6912 ∧ inR (rd M 82 x7) ∧ (((rd M 82 x7) ≠ (-1) → ∀ v6, v6 = iShl 1 (rd M 82 x7) → X G Y_X12_reckonState d k n 177 [vA 67, vI x1, vI x2, vI x3, vI x4, vI x5, vI x6, vI x7, vI x8, vI v6, vI 0, vU, vU] [] M Q) ∧ ((rd M 82 x7) = (-1) → X G Y_X12_reckonState d k n 177 [vA 67, vI x1, vI x2, vI x3, vI x4, vI x5, vI x6, vI x7, vI x8, vI 0, vI 0, vU, vU] [] M Q))) ∧ (x2 ≠ 0 → RS (rd M 69) ∧ (0 ≤ x3 ∧ x3 < 32) ∧ ∀ v9, v9 = canB (rd M 69) x3 → X G Y_X12_reckonState d k n 177 [vA 67, vI x1, vI x2, vI x3, vI x4, vI x5, vI x6, vI x7, vI x8, vI v9, vI 0, vU, vU] [] M Q))) ∧ ((x5 + x6) = 0 → inR x1 ∧ ((x1 ≠ 6 → X G Y_X12_reckonState d k n 83 [vA 67, vI x1, vI x2, vI x3, vI x4, vI x5, vI x6, vI x7, vI x8, vU, vU, vU, vU] [] M Q) ∧ (x1 = 6 → inR x4 ∧ ((x4 = (-1) → X G Y_X12_reckonState d k n 83 [vA 67, vI x1, vI x2, vI x3, vI x4, vI x5, vI x6, vI x7, vI x8, vU, vU, vU, vU] [] M Q) ∧ (x4 ≠ (-1) → 0 ≤ ((10 + (3 * (if 0 ≤ x4 then x4 else 0))) + (2 : Int)) ∧ ((10 + (3 * (if 0 ≤ x4 then x4 else 0))) + (2 : Int)) < 5460 ∧ inR (rd M 69 ((10 + (3 * (if 0 ≤ x4 then x4 else 0))) + (2 : Int))) ∧ (((rd M 69 ((10 + (3 * (if 0 ≤ x4 then x4 else 0))) + (2 : Int))) ≠ 0 → X G Y_X12_reckonState d k n 83 [vA 67, vI x1, vI x2, vI x3, vI x4, vI x5, vI x6, vI x7, vI x8, vU, vU, vU, vU] [] M Q) ∧ ((rd M 69 ((10 + (3 * (if 0 ≤ x4 then x4 else 0))) + (2 : Int))) = 0 → Ar M (84 : Int) (0 : Int) 14 ∧ ∀ M20, (Ch M M20 (84 : Int) (0 : Int) 14 ∧ ∀ i : Int, 0 ≤ i → i < 14 → rd M20 (84 : Int) ((0 : Int) + i) = 0) → Sh M20 → 0 ≤ x3 ∧ x3 < 32 ∧ Ar M20 (84 : Int) 0 14 ∧ nrm (rd M20 (84 : Int)) 0 14 ∧ (0 ≤ (1 : Int) ∧ (1 : Int) ≤ 1000000000) ∧ ((∃ q : Int, (20 * (5 - (pop x3))) = 20 * (5 - q) ∧ 0 ≤ q ∧ q ≤ 5 ∧ vl (rd M20 (84 : Int)) 0 14 + (1 : Int) * sc q < Bp 14)) ∧ ∀ M29, (Ch M20 M29 (84 : Int) 0 14 ∧ nrm (rd M29 (84 : Int)) 0 14 ∧ ∀ q : Int, (20 * (5 - (pop x3))) = 20 * (5 - q) → 0 ≤ q → q ≤ 5 → vl (rd M29 (84 : Int)) 0 14 = vl (rd M20 (84 : Int)) 0 14 + (1 : Int) * sc q) → Sh M29 → Ar M29 (81 : Int) x8 14 ∧ Ar M29 (84 : Int) (0 : Int) 14 ∧ (81 : Int) ≠ (84 : Int) ∧ nrm (rd M29 (81 : Int)) x8 14 ∧ nrm (rd M29 (84 : Int)) (0 : Int) 14 ∧ (0 ≤ (1 : Int) ∧ (1 : Int) ≤ 10000000000) ∧ vl (rd M29 (81 : Int)) x8 14 + vl (rd M29 (84 : Int)) (0 : Int) 14 * (1 : Int) < Bp 14 ∧ ∀ M39, (Ch M29 M39 (81 : Int) x8 14 ∧ nrm (rd M39 (81 : Int)) x8 14 ∧ vl (rd M39 (81 : Int)) x8 14 = vl (rd M29 (81 : Int)) x8 14 + vl (rd M29 (84 : Int)) (0 : Int) 14 * (1 : Int)) → Sh M39 → Q vU M39))))))))) : X G Y_X12_reckonState d k n 40 [vA 67, vI x1, vI x2, vI x3, vI x4, vI x5, vI x6, vI x7, vI x8, vU, vU, vU, vU] [] M Q := by
  have hd1 : 1 ≤ d := by omega
  refine x_iload (dA D_X12_reckonState 21 rfl) rfl ?_
  refine x_iload (dA D_X12_reckonState 22 rfl) rfl ?_
  refine x_iadd (dA D_X12_reckonState 23 rfl) ?_
  obtain ⟨h1, h⟩ := h
  refine x_if_neP (tgt := 136) (dA D_X12_reckonState 24 rfl) (by decide) h1 ⟨fun c => ?_, fun c => ?_⟩
  · have h := h.1 c
    refine x_iload_n (dA D_X12_reckonState 71 rfl) rfl ?_
    obtain ⟨h2, h⟩ := h
    refine x_if_eqP (tgt := 148) (dA D_X12_reckonState 72 rfl) (by decide) h2 ⟨fun c => ?_, fun c => ?_⟩
    · have h := h.1 c
      refine x_aload_n (dA D_X12_reckonState 77 rfl) rfl ?_
      refine x_get (v := vA 82) (dA D_X12_reckonState 78 rfl) fw_RX12_73 (sO_67 hS) (congrArg (rfV G) (sR_67_33 hS)) ?_
      refine x_iload (dA D_X12_reckonState 79 rfl) rfl ?_
      obtain ⟨h3, h⟩ := h
      obtain ⟨h4, h⟩ := h
      refine x_iald (dA D_X12_reckonState 80 rfl) (sA_82 hS h3 h4) ?_
      refine x_iconst (dA D_X12_reckonState 81 rfl) ?_
      obtain ⟨h5, h⟩ := h
      refine x_icmp_neP (tgt := 163) (dA D_X12_reckonState 82 rfl) (by decide) h5 ⟨by decide, by decide⟩ ⟨fun c => ?_, fun c => ?_⟩
      · have h := h.1 c
        refine x_iconst (dA D_X12_reckonState 85 rfl) ?_
        refine x_aload_n (dA D_X12_reckonState 86 rfl) rfl ?_
        refine x_get (v := vA 82) (dA D_X12_reckonState 87 rfl) fw_RX12_73 (sO_67 hS) (congrArg (rfV G) (sR_67_33 hS)) ?_
        refine x_iload (dA D_X12_reckonState 88 rfl) rfl ?_
        refine x_iald (dA D_X12_reckonState 89 rfl) (sA_82 hS h3 h4) ?_
        refine x_ishl (dA D_X12_reckonState 90 rfl) ?_
        refine x_nmI (fun v6 ev6 => ?_)
        have h := h v6 ev6
        refine x_istore (xs' := [vA 67, vI x1, vI x2, vI x3, vI x4, vI x5, vI x6, vI x7, vI x8, vI v6, vU, vU, vU]) (dA D_X12_reckonState 91 rfl) (by decide) rfl ?_
        refine x_iconst (dA D_X12_reckonState 92 rfl) ?_
        refine x_istore (xs' := [vA 67, vI x1, vI x2, vI x3, vI x4, vI x5, vI x6, vI x7, vI x8, vI v6, vI 0, vU, vU]) (dA D_X12_reckonState 93 rfl) (by decide) rfl ?_
        exact h
      · have h := h.2 c
        refine x_iconst (dA D_X12_reckonState 83 rfl) ?_
        refine x_goto (tgt := 172) (dA D_X12_reckonState 84 rfl) (by decide) ?_
        refine x_istore (xs' := [vA 67, vI x1, vI x2, vI x3, vI x4, vI x5, vI x6, vI x7, vI x8, vI 0, vU, vU, vU]) (dA D_X12_reckonState 91 rfl) (by decide) rfl ?_
        refine x_iconst (dA D_X12_reckonState 92 rfl) ?_
        refine x_istore (xs' := [vA 67, vI x1, vI x2, vI x3, vI x4, vI x5, vI x6, vI x7, vI x8, vI 0, vI 0, vU, vU]) (dA D_X12_reckonState 93 rfl) (by decide) rfl ?_
        exact h
    · have h := h.2 c
      refine x_aload_n (dA D_X12_reckonState 73 rfl) rfl ?_
      refine x_iload_n (dA D_X12_reckonState 74 rfl) rfl ?_
      obtain ⟨h7, h⟩ := h
      obtain ⟨h8, h⟩ := h
      refine x_callV 11 [vI x3] [] (dA D_X12_reckonState 75 rfl) cw_RX12_356 rfl rfl (Nat.le_of_ble_eq_true rfl) (by decide) rfl hd1 (zk k) (zk n) (sO_67 hS) (S_X12_canBe hS h7 h8 (by omega) ?_) (kI (fun _ _ h => h))
      show X G Y_X12_reckonState d k n 145 [vA 67, vI x1, vI x2, vI x3, vI x4, vI x5, vI x6, vI x7, vI x8, vU, vU, vU, vU] [vI (canB (rd M 69) x3)] M Q
      refine x_goto (tgt := 172) (dA D_X12_reckonState 76 rfl) (by decide) ?_
      refine x_nmI (fun v9 ev9 => ?_)
      have h := h v9 ev9
      refine x_istore (xs' := [vA 67, vI x1, vI x2, vI x3, vI x4, vI x5, vI x6, vI x7, vI x8, vI v9, vU, vU, vU]) (dA D_X12_reckonState 91 rfl) (by decide) rfl ?_
      refine x_iconst (dA D_X12_reckonState 92 rfl) ?_
      refine x_istore (xs' := [vA 67, vI x1, vI x2, vI x3, vI x4, vI x5, vI x6, vI x7, vI x8, vI v9, vI 0, vU, vU]) (dA D_X12_reckonState 93 rfl) (by decide) rfl ?_
      exact h
  · have h := h.2 c
    refine x_iload_n (dA D_X12_reckonState 25 rfl) rfl ?_
    refine x_bipush (dA D_X12_reckonState 26 rfl) (by decide) (by decide) ?_
    obtain ⟨h10, h⟩ := h
    refine x_icmp_neP (tgt := 83) (dA D_X12_reckonState 27 rfl) (by decide) h10 ⟨by decide, by decide⟩ ⟨fun c => ?_, fun c => ?_⟩
    · have h := h.1 c
      exact h
    · have h := h.2 c
      refine x_iload (dA D_X12_reckonState 28 rfl) rfl ?_
      refine x_iconst (dA D_X12_reckonState 29 rfl) ?_
      obtain ⟨h11, h⟩ := h
      refine x_icmp_eqP (tgt := 83) (dA D_X12_reckonState 30 rfl) (by decide) h11 ⟨by decide, by decide⟩ ⟨fun c => ?_, fun c => ?_⟩
      · have h := h.1 c
        exact h
      · have h := h.2 c
        refine x_aload_n (dA D_X12_reckonState 31 rfl) rfl ?_
        refine x_iload (dA D_X12_reckonState 32 rfl) rfl ?_
        have hJ : X G Y_X12_reckonState d k n 72 [vA 67, vI x1, vI x2, vI x3, vI x4, vI x5, vI x6, vI x7, vI x8, vU, vU, vU, vU] [vI (if 0 ≤ x4 then x4 else 0), vA 67] M Q := by
          refine x_iconst (dA D_X12_reckonState 37 rfl) ?_
          obtain ⟨h16, h⟩ := h
          obtain ⟨h17, h⟩ := h
          refine x_callV 11 [vI (if 0 ≤ x4 then x4 else 0), vI 2] [] (dA D_X12_reckonState 38 rfl) cw_RX12_350 rfl rfl (Nat.le_of_ble_eq_true rfl) (by decide) rfl hd1 (zk k) (zk n) (sO_67 hS) (S_X12_ofScene hS h16 h17 (by omega) ?_) (kI (fun _ _ h => h))
          show X G Y_X12_reckonState d k n 76 [vA 67, vI x1, vI x2, vI x3, vI x4, vI x5, vI x6, vI x7, vI x8, vU, vU, vU, vU] [vI (rd M 69 ((10 + (3 * (if 0 ≤ x4 then x4 else 0))) + (2 : Int)))] M Q
          obtain ⟨h18, h⟩ := h
          refine x_if_neP (tgt := 83) (dA D_X12_reckonState 39 rfl) (by decide) h18 ⟨fun c => ?_, fun c => ?_⟩
          · have h := h.1 c
            exact h
          · have h := h.2 c
            refine x_iconst (dA D_X12_reckonState 40 rfl) ?_
            refine x_goto (tgt := 84) (dA D_X12_reckonState 41 rfl) (by decide) ?_
            refine x_istore (xs' := [vA 67, vI x1, vI x2, vI x3, vI x4, vI x5, vI x6, vI x7, vI x8, vI 1, vU, vU, vU]) (dA D_X12_reckonState 43 rfl) (by decide) rfl ?_
            refine x_aload_n (dA D_X12_reckonState 44 rfl) rfl ?_
            refine x_get (v := vA 84) (dA D_X12_reckonState 45 rfl) fw_RX12_79 (sO_67 hS) (congrArg (rfV G) (sR_67_35 hS)) ?_
            refine x_iconst (dA D_X12_reckonState 46 rfl) ?_
            obtain ⟨h19, h⟩ := h
            refine x_callS [vA 84, vI 0] [] (dA D_X12_reckonState 47 rfl) cw_RX12_376 rfl rfl (Nat.le_of_ble_eq_true rfl) hd1 (zk k) (zk n) (T_X12_clear hS h19 (by omega) (fun M20 p22 hM20 => ?_)) (kU (fun _ h => h))
            have h := h M20 p22 hM20
            show X G Y_X12_reckonState d k n 94 [vA 67, vI x1, vI x2, vI x3, vI x4, vI x5, vI x6, vI x7, vI x8, vI 1, vU, vU, vU] [] M20 Q
            refine x_aload_n (dA D_X12_reckonState 48 rfl) rfl ?_
            refine x_get (v := vA 84) (dA D_X12_reckonState 49 rfl) fw_RX12_79 (sO_67 hM20) (congrArg (rfV G) (sR_67_35 hM20)) ?_
            refine x_iload (dA D_X12_reckonState 50 rfl) rfl ?_
            refine x_if_eqP (tgt := 107) (dA D_X12_reckonState 51 rfl) (by decide) ⟨by decide, by decide⟩ ⟨fun c => ?_, fun c => ?_⟩
            · exact absurd c (by decide)
            · skip
              refine x_lconst (a := 1) (dA D_X12_reckonState 52 rfl) (by decide) ?_
              refine x_goto (tgt := 108) (dA D_X12_reckonState 53 rfl) (by decide) ?_
              refine x_bipush (dA D_X12_reckonState 55 rfl) (by decide) (by decide) ?_
              refine x_iconst (dA D_X12_reckonState 56 rfl) ?_
              refine x_iload_n (dA D_X12_reckonState 57 rfl) rfl ?_
              obtain ⟨h23, h⟩ := h
              obtain ⟨h24, h⟩ := h
              refine x_callS [vI x3] [vI 5, vI 20, vL 1, vA 84] (dA D_X12_reckonState 58 rfl) cw_RX12_367 rfl rfl (Nat.le_of_ble_eq_true rfl) hd1 (zk k) (zk n) (S_X12_bits h23 h24 (by omega) ?_) (kI (fun _ _ h => h))
              show X G Y_X12_reckonState d k n 115 [vA 67, vI x1, vI x2, vI x3, vI x4, vI x5, vI x6, vI x7, vI x8, vI 1, vU, vU, vU] [vI (pop x3), vI 5, vI 20, vL 1, vA 84] M20 Q
              refine x_isub (dA D_X12_reckonState 59 rfl) ?_
              refine x_imul (dA D_X12_reckonState 60 rfl) ?_
              obtain ⟨h25, h⟩ := h
              obtain ⟨h26, h⟩ := h
              obtain ⟨h27, h⟩ := h
              obtain ⟨h28, h⟩ := h
              refine x_callS [vA 84, vL 1, vI (20 * (5 - (pop x3)))] [] (dA D_X12_reckonState 61 rfl) cw_RX12_384 rfl rfl (Nat.le_of_ble_eq_true rfl) hd1 (zk k) (zk n) (T_X12_addNumber hM20 h25 h26 h27 h28 (by omega) (fun M29 p31 hM29 => ?_)) (kU (fun _ h => h))
              have h := h M29 p31 hM29
              show X G Y_X12_reckonState d k n 120 [vA 67, vI x1, vI x2, vI x3, vI x4, vI x5, vI x6, vI x7, vI x8, vI 1, vU, vU, vU] [] M29 Q
              refine x_aload_n (dA D_X12_reckonState 62 rfl) rfl ?_
              refine x_get (v := vA 81) (dA D_X12_reckonState 63 rfl) fw_RX12_70 (sO_67 hM29) (congrArg (rfV G) (sR_67_32 hM29)) ?_
              refine x_iload (dA D_X12_reckonState 64 rfl) rfl ?_
              refine x_aload_n (dA D_X12_reckonState 65 rfl) rfl ?_
              refine x_get (v := vA 84) (dA D_X12_reckonState 66 rfl) fw_RX12_79 (sO_67 hM29) (congrArg (rfV G) (sR_67_35 hM29)) ?_
              refine x_iconst (dA D_X12_reckonState 67 rfl) ?_
              refine x_lconst (a := 1) (dA D_X12_reckonState 68 rfl) (by decide) ?_
              obtain ⟨h32, h⟩ := h
              obtain ⟨h33, h⟩ := h
              obtain ⟨h34, h⟩ := h
              obtain ⟨h35, h⟩ := h
              obtain ⟨h36, h⟩ := h
              obtain ⟨h37, h⟩ := h
              obtain ⟨h38, h⟩ := h
              refine x_callS [vA 81, vI x8, vA 84, vI 0, vL 1] [] (dA D_X12_reckonState 69 rfl) cw_RX12_399 rfl rfl (Nat.le_of_ble_eq_true rfl) hd1 (zk k) (zk n) (T_X12_add hM29 h32 h33 h34 h35 h36 h37 h38 (by omega) (fun M39 p41 hM39 => ?_)) (kU (fun _ h => h))
              have h := h M39 p41 hM39
              show X G Y_X12_reckonState d k n 135 [vA 67, vI x1, vI x2, vI x3, vI x4, vI x5, vI x6, vI x7, vI x8, vI 1, vU, vU, vU] [] M39 Q
              exact x_return (dA D_X12_reckonState 70 rfl) rfl h
        refine x_if_geP (tgt := 70) (dA D_X12_reckonState 33 rfl) (by decide) h11 ⟨fun c12 => ?_, fun c12 => ?_⟩
        · refine x_iload (dA D_X12_reckonState 36 rfl) rfl ?_
          rw [if_pos c12] at hJ
          exact hJ
        · refine x_iconst (dA D_X12_reckonState 34 rfl) ?_
          refine x_goto (tgt := 72) (dA D_X12_reckonState 35 rfl) (by decide) ?_
          rw [if_neg (by first | omega | grind)] at hJ
          exact hJ
set_option maxRecDepth 100000 in
theorem B_X12_reckonState_83 {G : GG} {d : Nat} {k n : Nat} {x1 x2 x3 x4 x5 x6 x7 x8 : Int} {M : MM} {Q : PV → MM → Prop} (hd : 2 ≤ d) (hS : Sh M) (h : Ar M (84 : Int) (0 : Int) 14 ∧ ∀ M2, (Ch M M2 (84 : Int) (0 : Int) 14 ∧ ∀ i : Int, 0 ≤ i → i < 14 → rd M2 (84 : Int) ((0 : Int) + i) = 0) → Sh M2 → 0 ≤ x3 ∧ x3 < 32 ∧ Ar M2 (84 : Int) 0 14 ∧ nrm (rd M2 (84 : Int)) 0 14 ∧ (0 ≤ (0 : Int) ∧ (0 : Int) ≤ 1000000000) ∧ ((∃ q : Int, (20 * (5 - (pop x3))) = 20 * (5 - q) ∧ 0 ≤ q ∧ q ≤ 5 ∧ vl (rd M2 (84 : Int)) 0 14 + (0 : Int) * sc q < Bp 14)) ∧ ∀ M11, (Ch M2 M11 (84 : Int) 0 14 ∧ nrm (rd M11 (84 : Int)) 0 14 ∧ ∀ q : Int, (20 * (5 - (pop x3))) = 20 * (5 - q) → 0 ≤ q → q ≤ 5 → vl (rd M11 (84 : Int)) 0 14 = vl (rd M2 (84 : Int)) 0 14 + (0 : Int) * sc q) → Sh M11 → Ar M11 (81 : Int) x8 14 ∧ Ar M11 (84 : Int) (0 : Int) 14 ∧ (81 : Int) ≠ (84 : Int) ∧ nrm (rd M11 (81 : Int)) x8 14 ∧ nrm (rd M11 (84 : Int)) (0 : Int) 14 ∧ (0 ≤ (1 : Int) ∧ (1 : Int) ≤ 10000000000) ∧ vl (rd M11 (81 : Int)) x8 14 + vl (rd M11 (84 : Int)) (0 : Int) 14 * (1 : Int) < Bp 14 ∧ ∀ M21, (Ch M11 M21 (81 : Int) x8 14 ∧ nrm (rd M21 (81 : Int)) x8 14 ∧ vl (rd M21 (81 : Int)) x8 14 = vl (rd M11 (81 : Int)) x8 14 + vl (rd M11 (84 : Int)) (0 : Int) 14 * (1 : Int)) → Sh M21 → Q vU M21) : X G Y_X12_reckonState d k n 83 [vA 67, vI x1, vI x2, vI x3, vI x4, vI x5, vI x6, vI x7, vI x8, vU, vU, vU, vU] [] M Q := by
  have hd1 : 1 ≤ d := by omega
  refine x_iconst (dA D_X12_reckonState 42 rfl) ?_
  refine x_istore (xs' := [vA 67, vI x1, vI x2, vI x3, vI x4, vI x5, vI x6, vI x7, vI x8, vI 0, vU, vU, vU]) (dA D_X12_reckonState 43 rfl) (by decide) rfl ?_
  refine x_aload_n (dA D_X12_reckonState 44 rfl) rfl ?_
  refine x_get (v := vA 84) (dA D_X12_reckonState 45 rfl) fw_RX12_79 (sO_67 hS) (congrArg (rfV G) (sR_67_35 hS)) ?_
  refine x_iconst (dA D_X12_reckonState 46 rfl) ?_
  obtain ⟨h1, h⟩ := h
  refine x_callS [vA 84, vI 0] [] (dA D_X12_reckonState 47 rfl) cw_RX12_376 rfl rfl (Nat.le_of_ble_eq_true rfl) hd1 (zk k) (zk n) (T_X12_clear hS h1 (by omega) (fun M2 p4 hM2 => ?_)) (kU (fun _ h => h))
  have h := h M2 p4 hM2
  show X G Y_X12_reckonState d k n 94 [vA 67, vI x1, vI x2, vI x3, vI x4, vI x5, vI x6, vI x7, vI x8, vI 0, vU, vU, vU] [] M2 Q
  refine x_aload_n (dA D_X12_reckonState 48 rfl) rfl ?_
  refine x_get (v := vA 84) (dA D_X12_reckonState 49 rfl) fw_RX12_79 (sO_67 hM2) (congrArg (rfV G) (sR_67_35 hM2)) ?_
  refine x_iload (dA D_X12_reckonState 50 rfl) rfl ?_
  refine x_if_eqP (tgt := 107) (dA D_X12_reckonState 51 rfl) (by decide) ⟨by decide, by decide⟩ ⟨fun c => ?_, fun c => ?_⟩
  · skip
    refine x_lconst (a := 0) (dA D_X12_reckonState 54 rfl) (by decide) ?_
    refine x_bipush (dA D_X12_reckonState 55 rfl) (by decide) (by decide) ?_
    refine x_iconst (dA D_X12_reckonState 56 rfl) ?_
    refine x_iload_n (dA D_X12_reckonState 57 rfl) rfl ?_
    obtain ⟨h5, h⟩ := h
    obtain ⟨h6, h⟩ := h
    refine x_callS [vI x3] [vI 5, vI 20, vL 0, vA 84] (dA D_X12_reckonState 58 rfl) cw_RX12_367 rfl rfl (Nat.le_of_ble_eq_true rfl) hd1 (zk k) (zk n) (S_X12_bits h5 h6 (by omega) ?_) (kI (fun _ _ h => h))
    show X G Y_X12_reckonState d k n 115 [vA 67, vI x1, vI x2, vI x3, vI x4, vI x5, vI x6, vI x7, vI x8, vI 0, vU, vU, vU] [vI (pop x3), vI 5, vI 20, vL 0, vA 84] M2 Q
    refine x_isub (dA D_X12_reckonState 59 rfl) ?_
    refine x_imul (dA D_X12_reckonState 60 rfl) ?_
    obtain ⟨h7, h⟩ := h
    obtain ⟨h8, h⟩ := h
    obtain ⟨h9, h⟩ := h
    obtain ⟨h10, h⟩ := h
    refine x_callS [vA 84, vL 0, vI (20 * (5 - (pop x3)))] [] (dA D_X12_reckonState 61 rfl) cw_RX12_384 rfl rfl (Nat.le_of_ble_eq_true rfl) hd1 (zk k) (zk n) (T_X12_addNumber hM2 h7 h8 h9 h10 (by omega) (fun M11 p13 hM11 => ?_)) (kU (fun _ h => h))
    have h := h M11 p13 hM11
    show X G Y_X12_reckonState d k n 120 [vA 67, vI x1, vI x2, vI x3, vI x4, vI x5, vI x6, vI x7, vI x8, vI 0, vU, vU, vU] [] M11 Q
    refine x_aload_n (dA D_X12_reckonState 62 rfl) rfl ?_
    refine x_get (v := vA 81) (dA D_X12_reckonState 63 rfl) fw_RX12_70 (sO_67 hM11) (congrArg (rfV G) (sR_67_32 hM11)) ?_
    refine x_iload (dA D_X12_reckonState 64 rfl) rfl ?_
    refine x_aload_n (dA D_X12_reckonState 65 rfl) rfl ?_
    refine x_get (v := vA 84) (dA D_X12_reckonState 66 rfl) fw_RX12_79 (sO_67 hM11) (congrArg (rfV G) (sR_67_35 hM11)) ?_
    refine x_iconst (dA D_X12_reckonState 67 rfl) ?_
    refine x_lconst (a := 1) (dA D_X12_reckonState 68 rfl) (by decide) ?_
    obtain ⟨h14, h⟩ := h
    obtain ⟨h15, h⟩ := h
    obtain ⟨h16, h⟩ := h
    obtain ⟨h17, h⟩ := h
    obtain ⟨h18, h⟩ := h
    obtain ⟨h19, h⟩ := h
    obtain ⟨h20, h⟩ := h
    refine x_callS [vA 81, vI x8, vA 84, vI 0, vL 1] [] (dA D_X12_reckonState 69 rfl) cw_RX12_399 rfl rfl (Nat.le_of_ble_eq_true rfl) hd1 (zk k) (zk n) (T_X12_add hM11 h14 h15 h16 h17 h18 h19 h20 (by omega) (fun M21 p23 hM21 => ?_)) (kU (fun _ h => h))
    have h := h M21 p23 hM21
    show X G Y_X12_reckonState d k n 135 [vA 67, vI x1, vI x2, vI x3, vI x4, vI x5, vI x6, vI x7, vI x8, vI 0, vU, vU, vU] [] M21 Q
    exact x_return (dA D_X12_reckonState 70 rfl) rfl h
  · exact absurd (by decide) c
set_option maxRecDepth 100000 in
theorem B_X12_reckonState_177 {G : GG} {d : Nat} {k n : Nat} {x1 x2 x3 x4 x5 x6 x7 x8 x9 x10 : Int} {M : MM} {Q : PV → MM → Prop} (hd : 2 ≤ d) (hS : Sh M) (h : inR x10 ∧ inR (rd M 69 0) ∧ (((rd M 69 0) ≤ x10 → Q vU M) ∧ (x10 < (rd M 69 0) → ((¬ ((iAnd (iShr x9 x10) 1) = 1) → X G Y_X12_reckonState d k n 177 [vA 67, vI x1, vI x2, vI x3, vI x4, vI x5, vI x6, vI x7, vI x8, vI x9, vI (x10 + 1), vU, vU] [] M Q) ∧ ((iAnd (iShr x9 x10) 1) = 1 → C G Y_X12_reckonScene (d - 1) 0 0 [vA 67, vI x1, vI x10, vI x3, vI x4, vI x5, vI x6] M (rU (fun M3 => Sh M3 ∧ inR x2 ∧ ((x2 = 0 → X G Y_X12_reckonState d k n 244 [vA 67, vI x1, vI x2, vI x3, vI x4, vI x5, vI x6, vI x7, vI x8, vI x9, vI x10, vU, vU] [] M3 Q) ∧ (x2 ≠ 0 → 0 ≤ x7 ∧ x7 < 6912 ∧ inR (rd M3 82 x7) ∧ (((rd M3 82 x7) = (-1) → X G Y_X12_reckonState d k n 244 [vA 67, vI x1, vI x2, vI x3, vI x4, vI x5, vI x6, vI x7, vI x8, vI x9, vI x10, vU, vU] [] M3 Q) ∧ ((rd M3 82 x7) ≠ (-1) → Ar M3 (83 : Int) (0 : Int) 14 ∧ Ar M3 (81 : Int) x8 14 ∧ nrm (rd M3 (83 : Int)) (0 : Int) 14 ∧ nrm (rd M3 (81 : Int)) x8 14 ∧ inR (cmpI (vl (rd M3 (83 : Int)) (0 : Int) 14) (vl (rd M3 (81 : Int)) x8 14)) ∧ (((cmpI (vl (rd M3 (83 : Int)) (0 : Int) 14) (vl (rd M3 (81 : Int)) x8 14)) ≤ 0 → X G Y_X12_reckonState d k n 177 [vA 67, vI x1, vI x2, vI x3, vI x4, vI x5, vI x6, vI x7, vI x8, vI x9, vI (x10 + 1), vU, vU] [] M3 Q) ∧ (0 < (cmpI (vl (rd M3 (83 : Int)) (0 : Int) 14) (vl (rd M3 (81 : Int)) x8 14)) → X G Y_X12_reckonState d k n 244 [vA 67, vI x1, vI x2, vI x3, vI x4, vI x5, vI x6, vI x7, vI x8, vI x9, vI x10, vU, vU] [] M3 Q))))))))))))) : X G Y_X12_reckonState d k n 177 [vA 67, vI x1, vI x2, vI x3, vI x4, vI x5, vI x6, vI x7, vI x8, vI x9, vI x10, vU, vU] [] M Q := by
  have hd1 : 1 ≤ d := by omega
  refine x_iload (dA D_X12_reckonState 94 rfl) rfl ?_
  refine x_aload_n (dA D_X12_reckonState 95 rfl) rfl ?_
  refine x_get (v := vA 69) (dA D_X12_reckonState 96 rfl) fw_RX12_13 (sO_67 hS) (congrArg (rfV G) (sR_67_3 hS)) ?_
  refine x_iconst (dA D_X12_reckonState 97 rfl) ?_
  refine x_iald (dA D_X12_reckonState 98 rfl) (sA_69 hS (by decide) (by decide)) ?_
  obtain ⟨h1, h⟩ := h
  obtain ⟨h2, h⟩ := h
  refine x_icmp_geP (tgt := 304) (dA D_X12_reckonState 99 rfl) (by decide) h1 h2 ⟨fun c => ?_, fun c => ?_⟩
  · have h := h.1 c
    exact x_return (dA D_X12_reckonState 158 rfl) rfl h
  · have h := h.2 c
    refine x_iload (dA D_X12_reckonState 100 rfl) rfl ?_
    refine x_iload (dA D_X12_reckonState 101 rfl) rfl ?_
    refine x_callS [vI x9, vI x10] [] (dA D_X12_reckonState 102 rfl) cw_RX12_138 rfl rfl (Nat.le_of_ble_eq_true rfl) hd1 (zk k) (zk n) (S_X12_is  (by omega) ?_) (kI (fun _ _ h => h))
    show X G Y_X12_reckonState d k n 195 [vA 67, vI x1, vI x2, vI x3, vI x4, vI x5, vI x6, vI x7, vI x8, vI x9, vI x10, vU, vU] [vI (if (iAnd (iShr x9 x10) 1) = 1 then 1 else 0)] M Q
    refine x_if_eqB (tgt := 298) (dA D_X12_reckonState 103 rfl) (by decide) ⟨fun c => ?_, fun c => ?_⟩
    · have h := h.1 c
      refine x_iinc (xs' := [vA 67, vI x1, vI x2, vI x3, vI x4, vI x5, vI x6, vI x7, vI x8, vI x9, vI (x10 + 1), vU, vU]) (dA D_X12_reckonState 156 rfl) rfl (by decide) rfl ?_
      refine x_goto (tgt := 177) (dA D_X12_reckonState 157 rfl) (by decide) ?_
      exact h
    · have h := h.2 c
      refine x_aload_n (dA D_X12_reckonState 104 rfl) rfl ?_
      refine x_iload_n (dA D_X12_reckonState 105 rfl) rfl ?_
      refine x_iload (dA D_X12_reckonState 106 rfl) rfl ?_
      refine x_iload_n (dA D_X12_reckonState 107 rfl) rfl ?_
      refine x_iload (dA D_X12_reckonState 108 rfl) rfl ?_
      refine x_iload (dA D_X12_reckonState 109 rfl) rfl ?_
      refine x_iload (dA D_X12_reckonState 110 rfl) rfl ?_
      refine x_callV 11 [vI x1, vI x10, vI x3, vI x4, vI x5, vI x6] [] (dA D_X12_reckonState 111 rfl) cw_RX12_410 rfl rfl (Nat.le_of_ble_eq_true rfl) (by decide) rfl hd1 (zk k) (zk n) (sO_67 hS) h (kU (fun M3 h => ?_))
      obtain ⟨hM3, h⟩ := h
      refine x_iload_n (dA D_X12_reckonState 112 rfl) rfl ?_
      obtain ⟨h4, h⟩ := h
      refine x_if_eqP (tgt := 244) (dA D_X12_reckonState 113 rfl) (by decide) h4 ⟨fun c => ?_, fun c => ?_⟩
      · have h := h.1 c
        exact h
      · have h := h.2 c
        refine x_aload_n (dA D_X12_reckonState 114 rfl) rfl ?_
        refine x_get (v := vA 82) (dA D_X12_reckonState 115 rfl) fw_RX12_73 (sO_67 hM3) (congrArg (rfV G) (sR_67_33 hM3)) ?_
        refine x_iload (dA D_X12_reckonState 116 rfl) rfl ?_
        obtain ⟨h5, h⟩ := h
        obtain ⟨h6, h⟩ := h
        refine x_iald (dA D_X12_reckonState 117 rfl) (sA_82 hM3 h5 h6) ?_
        refine x_iconst (dA D_X12_reckonState 118 rfl) ?_
        obtain ⟨h7, h⟩ := h
        refine x_icmp_eqP (tgt := 244) (dA D_X12_reckonState 119 rfl) (by decide) h7 ⟨by decide, by decide⟩ ⟨fun c => ?_, fun c => ?_⟩
        · have h := h.1 c
          exact h
        · have h := h.2 c
          refine x_aload_n (dA D_X12_reckonState 120 rfl) rfl ?_
          refine x_get (v := vA 83) (dA D_X12_reckonState 121 rfl) fw_RX12_76 (sO_67 hM3) (congrArg (rfV G) (sR_67_34 hM3)) ?_
          refine x_iconst (dA D_X12_reckonState 122 rfl) ?_
          refine x_aload_n (dA D_X12_reckonState 123 rfl) rfl ?_
          refine x_get (v := vA 81) (dA D_X12_reckonState 124 rfl) fw_RX12_70 (sO_67 hM3) (congrArg (rfV G) (sR_67_32 hM3)) ?_
          refine x_iload (dA D_X12_reckonState 125 rfl) rfl ?_
          obtain ⟨h8, h⟩ := h
          obtain ⟨h9, h⟩ := h
          obtain ⟨h10, h⟩ := h
          obtain ⟨h11, h⟩ := h
          refine x_callS [vA 83, vI 0, vA 81, vI x8] [] (dA D_X12_reckonState 126 rfl) cw_RX12_414 rfl rfl (Nat.le_of_ble_eq_true rfl) hd1 (zk k) (zk n) (T_X12_compare h8 h9 h10 h11 (by omega) ?_) (kI (fun _ _ h => h))
          show X G Y_X12_reckonState d k n 241 [vA 67, vI x1, vI x2, vI x3, vI x4, vI x5, vI x6, vI x7, vI x8, vI x9, vI x10, vU, vU] [vI (cmpI (vl (rd M3 (83 : Int)) (0 : Int) 14) (vl (rd M3 (81 : Int)) x8 14))] M3 Q
          obtain ⟨h12, h⟩ := h
          refine x_if_leP (tgt := 248) (dA D_X12_reckonState 127 rfl) (by decide) h12 ⟨fun c => ?_, fun c => ?_⟩
          · have h := h.1 c
            refine x_iconst (dA D_X12_reckonState 130 rfl) ?_
            refine x_istore (xs' := [vA 67, vI x1, vI x2, vI x3, vI x4, vI x5, vI x6, vI x7, vI x8, vI x9, vI x10, vI 0, vU]) (dA D_X12_reckonState 131 rfl) (by decide) rfl ?_
            refine x_iload (dA D_X12_reckonState 132 rfl) rfl ?_
            refine x_if_eqP (tgt := 298) (dA D_X12_reckonState 133 rfl) (by decide) ⟨by decide, by decide⟩ ⟨fun c => ?_, fun c => ?_⟩
            · skip
              refine x_iinc (xs' := [vA 67, vI x1, vI x2, vI x3, vI x4, vI x5, vI x6, vI x7, vI x8, vI x9, vI (x10 + 1), vI 0, vU]) (dA D_X12_reckonState 156 rfl) rfl (by decide) rfl ?_
              refine x_goto (tgt := 177) (dA D_X12_reckonState 157 rfl) (by decide) ?_
              refine X.weak (xs' := [vA 67, vI x1, vI x2, vI x3, vI x4, vI x5, vI x6, vI x7, vI x8, vI x9, vI (x10 + 1), vU, vU]) ⟨Or.inl rfl, Or.inl rfl, Or.inl rfl, Or.inl rfl, Or.inl rfl, Or.inl rfl, Or.inl rfl, Or.inl rfl, Or.inl rfl, Or.inl rfl, Or.inl rfl, Or.inr rfl, Or.inl rfl, trivial⟩ ?_
              exact h
            · exact absurd (by decide) c
          · have h := h.2 c
            exact h
set_option maxRecDepth 100000 in
theorem B_X12_reckonState_244 {G : GG} {d : Nat} {k n : Nat} {x1 x2 x3 x4 x5 x6 x7 x8 x9 x10 : Int} {M : MM} {Q : PV → MM → Prop} (hd : 1 ≤ d) (hS : Sh M) (h : 0 ≤ x7 ∧ x7 < 6912 ∧ ∀ M3, M3 = wr M 82 x7 x10 → Sh M3 → X G Y_X12_reckonState d k n 268 [vA 67, vI x1, vI x2, vI x3, vI x4, vI x5, vI x6, vI x7, vI x8, vI x9, vI x10, vI 1, vI 0] [] M3 Q) : X G Y_X12_reckonState d k n 244 [vA 67, vI x1, vI x2, vI x3, vI x4, vI x5, vI x6, vI x7, vI x8, vI x9, vI x10, vU, vU] [] M Q := by
  have hd1 : 1 ≤ d := by omega
  refine x_iconst (dA D_X12_reckonState 128 rfl) ?_
  refine x_goto (tgt := 249) (dA D_X12_reckonState 129 rfl) (by decide) ?_
  refine x_istore (xs' := [vA 67, vI x1, vI x2, vI x3, vI x4, vI x5, vI x6, vI x7, vI x8, vI x9, vI x10, vI 1, vU]) (dA D_X12_reckonState 131 rfl) (by decide) rfl ?_
  refine x_iload (dA D_X12_reckonState 132 rfl) rfl ?_
  refine x_if_eqP (tgt := 298) (dA D_X12_reckonState 133 rfl) (by decide) ⟨by decide, by decide⟩ ⟨fun c => ?_, fun c => ?_⟩
  · exact absurd c (by decide)
  · skip
    refine x_aload_n (dA D_X12_reckonState 134 rfl) rfl ?_
    refine x_get (v := vA 82) (dA D_X12_reckonState 135 rfl) fw_RX12_73 (sO_67 hS) (congrArg (rfV G) (sR_67_33 hS)) ?_
    refine x_iload (dA D_X12_reckonState 136 rfl) rfl ?_
    refine x_iload (dA D_X12_reckonState 137 rfl) rfl ?_
    obtain ⟨h1, h⟩ := h
    obtain ⟨h2, h⟩ := h
    refine x_iast (dA D_X12_reckonState 138 rfl) (sA_82 hS h1 h2) ?_
    refine x_nmM (fun M3 eM3 => ?_)
    have hM3 : Sh M3 := eM3 ▸ (sW_82 hS)
    have h := h M3 eM3 hM3
    refine x_iconst (dA D_X12_reckonState 139 rfl) ?_
    refine x_istore (xs' := [vA 67, vI x1, vI x2, vI x3, vI x4, vI x5, vI x6, vI x7, vI x8, vI x9, vI x10, vI 1, vI 0]) (dA D_X12_reckonState 140 rfl) (by decide) rfl ?_
    exact h
set_option maxRecDepth 100000 in
theorem B_X12_reckonState_268 {G : GG} {d : Nat} {k n : Nat} {x1 x2 x3 x4 x5 x6 x7 x8 x9 x10 x11 x12 : Int} {M : MM} {Q : PV → MM → Prop} (hd : 1 ≤ d) (hS : Sh M) (h : inR x12 ∧ ((14 ≤ x12 → X G Y_X12_reckonState d k n 177 [vA 67, vI x1, vI x2, vI x3, vI x4, vI x5, vI x6, vI x7, vI x8, vI x9, vI (x10 + 1), vU, vU] [] M Q) ∧ (x12 < 14 → 0 ≤ x12 ∧ x12 < 14 ∧ 0 ≤ (x8 + x12) ∧ (x8 + x12) < 96768 ∧ ∀ M6, M6 = wr M 81 (x8 + x12) (rd M 83 x12) → Sh M6 → X G Y_X12_reckonState d k n 268 [vA 67, vI x1, vI x2, vI x3, vI x4, vI x5, vI x6, vI x7, vI x8, vI x9, vI x10, vI x11, vI (x12 + 1)] [] M6 Q))) : X G Y_X12_reckonState d k n 268 [vA 67, vI x1, vI x2, vI x3, vI x4, vI x5, vI x6, vI x7, vI x8, vI x9, vI x10, vI x11, vI x12] [] M Q := by
  have hd1 : 1 ≤ d := by omega
  refine x_iload (dA D_X12_reckonState 141 rfl) rfl ?_
  refine x_bipush (dA D_X12_reckonState 142 rfl) (by decide) (by decide) ?_
  obtain ⟨h1, h⟩ := h
  refine x_icmp_geP (tgt := 298) (dA D_X12_reckonState 143 rfl) (by decide) h1 ⟨by decide, by decide⟩ ⟨fun c => ?_, fun c => ?_⟩
  · have h := h.1 c
    refine x_iinc (xs' := [vA 67, vI x1, vI x2, vI x3, vI x4, vI x5, vI x6, vI x7, vI x8, vI x9, vI (x10 + 1), vI x11, vI x12]) (dA D_X12_reckonState 156 rfl) rfl (by decide) rfl ?_
    refine x_goto (tgt := 177) (dA D_X12_reckonState 157 rfl) (by decide) ?_
    refine X.weak (xs' := [vA 67, vI x1, vI x2, vI x3, vI x4, vI x5, vI x6, vI x7, vI x8, vI x9, vI (x10 + 1), vU, vU]) ⟨Or.inl rfl, Or.inl rfl, Or.inl rfl, Or.inl rfl, Or.inl rfl, Or.inl rfl, Or.inl rfl, Or.inl rfl, Or.inl rfl, Or.inl rfl, Or.inl rfl, Or.inr rfl, Or.inr rfl, trivial⟩ ?_
    exact h
  · have h := h.2 c
    refine x_aload_n (dA D_X12_reckonState 144 rfl) rfl ?_
    refine x_get (v := vA 81) (dA D_X12_reckonState 145 rfl) fw_RX12_70 (sO_67 hS) (congrArg (rfV G) (sR_67_32 hS)) ?_
    refine x_iload (dA D_X12_reckonState 146 rfl) rfl ?_
    refine x_iload (dA D_X12_reckonState 147 rfl) rfl ?_
    refine x_iadd (dA D_X12_reckonState 148 rfl) ?_
    refine x_aload_n (dA D_X12_reckonState 149 rfl) rfl ?_
    refine x_get (v := vA 83) (dA D_X12_reckonState 150 rfl) fw_RX12_76 (sO_67 hS) (congrArg (rfV G) (sR_67_34 hS)) ?_
    refine x_iload (dA D_X12_reckonState 151 rfl) rfl ?_
    obtain ⟨h2, h⟩ := h
    obtain ⟨h3, h⟩ := h
    refine x_lald (dA D_X12_reckonState 152 rfl) (sA_83 hS h2 h3) ?_
    obtain ⟨h4, h⟩ := h
    obtain ⟨h5, h⟩ := h
    refine x_last (dA D_X12_reckonState 153 rfl) (sA_81 hS h4 h5) ?_
    refine x_nmM (fun M6 eM6 => ?_)
    have hM6 : Sh M6 := eM6 ▸ (sW_81 hS)
    have h := h M6 eM6 hM6
    refine x_iinc (xs' := [vA 67, vI x1, vI x2, vI x3, vI x4, vI x5, vI x6, vI x7, vI x8, vI x9, vI x10, vI x11, vI (x12 + 1)]) (dA D_X12_reckonState 154 rfl) rfl (by decide) rfl ?_
    refine x_goto (tgt := 268) (dA D_X12_reckonState 155 rfl) (by decide) ?_
    exact h
set_option maxRecDepth 100000 in
theorem B_X12_reckon__0 {G : GG} {d : Nat} {k n : Nat} {x1 x2 : Int} {M : MM} {Q : PV → MM → Prop} (hd : 1 ≤ d) (hS : Sh M) (h : ∀ v1, v1 = (iShl 1 (rd M 69 0)) - 1 → X G Y_X12_reckon_ d k n 11 [vA 67, vI x1, vI x2, vI v1, vU, vU] [] M Q) : X G Y_X12_reckon_ d k n 0 [vA 67, vI x1, vI x2, vU, vU, vU] [] M Q := by
  have hd1 : 1 ≤ d := by omega
  refine x_iconst (dA D_X12_reckon_ 0 rfl) ?_
  refine x_aload_n (dA D_X12_reckon_ 1 rfl) rfl ?_
  refine x_get (v := vA 69) (dA D_X12_reckon_ 2 rfl) fw_RX12_13 (sO_67 hS) (congrArg (rfV G) (sR_67_3 hS)) ?_
  refine x_iconst (dA D_X12_reckon_ 3 rfl) ?_
  refine x_iald (dA D_X12_reckon_ 4 rfl) (sA_69 hS (by decide) (by decide)) ?_
  refine x_ishl (dA D_X12_reckon_ 5 rfl) ?_
  refine x_iconst (dA D_X12_reckon_ 6 rfl) ?_
  refine x_isub (dA D_X12_reckon_ 7 rfl) ?_
  refine x_nmI (fun v1 ev1 => ?_)
  have h := h v1 ev1
  refine x_istore_n (xs' := [vA 67, vI x1, vI x2, vI v1, vU, vU]) (dA D_X12_reckon_ 8 rfl) (by decide) rfl ?_
  exact h
theorem C_X12_reckon_ {G : GG} {d : Nat} {x1 x2 : Int} {M : MM} {Q : PV → MM → Prop} (h : X G Y_X12_reckon_ d 0 0 0 [vA 67, vI x1, vI x2, vU, vU, vU] [] M Q) : C G Y_X12_reckon_ d 0 0 [vA 67, vI x1, vI x2] M Q := X.entry (by decide) (Nat.le_of_ble_eq_true rfl) rfl rfl rfl h
set_option maxRecDepth 100000 in
theorem B_X12_reckon__11 {G : GG} {d : Nat} {k n : Nat} {x1 x2 x3 : Int} {M : MM} {Q : PV → MM → Prop} (hd : 1 ≤ d) (hS : Sh M) (h : inR x3 ∧ ((x3 < 0 → Q vU M) ∧ (0 ≤ x3 → X G Y_X12_reckon_ d k n 18 [vA 67, vI x1, vI x2, vI x3, vI (-1), vU] [] M Q))) : X G Y_X12_reckon_ d k n 11 [vA 67, vI x1, vI x2, vI x3, vU, vU] [] M Q := by
  have hd1 : 1 ≤ d := by omega
  refine x_iload_n (dA D_X12_reckon_ 9 rfl) rfl ?_
  obtain ⟨h1, h⟩ := h
  refine x_if_ltP (tgt := 86) (dA D_X12_reckon_ 10 rfl) (by decide) h1 ⟨fun c => ?_, fun c => ?_⟩
  · have h := h.1 c
    exact x_return (dA D_X12_reckon_ 47 rfl) rfl h
  · have h := h.2 c
    refine x_iconst (dA D_X12_reckon_ 11 rfl) ?_
    refine x_istore (xs' := [vA 67, vI x1, vI x2, vI x3, vI (-1), vU]) (dA D_X12_reckon_ 12 rfl) (by decide) rfl ?_
    exact h
set_option maxRecDepth 100000 in
theorem B_X12_reckon__18 {G : GG} {d : Nat} {k n : Nat} {x1 x2 x3 x4 : Int} {M : MM} {Q : PV → MM → Prop} (hd : 1 ≤ d) (hS : Sh M) (h : inR x4 ∧ inR (rd M 69 0) ∧ (((rd M 69 0) ≤ x4 → X G Y_X12_reckon_ d k n 11 [vA 67, vI x1, vI x2, vI (x3 + (-1)), vU, vU] [] M Q) ∧ (x4 < (rd M 69 0) → X G Y_X12_reckon_ d k n 32 [vA 67, vI x1, vI x2, vI x3, vI x4, vI 0] [] M Q))) : X G Y_X12_reckon_ d k n 18 [vA 67, vI x1, vI x2, vI x3, vI x4, vU] [] M Q := by
  have hd1 : 1 ≤ d := by omega
  refine x_iload (dA D_X12_reckon_ 13 rfl) rfl ?_
  refine x_aload_n (dA D_X12_reckon_ 14 rfl) rfl ?_
  refine x_get (v := vA 69) (dA D_X12_reckon_ 15 rfl) fw_RX12_13 (sO_67 hS) (congrArg (rfV G) (sR_67_3 hS)) ?_
  refine x_iconst (dA D_X12_reckon_ 16 rfl) ?_
  refine x_iald (dA D_X12_reckon_ 17 rfl) (sA_69 hS (by decide) (by decide)) ?_
  obtain ⟨h1, h⟩ := h
  obtain ⟨h2, h⟩ := h
  refine x_icmp_geP (tgt := 80) (dA D_X12_reckon_ 18 rfl) (by decide) h1 h2 ⟨fun c => ?_, fun c => ?_⟩
  · have h := h.1 c
    refine x_iinc (xs' := [vA 67, vI x1, vI x2, vI (x3 + (-1)), vI x4, vU]) (dA D_X12_reckon_ 45 rfl) rfl (by decide) rfl ?_
    refine x_goto (tgt := 11) (dA D_X12_reckon_ 46 rfl) (by decide) ?_
    refine X.weak (xs' := [vA 67, vI x1, vI x2, vI (x3 + (-1)), vU, vU]) ⟨Or.inl rfl, Or.inl rfl, Or.inl rfl, Or.inl rfl, Or.inr rfl, Or.inl rfl, trivial⟩ ?_
    exact h
  · have h := h.2 c
    refine x_iconst (dA D_X12_reckon_ 19 rfl) ?_
    refine x_istore (xs' := [vA 67, vI x1, vI x2, vI x3, vI x4, vI 0]) (dA D_X12_reckon_ 20 rfl) (by decide) rfl ?_
    exact h
set_option maxRecDepth 100000 in
theorem B_X12_reckon__32 {G : GG} {d : Nat} {k n : Nat} {x1 x2 x3 x4 x5 : Int} {M : MM} {Q : PV → MM → Prop} (hd : 3 ≤ d) (hS : Sh M) (h : inR x5 ∧ inR x3 ∧ inR x4 ∧ ((((36 ≤ x5) ∨ (¬ (isStt x3 x4))) → X G Y_X12_reckon_ d k n 18 [vA 67, vI x1, vI x2, vI x3, vI (x4 + 1), vU] [] M Q) ∧ (¬ ((36 ≤ x5) ∨ (¬ (isStt x3 x4))) → C G Y_X12_reckonState (d - 1) 0 0 [vA 67, vI x1, vI x2, vI x3, vI x4, vI (Int.tdiv x5 6), vI (Int.tmod x5 6)] M (rU (fun M18 => Sh M18 ∧ X G Y_X12_reckon_ d k n 32 [vA 67, vI x1, vI x2, vI x3, vI x4, vI (x5 + 1)] [] M18 Q))))) : X G Y_X12_reckon_ d k n 32 [vA 67, vI x1, vI x2, vI x3, vI x4, vI x5] [] M Q := by
  have hd1 : 1 ≤ d := by omega
  refine x_iload (dA D_X12_reckon_ 21 rfl) rfl ?_
  refine x_bipush (dA D_X12_reckon_ 22 rfl) (by decide) (by decide) ?_
  obtain ⟨h2, h⟩ := h
  obtain ⟨h7, h⟩ := h
  obtain ⟨h8, h⟩ := h
  have hA : ((36 ≤ x5) ∨ (¬ (isStt x3 x4))) → X G Y_X12_reckon_ d k n 74 [vA 67, vI x1, vI x2, vI x3, vI x4, vI x5] [] M Q := by
    intro c19
    have h := h.1 c19
    refine x_iinc (xs' := [vA 67, vI x1, vI x2, vI x3, vI (x4 + 1), vI x5]) (dA D_X12_reckon_ 43 rfl) rfl (by decide) rfl ?_
    refine x_goto (tgt := 18) (dA D_X12_reckon_ 44 rfl) (by decide) ?_
    refine X.weak (xs' := [vA 67, vI x1, vI x2, vI x3, vI (x4 + 1), vU]) ⟨Or.inl rfl, Or.inl rfl, Or.inl rfl, Or.inl rfl, Or.inl rfl, Or.inr rfl, trivial⟩ ?_
    exact h
  have hB : ¬ ((36 ≤ x5) ∨ (¬ (isStt x3 x4))) → X G Y_X12_reckon_ d k n 49 [vA 67, vI x1, vI x2, vI x3, vI x4, vI x5] [] M Q := by
    intro c19
    have h := h.2 c19
    refine x_aload_n (dA D_X12_reckon_ 29 rfl) rfl ?_
    refine x_iload_n (dA D_X12_reckon_ 30 rfl) rfl ?_
    refine x_iload_n (dA D_X12_reckon_ 31 rfl) rfl ?_
    refine x_iload_n (dA D_X12_reckon_ 32 rfl) rfl ?_
    refine x_iload (dA D_X12_reckon_ 33 rfl) rfl ?_
    refine x_iload (dA D_X12_reckon_ 34 rfl) rfl ?_
    refine x_bipush (dA D_X12_reckon_ 35 rfl) (by decide) (by decide) ?_
    refine x_idiv (dA D_X12_reckon_ 36 rfl) h2 ⟨by decide, by decide⟩ (by decide) ?_
    refine x_iload (dA D_X12_reckon_ 37 rfl) rfl ?_
    refine x_bipush (dA D_X12_reckon_ 38 rfl) (by decide) (by decide) ?_
    refine x_irem (dA D_X12_reckon_ 39 rfl) h2 ⟨by decide, by decide⟩ (by decide) ?_
    refine x_callV 11 [vI x1, vI x2, vI x3, vI x4, vI (Int.tdiv x5 6), vI (Int.tmod x5 6)] [] (dA D_X12_reckon_ 40 rfl) cw_RX12_406 rfl rfl (Nat.le_of_ble_eq_true rfl) (by decide) rfl hd1 (zk k) (zk n) (sO_67 hS) h (kU (fun M18 h => ?_))
    obtain ⟨hM18, h⟩ := h
    refine x_iinc (xs' := [vA 67, vI x1, vI x2, vI x3, vI x4, vI (x5 + 1)]) (dA D_X12_reckon_ 41 rfl) rfl (by decide) rfl ?_
    refine x_goto (tgt := 32) (dA D_X12_reckon_ 42 rfl) (by decide) ?_
    exact h
  refine x_icmp_geP (tgt := 74) (dA D_X12_reckon_ 23 rfl) (by decide) h2 ⟨by decide, by decide⟩ ⟨fun c1 => ?_, fun c1 => ?_⟩
  · exact hA (by first | omega | grind)
  · refine x_aload_n (dA D_X12_reckon_ 24 rfl) rfl ?_
    refine x_iload_n (dA D_X12_reckon_ 25 rfl) rfl ?_
    refine x_iload (dA D_X12_reckon_ 26 rfl) rfl ?_
    refine x_callV 11 [vI x3, vI x4] [] (dA D_X12_reckon_ 27 rfl) cw_RX12_403 rfl rfl (Nat.le_of_ble_eq_true rfl) (by decide) rfl hd1 (zk k) (zk n) (sO_67 hS) (S_X12_isState hS h7 h8 (by omega) ?_) (kI (fun _ _ h => h))
    show X G Y_X12_reckon_ d k n 46 [vA 67, vI x1, vI x2, vI x3, vI x4, vI x5] [vI (if isStt x3 x4 then 1 else 0)] M Q
    refine x_if_eqB (tgt := 74) (dA D_X12_reckon_ 28 rfl) (by decide) ⟨fun c9 => ?_, fun c9 => ?_⟩
    · exact hA (by first | omega | grind)
    · exact hB (by first | omega | grind)
set_option maxRecDepth 100000 in
theorem B_X12_chooseRow_0 {G : GG} {d : Nat} {k n : Nat} {x1 x2 x3 : Int} {M : MM} {Q : PV → MM → Prop} (hd : 1 ≤ d) (hS : Sh M) (h : X G Y_X12_chooseRow d k n 3 [vA 67, vA x1, vI x2, vI x3, vI 0, vU, vU, vU, vU] [] M Q) : X G Y_X12_chooseRow d k n 0 [vA 67, vA x1, vI x2, vI x3, vU, vU, vU, vU, vU] [] M Q := by
  have hd1 : 1 ≤ d := by omega
  refine x_iconst (dA D_X12_chooseRow 0 rfl) ?_
  refine x_istore (xs' := [vA 67, vA x1, vI x2, vI x3, vI 0, vU, vU, vU, vU]) (dA D_X12_chooseRow 1 rfl) (by decide) rfl ?_
  exact h
theorem C_X12_chooseRow {G : GG} {d : Nat} {x1 x2 x3 : Int} {M : MM} {Q : PV → MM → Prop} (h : X G Y_X12_chooseRow d 0 0 0 [vA 67, vA x1, vI x2, vI x3, vU, vU, vU, vU, vU] [] M Q) : C G Y_X12_chooseRow d 0 0 [vA 67, vA x1, vI x2, vI x3] M Q := X.entry (by decide) (Nat.le_of_ble_eq_true rfl) rfl rfl rfl h
set_option maxRecDepth 100000 in
theorem B_X12_chooseRow_3 {G : GG} {d : Nat} {k n : Nat} {x1 x2 x3 x4 : Int} {M : MM} {Q : PV → MM → Prop} (hd : 1 ≤ d) (hS : Sh M) (h : inR x4 ∧ ((6912 ≤ x4 → X G Y_X12_chooseRow d k n 34 [vA 67, vA x1, vI x2, vI x3, vI 0, vI (-1), vI 0, vU, vU] [] M Q) ∧ (x4 < 6912 → 0 ≤ x4 ∧ x4 < 6912 ∧ ∀ M4, M4 = wr M 82 x4 (-1) → Sh M4 → X G Y_X12_chooseRow d k n 3 [vA 67, vA x1, vI x2, vI x3, vI (x4 + 1), vU, vU, vU, vU] [] M4 Q))) : X G Y_X12_chooseRow d k n 3 [vA 67, vA x1, vI x2, vI x3, vI x4, vU, vU, vU, vU] [] M Q := by
  have hd1 : 1 ≤ d := by omega
  refine x_iload (dA D_X12_chooseRow 2 rfl) rfl ?_
  refine x_sipush (dA D_X12_chooseRow 3 rfl) (by decide) (by decide) ?_
  obtain ⟨h1, h⟩ := h
  refine x_icmp_geP (tgt := 25) (dA D_X12_chooseRow 4 rfl) (by decide) h1 ⟨by decide, by decide⟩ ⟨fun c => ?_, fun c => ?_⟩
  · have h := h.1 c
    refine x_iconst (dA D_X12_chooseRow 12 rfl) ?_
    refine x_istore (xs' := [vA 67, vA x1, vI x2, vI x3, vI 0, vU, vU, vU, vU]) (dA D_X12_chooseRow 13 rfl) (by decide) rfl ?_
    refine x_iconst (dA D_X12_chooseRow 14 rfl) ?_
    refine x_istore (xs' := [vA 67, vA x1, vI x2, vI x3, vI 0, vI (-1), vU, vU, vU]) (dA D_X12_chooseRow 15 rfl) (by decide) rfl ?_
    refine x_iconst (dA D_X12_chooseRow 16 rfl) ?_
    refine x_istore (xs' := [vA 67, vA x1, vI x2, vI x3, vI 0, vI (-1), vI 0, vU, vU]) (dA D_X12_chooseRow 17 rfl) (by decide) rfl ?_
    exact h
  · have h := h.2 c
    refine x_aload_n (dA D_X12_chooseRow 5 rfl) rfl ?_
    refine x_get (v := vA 82) (dA D_X12_chooseRow 6 rfl) fw_RX12_73 (sO_67 hS) (congrArg (rfV G) (sR_67_33 hS)) ?_
    refine x_iload (dA D_X12_chooseRow 7 rfl) rfl ?_
    refine x_iconst (dA D_X12_chooseRow 8 rfl) ?_
    obtain ⟨h2, h⟩ := h
    obtain ⟨h3, h⟩ := h
    refine x_iast (dA D_X12_chooseRow 9 rfl) (sA_82 hS h2 h3) ?_
    refine x_nmM (fun M4 eM4 => ?_)
    have hM4 : Sh M4 := eM4 ▸ (sW_82 hS)
    have h := h M4 eM4 hM4
    refine x_iinc (xs' := [vA 67, vA x1, vI x2, vI x3, vI (x4 + 1), vU, vU, vU, vU]) (dA D_X12_chooseRow 10 rfl) rfl (by decide) rfl ?_
    refine x_goto (tgt := 3) (dA D_X12_chooseRow 11 rfl) (by decide) ?_
    exact h
set_option maxRecDepth 100000 in
theorem B_X12_chooseRow_34 {G : GG} {d : Nat} {k n : Nat} {x1 x2 x3 x4 x5 x6 : Int} {M : MM} {Q : PV → MM → Prop} (hd : 4 ≤ d) (hS : Sh M) (h : inR x6 ∧ inR x3 ∧ ((x3 ≤ x6 → Q vU M) ∧ (x6 < x3 → okA M x1 20 (x2 + x6) ∧ ∀ v4, v4 = rd M x1 (x2 + x6) → RS (rd M 69) ∧ (0 ≤ x4 ∧ x4 < 32) ∧ (((iAnd (iShr (canB (rd M 69) x4) v4) 1) = 1 → X G Y_X12_chooseRow d k n 66 [vA 67, vA x1, vI x2, vI x3, vI x4, vI x5, vI x6, vI v4, vI 0] [] M Q) ∧ (¬ ((iAnd (iShr (canB (rd M 69) x4) v4) 1) = 1) → Q vU M))))) : X G Y_X12_chooseRow d k n 34 [vA 67, vA x1, vI x2, vI x3, vI x4, vI x5, vI x6, vU, vU] [] M Q := by
  have hd1 : 1 ≤ d := by omega
  refine x_iload (dA D_X12_chooseRow 18 rfl) rfl ?_
  refine x_iload_n (dA D_X12_chooseRow 19 rfl) rfl ?_
  obtain ⟨h1, h⟩ := h
  obtain ⟨h2, h⟩ := h
  refine x_icmp_geP (tgt := 122) (dA D_X12_chooseRow 20 rfl) (by decide) h1 h2 ⟨fun c => ?_, fun c => ?_⟩
  · have h := h.1 c
    exact x_return (dA D_X12_chooseRow 64 rfl) rfl h
  · have h := h.2 c
    refine x_aload_n (dA D_X12_chooseRow 21 rfl) rfl ?_
    refine x_iload_n (dA D_X12_chooseRow 22 rfl) rfl ?_
    refine x_iload (dA D_X12_chooseRow 23 rfl) rfl ?_
    refine x_iadd (dA D_X12_chooseRow 24 rfl) ?_
    obtain ⟨h3, h⟩ := h
    refine x_iald (dA D_X12_chooseRow 25 rfl) h3 ?_
    refine x_nmI (fun v4 ev4 => ?_)
    have h := h v4 ev4
    refine x_istore (xs' := [vA 67, vA x1, vI x2, vI x3, vI x4, vI x5, vI x6, vI v4, vU]) (dA D_X12_chooseRow 26 rfl) (by decide) rfl ?_
    refine x_aload_n (dA D_X12_chooseRow 27 rfl) rfl ?_
    refine x_iload (dA D_X12_chooseRow 28 rfl) rfl ?_
    obtain ⟨h5, h⟩ := h
    obtain ⟨h6, h⟩ := h
    refine x_callV 11 [vI x4] [] (dA D_X12_chooseRow 29 rfl) cw_RX12_356 rfl rfl (Nat.le_of_ble_eq_true rfl) (by decide) rfl hd1 (zk k) (zk n) (sO_67 hS) (S_X12_canBe hS h5 h6 (by omega) ?_) (kI (fun _ _ h => h))
    show X G Y_X12_chooseRow d k n 54 [vA 67, vA x1, vI x2, vI x3, vI x4, vI x5, vI x6, vI v4, vU] [vI (canB (rd M 69) x4)] M Q
    refine x_iload (dA D_X12_chooseRow 30 rfl) rfl ?_
    refine x_callS [vI (canB (rd M 69) x4), vI v4] [] (dA D_X12_chooseRow 31 rfl) cw_RX12_138 rfl rfl (Nat.le_of_ble_eq_true rfl) hd1 (zk k) (zk n) (S_X12_is  (by omega) ?_) (kI (fun _ _ h => h))
    show X G Y_X12_chooseRow d k n 59 [vA 67, vA x1, vI x2, vI x3, vI x4, vI x5, vI x6, vI v4, vU] [vI (if (iAnd (iShr (canB (rd M 69) x4) v4) 1) = 1 then 1 else 0)] M Q
    refine x_if_neB (tgt := 63) (dA D_X12_chooseRow 32 rfl) (by decide) ⟨fun c => ?_, fun c => ?_⟩
    · have h := h.1 c
      refine x_iconst (dA D_X12_chooseRow 34 rfl) ?_
      refine x_istore (xs' := [vA 67, vA x1, vI x2, vI x3, vI x4, vI x5, vI x6, vI v4, vI 0]) (dA D_X12_chooseRow 35 rfl) (by decide) rfl ?_
      exact h
    · have h := h.2 c
      exact x_return (dA D_X12_chooseRow 33 rfl) rfl h
set_option maxRecDepth 100000 in
theorem B_X12_chooseRow_66 {G : GG} {d : Nat} {k n : Nat} {x1 x2 x3 x4 x5 x6 x7 x8 : Int} {M : MM} {Q : PV → MM → Prop} (hd : 2 ≤ d) (hS : Sh M) (h : inR x8 ∧ ((36 ≤ x8 → ∀ v2, v2 = iOr x4 (iShl 1 x7) → X G Y_X12_chooseRow d k n 34 [vA 67, vA x1, vI x2, vI x3, vI v2, vI x7, vI (x6 + 1), vU, vU] [] M Q) ∧ (x8 < 36 → 0 ≤ (((((((x4 * 6) + x5) + 1) * 6) + (Int.tdiv x8 6)) * 6) + (Int.tmod x8 6)) ∧ (((((((x4 * 6) + x5) + 1) * 6) + (Int.tdiv x8 6)) * 6) + (Int.tmod x8 6)) < 6912 ∧ ∀ M5, M5 = wr M 82 (((((((x4 * 6) + x5) + 1) * 6) + (Int.tdiv x8 6)) * 6) + (Int.tmod x8 6)) x7 → Sh M5 → X G Y_X12_chooseRow d k n 66 [vA 67, vA x1, vI x2, vI x3, vI x4, vI x5, vI x6, vI x7, vI (x8 + 1)] [] M5 Q))) : X G Y_X12_chooseRow d k n 66 [vA 67, vA x1, vI x2, vI x3, vI x4, vI x5, vI x6, vI x7, vI x8] [] M Q := by
  have hd1 : 1 ≤ d := by omega
  refine x_iload (dA D_X12_chooseRow 36 rfl) rfl ?_
  refine x_bipush (dA D_X12_chooseRow 37 rfl) (by decide) (by decide) ?_
  obtain ⟨h1, h⟩ := h
  refine x_icmp_geP (tgt := 103) (dA D_X12_chooseRow 38 rfl) (by decide) h1 ⟨by decide, by decide⟩ ⟨fun c => ?_, fun c => ?_⟩
  · have h := h.1 c
    refine x_iload (dA D_X12_chooseRow 54 rfl) rfl ?_
    refine x_iconst (dA D_X12_chooseRow 55 rfl) ?_
    refine x_iload (dA D_X12_chooseRow 56 rfl) rfl ?_
    refine x_ishl (dA D_X12_chooseRow 57 rfl) ?_
    refine x_ior (dA D_X12_chooseRow 58 rfl) ?_
    refine x_nmI (fun v2 ev2 => ?_)
    have h := h v2 ev2
    refine x_istore (xs' := [vA 67, vA x1, vI x2, vI x3, vI v2, vI x5, vI x6, vI x7, vI x8]) (dA D_X12_chooseRow 59 rfl) (by decide) rfl ?_
    refine x_iload (dA D_X12_chooseRow 60 rfl) rfl ?_
    refine x_istore (xs' := [vA 67, vA x1, vI x2, vI x3, vI v2, vI x7, vI x6, vI x7, vI x8]) (dA D_X12_chooseRow 61 rfl) (by decide) rfl ?_
    refine x_iinc (xs' := [vA 67, vA x1, vI x2, vI x3, vI v2, vI x7, vI (x6 + 1), vI x7, vI x8]) (dA D_X12_chooseRow 62 rfl) rfl (by decide) rfl ?_
    refine x_goto (tgt := 34) (dA D_X12_chooseRow 63 rfl) (by decide) ?_
    refine X.weak (xs' := [vA 67, vA x1, vI x2, vI x3, vI v2, vI x7, vI (x6 + 1), vU, vU]) ⟨Or.inl rfl, Or.inl rfl, Or.inl rfl, Or.inl rfl, Or.inl rfl, Or.inl rfl, Or.inl rfl, Or.inr rfl, Or.inr rfl, trivial⟩ ?_
    exact h
  · have h := h.2 c
    refine x_aload_n (dA D_X12_chooseRow 39 rfl) rfl ?_
    refine x_get (v := vA 82) (dA D_X12_chooseRow 40 rfl) fw_RX12_73 (sO_67 hS) (congrArg (rfV G) (sR_67_33 hS)) ?_
    refine x_iload (dA D_X12_chooseRow 41 rfl) rfl ?_
    refine x_iload (dA D_X12_chooseRow 42 rfl) rfl ?_
    refine x_iload (dA D_X12_chooseRow 43 rfl) rfl ?_
    refine x_bipush (dA D_X12_chooseRow 44 rfl) (by decide) (by decide) ?_
    refine x_idiv (dA D_X12_chooseRow 45 rfl) h1 ⟨by decide, by decide⟩ (by decide) ?_
    refine x_iload (dA D_X12_chooseRow 46 rfl) rfl ?_
    refine x_bipush (dA D_X12_chooseRow 47 rfl) (by decide) (by decide) ?_
    refine x_irem (dA D_X12_chooseRow 48 rfl) h1 ⟨by decide, by decide⟩ (by decide) ?_
    refine x_callS [vI x4, vI x5, vI (Int.tdiv x8 6), vI (Int.tmod x8 6)] [vA 82] (dA D_X12_chooseRow 49 rfl) cw_RX12_395 rfl rfl (Nat.le_of_ble_eq_true rfl) hd1 (zk k) (zk n) (S_X12_stateOf  (by omega) ?_) (kI (fun _ _ h => h))
    show X G Y_X12_chooseRow d k n 94 [vA 67, vA x1, vI x2, vI x3, vI x4, vI x5, vI x6, vI x7, vI x8] [vI (((((((x4 * 6) + x5) + 1) * 6) + (Int.tdiv x8 6)) * 6) + (Int.tmod x8 6)), vA 82] M Q
    refine x_iload (dA D_X12_chooseRow 50 rfl) rfl ?_
    obtain ⟨h3, h⟩ := h
    obtain ⟨h4, h⟩ := h
    refine x_iast (dA D_X12_chooseRow 51 rfl) (sA_82 hS h3 h4) ?_
    refine x_nmM (fun M5 eM5 => ?_)
    have hM5 : Sh M5 := eM5 ▸ (sW_82 hS)
    have h := h M5 eM5 hM5
    refine x_iinc (xs' := [vA 67, vA x1, vI x2, vI x3, vI x4, vI x5, vI x6, vI x7, vI (x8 + 1)]) (dA D_X12_chooseRow 52 rfl) rfl (by decide) rfl ?_
    refine x_goto (tgt := 66) (dA D_X12_chooseRow 53 rfl) (by decide) ?_
    exact h
set_option maxRecDepth 100000 in
theorem B_X12_chooseMost_0 {G : GG} {d : Nat} {k n : Nat} {M : MM} {Q : PV → MM → Prop} (hd : 1 ≤ d) (hS : Sh M) (h : X G Y_X12_chooseMost d k n 2 [vA 67, vI 0, vU, vU] [] M Q) : X G Y_X12_chooseMost d k n 0 [vA 67, vU, vU, vU] [] M Q := by
  have hd1 : 1 ≤ d := by omega
  refine x_iconst (dA D_X12_chooseMost 0 rfl) ?_
  refine x_istore_n (xs' := [vA 67, vI 0, vU, vU]) (dA D_X12_chooseMost 1 rfl) (by decide) rfl ?_
  exact h
theorem C_X12_chooseMost {G : GG} {d : Nat} {M : MM} {Q : PV → MM → Prop} (h : X G Y_X12_chooseMost d 0 0 0 [vA 67, vU, vU, vU] [] M Q) : C G Y_X12_chooseMost d 0 0 [vA 67] M Q := X.entry (by decide) (Nat.le_of_ble_eq_true rfl) rfl rfl rfl h
set_option maxRecDepth 100000 in
theorem B_X12_chooseMost_2 {G : GG} {d : Nat} {k n : Nat} {x1 : Int} {M : MM} {Q : PV → MM → Prop} (hd : 1 ≤ d) (hS : Sh M) (h : inR x1 ∧ (((iShl 1 (rd M 69 0)) ≤ x1 → Q vU M) ∧ (x1 < (iShl 1 (rd M 69 0)) → X G Y_X12_chooseMost d k n 16 [vA 67, vI x1, vI (-1), vU] [] M Q))) : X G Y_X12_chooseMost d k n 2 [vA 67, vI x1, vU, vU] [] M Q := by
  have hd1 : 1 ≤ d := by omega
  refine x_iload_n (dA D_X12_chooseMost 2 rfl) rfl ?_
  refine x_iconst (dA D_X12_chooseMost 3 rfl) ?_
  refine x_aload_n (dA D_X12_chooseMost 4 rfl) rfl ?_
  refine x_get (v := vA 69) (dA D_X12_chooseMost 5 rfl) fw_RX12_13 (sO_67 hS) (congrArg (rfV G) (sR_67_3 hS)) ?_
  refine x_iconst (dA D_X12_chooseMost 6 rfl) ?_
  refine x_iald (dA D_X12_chooseMost 7 rfl) (sA_69 hS (by decide) (by decide)) ?_
  refine x_ishl (dA D_X12_chooseMost 8 rfl) ?_
  obtain ⟨h1, h⟩ := h
  refine x_icmp_geP (tgt := 93) (dA D_X12_chooseMost 9 rfl) (by decide) h1 (inR_iShl _ _) ⟨fun c => ?_, fun c => ?_⟩
  · have h := h.1 c
    exact x_return (dA D_X12_chooseMost 56 rfl) rfl h
  · have h := h.2 c
    refine x_iconst (dA D_X12_chooseMost 10 rfl) ?_
    refine x_istore_n (xs' := [vA 67, vI x1, vI (-1), vU]) (dA D_X12_chooseMost 11 rfl) (by decide) rfl ?_
    exact h
set_option maxRecDepth 100000 in
theorem B_X12_chooseMost_16 {G : GG} {d : Nat} {k n : Nat} {x1 x2 : Int} {M : MM} {Q : PV → MM → Prop} (hd : 1 ≤ d) (hS : Sh M) (h : inR x2 ∧ inR (rd M 69 0) ∧ (((rd M 69 0) ≤ x2 → X G Y_X12_chooseMost d k n 2 [vA 67, vI (x1 + 1), vU, vU] [] M Q) ∧ (x2 < (rd M 69 0) → X G Y_X12_chooseMost d k n 28 [vA 67, vI x1, vI x2, vI 0] [] M Q))) : X G Y_X12_chooseMost d k n 16 [vA 67, vI x1, vI x2, vU] [] M Q := by
  have hd1 : 1 ≤ d := by omega
  refine x_iload_n (dA D_X12_chooseMost 12 rfl) rfl ?_
  refine x_aload_n (dA D_X12_chooseMost 13 rfl) rfl ?_
  refine x_get (v := vA 69) (dA D_X12_chooseMost 14 rfl) fw_RX12_13 (sO_67 hS) (congrArg (rfV G) (sR_67_3 hS)) ?_
  refine x_iconst (dA D_X12_chooseMost 15 rfl) ?_
  refine x_iald (dA D_X12_chooseMost 16 rfl) (sA_69 hS (by decide) (by decide)) ?_
  obtain ⟨h1, h⟩ := h
  obtain ⟨h2, h⟩ := h
  refine x_icmp_geP (tgt := 87) (dA D_X12_chooseMost 17 rfl) (by decide) h1 h2 ⟨fun c => ?_, fun c => ?_⟩
  · have h := h.1 c
    refine x_iinc (xs' := [vA 67, vI (x1 + 1), vI x2, vU]) (dA D_X12_chooseMost 54 rfl) rfl (by decide) rfl ?_
    refine x_goto (tgt := 2) (dA D_X12_chooseMost 55 rfl) (by decide) ?_
    refine X.weak (xs' := [vA 67, vI (x1 + 1), vU, vU]) ⟨Or.inl rfl, Or.inl rfl, Or.inr rfl, Or.inl rfl, trivial⟩ ?_
    exact h
  · have h := h.2 c
    refine x_iconst (dA D_X12_chooseMost 18 rfl) ?_
    refine x_istore_n (xs' := [vA 67, vI x1, vI x2, vI 0]) (dA D_X12_chooseMost 19 rfl) (by decide) rfl ?_
    exact h
set_option maxRecDepth 100000 in
theorem B_X12_chooseMost_28 {G : GG} {d : Nat} {k n : Nat} {x1 x2 x3 : Int} {M : MM} {Q : PV → MM → Prop} (hd : 3 ≤ d) (hS : Sh M) (h : inR x3 ∧ inR x1 ∧ inR x2 ∧ ((((36 ≤ x3) ∨ (¬ (isStt x1 x2))) → X G Y_X12_chooseMost d k n 16 [vA 67, vI x1, vI (x2 + 1), vU] [] M Q) ∧ (¬ ((36 ≤ x3) ∨ (¬ (isStt x1 x2))) → C G Y_X12_mostBehind (d - 1) 0 0 [vA 67, vI x1, vI x2, vI (Int.tdiv x3 6), vI (Int.tmod x3 6)] M (rI (fun r18 M17 => Sh M17 ∧ 0 ≤ (((((((x1 * 6) + x2) + 1) * 6) + (Int.tdiv x3 6)) * 6) + (Int.tmod x3 6)) ∧ (((((((x1 * 6) + x2) + 1) * 6) + (Int.tdiv x3 6)) * 6) + (Int.tmod x3 6)) < 6912 ∧ ∀ M21, M21 = wr M17 82 (((((((x1 * 6) + x2) + 1) * 6) + (Int.tdiv x3 6)) * 6) + (Int.tmod x3 6)) r18 → Sh M21 → X G Y_X12_chooseMost d k n 28 [vA 67, vI x1, vI x2, vI (x3 + 1)] [] M21 Q))))) : X G Y_X12_chooseMost d k n 28 [vA 67, vI x1, vI x2, vI x3] [] M Q := by
  have hd1 : 1 ≤ d := by omega
  refine x_iload_n (dA D_X12_chooseMost 20 rfl) rfl ?_
  refine x_bipush (dA D_X12_chooseMost 21 rfl) (by decide) (by decide) ?_
  obtain ⟨h2, h⟩ := h
  obtain ⟨h7, h⟩ := h
  obtain ⟨h8, h⟩ := h
  have hA : ((36 ≤ x3) ∨ (¬ (isStt x1 x2))) → X G Y_X12_chooseMost d k n 81 [vA 67, vI x1, vI x2, vI x3] [] M Q := by
    intro c22
    have h := h.1 c22
    refine x_iinc (xs' := [vA 67, vI x1, vI (x2 + 1), vI x3]) (dA D_X12_chooseMost 52 rfl) rfl (by decide) rfl ?_
    refine x_goto (tgt := 16) (dA D_X12_chooseMost 53 rfl) (by decide) ?_
    refine X.weak (xs' := [vA 67, vI x1, vI (x2 + 1), vU]) ⟨Or.inl rfl, Or.inl rfl, Or.inl rfl, Or.inr rfl, trivial⟩ ?_
    exact h
  have hB : ¬ ((36 ≤ x3) ∨ (¬ (isStt x1 x2))) → X G Y_X12_chooseMost d k n 43 [vA 67, vI x1, vI x2, vI x3] [] M Q := by
    intro c22
    have h := h.2 c22
    refine x_aload_n (dA D_X12_chooseMost 28 rfl) rfl ?_
    refine x_get (v := vA 82) (dA D_X12_chooseMost 29 rfl) fw_RX12_73 (sO_67 hS) (congrArg (rfV G) (sR_67_33 hS)) ?_
    refine x_iload_n (dA D_X12_chooseMost 30 rfl) rfl ?_
    refine x_iload_n (dA D_X12_chooseMost 31 rfl) rfl ?_
    refine x_iload_n (dA D_X12_chooseMost 32 rfl) rfl ?_
    refine x_bipush (dA D_X12_chooseMost 33 rfl) (by decide) (by decide) ?_
    refine x_idiv (dA D_X12_chooseMost 34 rfl) h2 ⟨by decide, by decide⟩ (by decide) ?_
    refine x_iload_n (dA D_X12_chooseMost 35 rfl) rfl ?_
    refine x_bipush (dA D_X12_chooseMost 36 rfl) (by decide) (by decide) ?_
    refine x_irem (dA D_X12_chooseMost 37 rfl) h2 ⟨by decide, by decide⟩ (by decide) ?_
    refine x_callS [vI x1, vI x2, vI (Int.tdiv x3 6), vI (Int.tmod x3 6)] [vA 82] (dA D_X12_chooseMost 38 rfl) cw_RX12_395 rfl rfl (Nat.le_of_ble_eq_true rfl) hd1 (zk k) (zk n) (S_X12_stateOf  (by omega) ?_) (kI (fun _ _ h => h))
    show X G Y_X12_chooseMost d k n 60 [vA 67, vI x1, vI x2, vI x3] [vI (((((((x1 * 6) + x2) + 1) * 6) + (Int.tdiv x3 6)) * 6) + (Int.tmod x3 6)), vA 82] M Q
    refine x_aload_n (dA D_X12_chooseMost 39 rfl) rfl ?_
    refine x_iload_n (dA D_X12_chooseMost 40 rfl) rfl ?_
    refine x_iload_n (dA D_X12_chooseMost 41 rfl) rfl ?_
    refine x_iload_n (dA D_X12_chooseMost 42 rfl) rfl ?_
    refine x_bipush (dA D_X12_chooseMost 43 rfl) (by decide) (by decide) ?_
    refine x_idiv (dA D_X12_chooseMost 44 rfl) h2 ⟨by decide, by decide⟩ (by decide) ?_
    refine x_iload_n (dA D_X12_chooseMost 45 rfl) rfl ?_
    refine x_bipush (dA D_X12_chooseMost 46 rfl) (by decide) (by decide) ?_
    refine x_irem (dA D_X12_chooseMost 47 rfl) h2 ⟨by decide, by decide⟩ (by decide) ?_
    refine x_callV 11 [vI x1, vI x2, vI (Int.tdiv x3 6), vI (Int.tmod x3 6)] [vI (((((((x1 * 6) + x2) + 1) * 6) + (Int.tdiv x3 6)) * 6) + (Int.tmod x3 6)), vA 82] (dA D_X12_chooseMost 48 rfl) cw_RX12_418 rfl rfl (Nat.le_of_ble_eq_true rfl) (by decide) rfl hd1 (zk k) (zk n) (sO_67 hS) h (kI (fun r18 M17 h => ?_))
    obtain ⟨hM17, h⟩ := h
    obtain ⟨h19, h⟩ := h
    obtain ⟨h20, h⟩ := h
    refine x_iast (dA D_X12_chooseMost 49 rfl) (sA_82 hM17 h19 h20) ?_
    refine x_nmM (fun M21 eM21 => ?_)
    have hM21 : Sh M21 := eM21 ▸ (sW_82 hM17)
    have h := h M21 eM21 hM21
    refine x_iinc (xs' := [vA 67, vI x1, vI x2, vI (x3 + 1)]) (dA D_X12_chooseMost 50 rfl) rfl (by decide) rfl ?_
    refine x_goto (tgt := 28) (dA D_X12_chooseMost 51 rfl) (by decide) ?_
    exact h
  refine x_icmp_geP (tgt := 81) (dA D_X12_chooseMost 22 rfl) (by decide) h2 ⟨by decide, by decide⟩ ⟨fun c1 => ?_, fun c1 => ?_⟩
  · exact hA (by first | omega | grind)
  · refine x_aload_n (dA D_X12_chooseMost 23 rfl) rfl ?_
    refine x_iload_n (dA D_X12_chooseMost 24 rfl) rfl ?_
    refine x_iload_n (dA D_X12_chooseMost 25 rfl) rfl ?_
    refine x_callV 11 [vI x1, vI x2] [] (dA D_X12_chooseMost 26 rfl) cw_RX12_403 rfl rfl (Nat.le_of_ble_eq_true rfl) (by decide) rfl hd1 (zk k) (zk n) (sO_67 hS) (S_X12_isState hS h7 h8 (by omega) ?_) (kI (fun _ _ h => h))
    show X G Y_X12_chooseMost d k n 40 [vA 67, vI x1, vI x2, vI x3] [vI (if isStt x1 x2 then 1 else 0)] M Q
    refine x_if_eqB (tgt := 81) (dA D_X12_chooseMost 27 rfl) (by decide) ⟨fun c9 => ?_, fun c9 => ?_⟩
    · exact hA (by first | omega | grind)
    · exact hB (by first | omega | grind)
set_option maxRecDepth 100000 in
theorem B_X12_reckonRow_0 {G : GG} {d : Nat} {k n : Nat} {x1 x2 x3 : Int} {M : MM} {Q : PV → MM → Prop} (hd : 1 ≤ d) (hS : Sh M) (h : X G Y_X12_reckonRow d k n 6 [vA 67, vA x1, vI x2, vI x3, vI 0, vI 0, vU, vU] [] M Q) : X G Y_X12_reckonRow d k n 0 [vA 67, vA x1, vI x2, vI x3, vU, vU, vU, vU] [] M Q := by
  have hd1 : 1 ≤ d := by omega
  refine x_iconst (dA D_X12_reckonRow 0 rfl) ?_
  refine x_istore (xs' := [vA 67, vA x1, vI x2, vI x3, vI 0, vU, vU, vU]) (dA D_X12_reckonRow 1 rfl) (by decide) rfl ?_
  refine x_iconst (dA D_X12_reckonRow 2 rfl) ?_
  refine x_istore (xs' := [vA 67, vA x1, vI x2, vI x3, vI 0, vI 0, vU, vU]) (dA D_X12_reckonRow 3 rfl) (by decide) rfl ?_
  exact h
theorem C_X12_reckonRow {G : GG} {d : Nat} {x1 x2 x3 : Int} {M : MM} {Q : PV → MM → Prop} (h : X G Y_X12_reckonRow d 0 0 0 [vA 67, vA x1, vI x2, vI x3, vU, vU, vU, vU] [] M Q) : C G Y_X12_reckonRow d 0 0 [vA 67, vA x1, vI x2, vI x3] M Q := X.entry (by decide) (Nat.le_of_ble_eq_true rfl) rfl rfl rfl h
set_option maxRecDepth 100000 in
theorem B_X12_reckonRow_6 {G : GG} {d : Nat} {k n : Nat} {x1 x2 x3 x4 x5 : Int} {M : MM} {Q : PV → MM → Prop} (hd : 1 ≤ d) (hS : Sh M) (h : inR x5 ∧ inR x3 ∧ ((x3 ≤ x5 → X G Y_X12_reckonRow d k n 34 [vA 67, vA x1, vI x2, vI x3, vI x4, vI x3, vU, vU] [] M Q) ∧ (x5 < x3 → okA M x1 20 (x2 + x5) ∧ ∀ v4, v4 = iOr x4 (iShl 1 (rd M x1 (x2 + x5))) → X G Y_X12_reckonRow d k n 6 [vA 67, vA x1, vI x2, vI x3, vI v4, vI (x5 + 1), vU, vU] [] M Q))) : X G Y_X12_reckonRow d k n 6 [vA 67, vA x1, vI x2, vI x3, vI x4, vI x5, vU, vU] [] M Q := by
  have hd1 : 1 ≤ d := by omega
  refine x_iload (dA D_X12_reckonRow 4 rfl) rfl ?_
  refine x_iload_n (dA D_X12_reckonRow 5 rfl) rfl ?_
  obtain ⟨h1, h⟩ := h
  obtain ⟨h2, h⟩ := h
  refine x_icmp_geP (tgt := 31) (dA D_X12_reckonRow 6 rfl) (by decide) h1 h2 ⟨fun c => ?_, fun c => ?_⟩
  · have h := h.1 c
    refine x_iload_n (dA D_X12_reckonRow 19 rfl) rfl ?_
    refine x_istore (xs' := [vA 67, vA x1, vI x2, vI x3, vI x4, vI x3, vU, vU]) (dA D_X12_reckonRow 20 rfl) (by decide) rfl ?_
    exact h
  · have h := h.2 c
    refine x_iload (dA D_X12_reckonRow 7 rfl) rfl ?_
    refine x_iconst (dA D_X12_reckonRow 8 rfl) ?_
    refine x_aload_n (dA D_X12_reckonRow 9 rfl) rfl ?_
    refine x_iload_n (dA D_X12_reckonRow 10 rfl) rfl ?_
    refine x_iload (dA D_X12_reckonRow 11 rfl) rfl ?_
    refine x_iadd (dA D_X12_reckonRow 12 rfl) ?_
    obtain ⟨h3, h⟩ := h
    refine x_iald (dA D_X12_reckonRow 13 rfl) h3 ?_
    refine x_ishl (dA D_X12_reckonRow 14 rfl) ?_
    refine x_ior (dA D_X12_reckonRow 15 rfl) ?_
    refine x_nmI (fun v4 ev4 => ?_)
    have h := h v4 ev4
    refine x_istore (xs' := [vA 67, vA x1, vI x2, vI x3, vI v4, vI x5, vU, vU]) (dA D_X12_reckonRow 16 rfl) (by decide) rfl ?_
    refine x_iinc (xs' := [vA 67, vA x1, vI x2, vI x3, vI v4, vI (x5 + 1), vU, vU]) (dA D_X12_reckonRow 17 rfl) rfl (by decide) rfl ?_
    refine x_goto (tgt := 6) (dA D_X12_reckonRow 18 rfl) (by decide) ?_
    exact h
set_option maxRecDepth 100000 in
theorem B_X12_reckonRow_34 {G : GG} {d : Nat} {k n : Nat} {x1 x2 x3 x4 x5 : Int} {M : MM} {Q : PV → MM → Prop} (hd : 1 ≤ d) (hS : Sh M) (h : inR x5 ∧ ((x5 < 0 → Q vU M) ∧ (0 ≤ x5 → ((x5 ≠ 0 → okA M x1 20 ((x2 + x5) - 1) ∧ ∀ v3, v3 = rd M x1 ((x2 + x5) - 1) → X G Y_X12_reckonRow d k n 61 [vA 67, vA x1, vI x2, vI x3, vI x4, vI x5, vI v3, vI 0] [] M Q) ∧ (x5 = 0 → X G Y_X12_reckonRow d k n 61 [vA 67, vA x1, vI x2, vI x3, vI x4, vI x5, vI (-1), vI 0] [] M Q))))) : X G Y_X12_reckonRow d k n 34 [vA 67, vA x1, vI x2, vI x3, vI x4, vI x5, vU, vU] [] M Q := by
  have hd1 : 1 ≤ d := by omega
  refine x_iload (dA D_X12_reckonRow 21 rfl) rfl ?_
  obtain ⟨h1, h⟩ := h
  refine x_if_ltP (tgt := 122) (dA D_X12_reckonRow 22 rfl) (by decide) h1 ⟨fun c => ?_, fun c => ?_⟩
  · have h := h.1 c
    exact x_return (dA D_X12_reckonRow 68 rfl) rfl h
  · have h := h.2 c
    refine x_iload (dA D_X12_reckonRow 23 rfl) rfl ?_
    refine x_if_neP (tgt := 48) (dA D_X12_reckonRow 24 rfl) (by decide) h1 ⟨fun c => ?_, fun c => ?_⟩
    · have h := h.1 c
      refine x_aload_n (dA D_X12_reckonRow 27 rfl) rfl ?_
      refine x_iload_n (dA D_X12_reckonRow 28 rfl) rfl ?_
      refine x_iload (dA D_X12_reckonRow 29 rfl) rfl ?_
      refine x_iadd (dA D_X12_reckonRow 30 rfl) ?_
      refine x_iconst (dA D_X12_reckonRow 31 rfl) ?_
      refine x_isub (dA D_X12_reckonRow 32 rfl) ?_
      obtain ⟨h2, h⟩ := h
      refine x_iald (dA D_X12_reckonRow 33 rfl) h2 ?_
      refine x_nmI (fun v3 ev3 => ?_)
      have h := h v3 ev3
      refine x_istore (xs' := [vA 67, vA x1, vI x2, vI x3, vI x4, vI x5, vI v3, vU]) (dA D_X12_reckonRow 34 rfl) (by decide) rfl ?_
      refine x_iconst (dA D_X12_reckonRow 35 rfl) ?_
      refine x_istore (xs' := [vA 67, vA x1, vI x2, vI x3, vI x4, vI x5, vI v3, vI 0]) (dA D_X12_reckonRow 36 rfl) (by decide) rfl ?_
      exact h
    · have h := h.2 c
      refine x_iconst (dA D_X12_reckonRow 25 rfl) ?_
      refine x_goto (tgt := 56) (dA D_X12_reckonRow 26 rfl) (by decide) ?_
      refine x_istore (xs' := [vA 67, vA x1, vI x2, vI x3, vI x4, vI x5, vI (-1), vU]) (dA D_X12_reckonRow 34 rfl) (by decide) rfl ?_
      refine x_iconst (dA D_X12_reckonRow 35 rfl) ?_
      refine x_istore (xs' := [vA 67, vA x1, vI x2, vI x3, vI x4, vI x5, vI (-1), vI 0]) (dA D_X12_reckonRow 36 rfl) (by decide) rfl ?_
      exact h
set_option maxRecDepth 100000 in
theorem B_X12_reckonRow_61 {G : GG} {d : Nat} {k n : Nat} {x1 x2 x3 x4 x5 x6 x7 : Int} {M : MM} {Q : PV → MM → Prop} (hd : 2 ≤ d) (hS : Sh M) (h : inR x7 ∧ ((36 ≤ x7 → inR x5 ∧ ∀ v11, v11 = iAnd x4 (if x5 ≠ 0 then (iXor (iShl 1 x6) (-1)) else x4) → X G Y_X12_reckonRow d k n 34 [vA 67, vA x1, vI x2, vI x3, vI v11, vI (x5 + (-1)), vU, vU] [] M Q) ∧ (x7 < 36 → C G Y_X12_reckonState (d - 1) 0 0 [vA 67, vI 8, vI 0, vI x4, vI x6, vI (Int.tdiv x7 6), vI (Int.tmod x7 6)] M (rU (fun M12 => Sh M12 ∧ X G Y_X12_reckonRow d k n 61 [vA 67, vA x1, vI x2, vI x3, vI x4, vI x5, vI x6, vI (x7 + 1)] [] M12 Q))))) : X G Y_X12_reckonRow d k n 61 [vA 67, vA x1, vI x2, vI x3, vI x4, vI x5, vI x6, vI x7] [] M Q := by
  have hd1 : 1 ≤ d := by omega
  refine x_iload (dA D_X12_reckonRow 37 rfl) rfl ?_
  refine x_bipush (dA D_X12_reckonRow 38 rfl) (by decide) (by decide) ?_
  obtain ⟨h1, h⟩ := h
  refine x_icmp_geP (tgt := 95) (dA D_X12_reckonRow 39 rfl) (by decide) h1 ⟨by decide, by decide⟩ ⟨fun c => ?_, fun c => ?_⟩
  · have h := h.1 c
    refine x_iload (dA D_X12_reckonRow 54 rfl) rfl ?_
    refine x_iload (dA D_X12_reckonRow 55 rfl) rfl ?_
    obtain ⟨h3, h⟩ := h
    have hJ : X G Y_X12_reckonRow d k n 113 [vA 67, vA x1, vI x2, vI x3, vI x4, vI x5, vI x6, vI x7] [vI (if x5 ≠ 0 then (iXor (iShl 1 x6) (-1)) else x4), vI x4] M Q := by
      refine x_iand (dA D_X12_reckonRow 64 rfl) ?_
      refine x_nmI (fun v11 ev11 => ?_)
      have h := h v11 ev11
      refine x_istore (xs' := [vA 67, vA x1, vI x2, vI x3, vI v11, vI x5, vI x6, vI x7]) (dA D_X12_reckonRow 65 rfl) (by decide) rfl ?_
      refine x_iinc (xs' := [vA 67, vA x1, vI x2, vI x3, vI v11, vI (x5 + (-1)), vI x6, vI x7]) (dA D_X12_reckonRow 66 rfl) rfl (by decide) rfl ?_
      refine x_goto (tgt := 34) (dA D_X12_reckonRow 67 rfl) (by decide) ?_
      refine X.weak (xs' := [vA 67, vA x1, vI x2, vI x3, vI v11, vI (x5 + (-1)), vU, vU]) ⟨Or.inl rfl, Or.inl rfl, Or.inl rfl, Or.inl rfl, Or.inl rfl, Or.inl rfl, Or.inr rfl, Or.inr rfl, trivial⟩ ?_
      exact h
    refine x_if_neP (tgt := 107) (dA D_X12_reckonRow 56 rfl) (by decide) h3 ⟨fun c2 => ?_, fun c2 => ?_⟩
    · refine x_iconst (dA D_X12_reckonRow 59 rfl) ?_
      refine x_iload (dA D_X12_reckonRow 60 rfl) rfl ?_
      refine x_ishl (dA D_X12_reckonRow 61 rfl) ?_
      refine x_iconst (dA D_X12_reckonRow 62 rfl) ?_
      refine x_ixor (dA D_X12_reckonRow 63 rfl) ?_
      rw [if_pos c2] at hJ
      exact hJ
    · refine x_iload (dA D_X12_reckonRow 57 rfl) rfl ?_
      refine x_goto (tgt := 113) (dA D_X12_reckonRow 58 rfl) (by decide) ?_
      rw [if_neg (by first | omega | grind)] at hJ
      exact hJ
  · have h := h.2 c
    refine x_aload_n (dA D_X12_reckonRow 40 rfl) rfl ?_
    refine x_bipush (dA D_X12_reckonRow 41 rfl) (by decide) (by decide) ?_
    refine x_iconst (dA D_X12_reckonRow 42 rfl) ?_
    refine x_iload (dA D_X12_reckonRow 43 rfl) rfl ?_
    refine x_iload (dA D_X12_reckonRow 44 rfl) rfl ?_
    refine x_iload (dA D_X12_reckonRow 45 rfl) rfl ?_
    refine x_bipush (dA D_X12_reckonRow 46 rfl) (by decide) (by decide) ?_
    refine x_idiv (dA D_X12_reckonRow 47 rfl) h1 ⟨by decide, by decide⟩ (by decide) ?_
    refine x_iload (dA D_X12_reckonRow 48 rfl) rfl ?_
    refine x_bipush (dA D_X12_reckonRow 49 rfl) (by decide) (by decide) ?_
    refine x_irem (dA D_X12_reckonRow 50 rfl) h1 ⟨by decide, by decide⟩ (by decide) ?_
    refine x_callV 11 [vI 8, vI 0, vI x4, vI x6, vI (Int.tdiv x7 6), vI (Int.tmod x7 6)] [] (dA D_X12_reckonRow 51 rfl) cw_RX12_406 rfl rfl (Nat.le_of_ble_eq_true rfl) (by decide) rfl hd1 (zk k) (zk n) (sO_67 hS) h (kU (fun M12 h => ?_))
    obtain ⟨hM12, h⟩ := h
    refine x_iinc (xs' := [vA 67, vA x1, vI x2, vI x3, vI x4, vI x5, vI x6, vI (x7 + 1)]) (dA D_X12_reckonRow 52 rfl) rfl (by decide) rfl ?_
    refine x_goto (tgt := 61) (dA D_X12_reckonRow 53 rfl) (by decide) ?_
    exact h
