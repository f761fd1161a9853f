set_option maxRecDepth 100000 in
theorem B_X4_lawInForce_0 {G : GG} {d : Nat} {k n : Nat} {M : MM} {Q : PV → MM → Prop} (hd : 1 ≤ d) (hS : Sh M) (h : inR (rd M 1 10) ∧ inR (rd M 1 9) ∧ (((((rd M 1 10) < 0) ∨ ((rd M 1 9) ≤ (rd M 1 10))) → Q (vA (-1)) M) ∧ (¬ (((rd M 1 10) < 0) ∨ ((rd M 1 9) ≤ (rd M 1 10))) → 0 ≤ (rd M 1 10) ∧ (rd M 1 10) < 6 ∧ Q (vA (rd M 9 (rd M 1 10))) M))) : X G Y_X4_lawInForce d k n 0 [vA 1] [] M Q := by
  have hd1 : 1 ≤ d := by omega
  refine x_aload_n (dA D_X4_lawInForce 0 rfl) rfl ?_
  refine x_get (v := vI (rd M 1 10)) (dA D_X4_lawInForce 1 rfl) fw_RX4_46 (sO_1 hS) rfl ?_
  obtain ⟨h2, h⟩ := h
  obtain ⟨h8, h⟩ := h
  have hA : (((rd M 1 10) < 0) ∨ ((rd M 1 9) ≤ (rd M 1 10))) → X G Y_X4_lawInForce d k n 30 [vA 1] [] M Q := by
    intro c16
    have h := h.1 c16
    refine x_null (dA D_X4_lawInForce 14 rfl) ?_
    exact x_areturn (dA D_X4_lawInForce 15 rfl) rfl (by first | exact Or.inr ⟨_, rfl⟩ | exact Or.inl ⟨_, rfl⟩) h
  have hB : ¬ (((rd M 1 10) < 0) ∨ ((rd M 1 9) ≤ (rd M 1 10))) → X G Y_X4_lawInForce d k n 18 [vA 1] [] M Q := by
    intro c16
    have h := h.2 c16
    refine x_aload_n (dA D_X4_lawInForce 8 rfl) rfl ?_
    refine x_get (v := vA 9) (dA D_X4_lawInForce 9 rfl) fw_RX4_39 (sO_1 hS) (congrArg (rfV G) (sR_1_8 hS)) ?_
    refine x_aload_n (dA D_X4_lawInForce 10 rfl) rfl ?_
    refine x_get (v := vI (rd M 1 10)) (dA D_X4_lawInForce 11 rfl) fw_RX4_46 (sO_1 hS) rfl ?_
    obtain ⟨h14, h⟩ := h
    obtain ⟨h15, h⟩ := h
    refine x_aald 24 (by decide) (dA D_X4_lawInForce 12 rfl) (sA_9 hS h14 h15) ?_
    refine x_goto (tgt := 31) (dA D_X4_lawInForce 13 rfl) (by decide) ?_
    exact x_areturn (dA D_X4_lawInForce 15 rfl) rfl (by first | exact Or.inr ⟨_, rfl⟩ | exact Or.inl ⟨_, rfl⟩) h
  refine x_if_ltP (tgt := 30) (dA D_X4_lawInForce 2 rfl) (by decide) h2 ⟨fun c1 => ?_, fun c1 => ?_⟩
  · exact hA (by first | omega | grind)
  · refine x_aload_n (dA D_X4_lawInForce 3 rfl) rfl ?_
    refine x_get (v := vI (rd M 1 10)) (dA D_X4_lawInForce 4 rfl) fw_RX4_46 (sO_1 hS) rfl ?_
    refine x_aload_n (dA D_X4_lawInForce 5 rfl) rfl ?_
    refine x_get (v := vI (rd M 1 9)) (dA D_X4_lawInForce 6 rfl) fw_RX4_43 (sO_1 hS) rfl ?_
    refine x_icmp_geP (tgt := 30) (dA D_X4_lawInForce 7 rfl) (by decide) h2 h8 ⟨fun c7 => ?_, fun c7 => ?_⟩
    · exact hA (by first | omega | grind)
    · exact hB (by first | omega | grind)
theorem C_X4_lawInForce {G : GG} {d : Nat} {M : MM} {Q : PV → MM → Prop} (h : X G Y_X4_lawInForce d 0 0 0 [vA 1] [] M Q) : C G Y_X4_lawInForce d 0 0 [vA 1] M Q := X.entry (by decide) (Nat.le_of_ble_eq_true rfl) rfl rfl rfl h
set_option maxRecDepth 100000 in
theorem B_X12_reckonAll_0 {G : GG} {d : Nat} {k n : Nat} {x1 x2 : Int} {M : MM} {Q : PV → MM → Prop} (hd : 1 ≤ d) (hS : Sh M) (h : ∀ M1, M1 = wr M 67 29 0 → Sh M1 → X G Y_X12_reckonAll d k n 10 [vA 67, vI x1, vI x2, vI 0, vI x1, vU, vU] [] M1 Q) : X G Y_X12_reckonAll d k n 0 [vA 67, vI x1, vI x2, vU, vU, vU, vU] [] M Q := by
  have hd1 : 1 ≤ d := by omega
  refine x_aload_n (dA D_X12_reckonAll 0 rfl) rfl ?_
  refine x_iconst (dA D_X12_reckonAll 1 rfl) ?_
  refine x_put (x := 0) (dA D_X12_reckonAll 2 rfl) fw_RX12_316 (fun _ _ hc => by cases hc; exact Or.inl rfl) (sO_67 hS) rfl (z_nar (by decide)) (z_fit (by decide)) ?_
  refine x_nmM (fun M1 eM1 => ?_)
  have hM1 : Sh M1 := eM1 ▸ (sW_67_29 hS)
  have h := h M1 eM1 hM1
  refine x_iconst (dA D_X12_reckonAll 3 rfl) ?_
  refine x_istore_n (xs' := [vA 67, vI x1, vI x2, vI 0, vU, vU, vU]) (dA D_X12_reckonAll 4 rfl) (by decide) rfl ?_
  refine x_iload_n (dA D_X12_reckonAll 5 rfl) rfl ?_
  refine x_istore (xs' := [vA 67, vI x1, vI x2, vI 0, vI x1, vU, vU]) (dA D_X12_reckonAll 6 rfl) (by decide) rfl ?_
  exact h
theorem C_X12_reckonAll {G : GG} {d : Nat} {x1 x2 : Int} {M : MM} {Q : PV → MM → Prop} (h : X G Y_X12_reckonAll d 0 0 0 [vA 67, vI x1, vI x2, vU, vU, vU, vU] [] M Q) : C G Y_X12_reckonAll d 0 0 [vA 67, vI x1, vI x2] M Q := X.entry (by decide) (Nat.le_of_ble_eq_true rfl) rfl rfl rfl h
set_option maxRecDepth 100000 in
theorem B_X12_reckonAll_10 {G : GG} {d : Nat} {k n : Nat} {x1 x2 x3 x4 : Int} {M : MM} {Q : PV → MM → Prop} (hd : 2 ≤ d) (hS : Sh M) (h : inR x4 ∧ inR x2 ∧ inR (rd M 67 29) ∧ ((((x2 ≤ x4) ∨ ((rd M 67 29) ≠ 0)) → inR x3 ∧ ∀ M27, M27 = wr M 67 30 (if x3 ≤ 0 then 0 else (rd M 80 0)) → Sh M27 → Q vU M27) ∧ (¬ ((x2 ≤ x4) ∨ ((rd M 67 29) ≠ 0)) → 0 ≤ (((rd M 67 26) + 98) + (2 * x4)) ∧ (((rd M 67 26) + 98) + (2 * x4)) < 5460 ∧ ∀ v30, v30 = rd M 69 (((rd M 67 26) + 98) + (2 * x4)) → 0 ≤ ((((rd M 67 26) + 98) + (2 * x4)) + 1) ∧ ((((rd M 67 26) + 98) + (2 * x4)) + 1) < 5460 ∧ ∀ v33, v33 = rd M 69 ((((rd M 67 26) + 98) + (2 * x4)) + 1) → inR v30 ∧ ((20 ≤ v30 → ((27 ≤ v30 → ((v30 ≠ 27 → 0 ≤ (x3 - 1) ∧ (x3 - 1) < 400 ∧ inL (rd M 80 (x3 - 1)) ∧ inL (if v30 ≠ 28 then 1 else 0) ∧ (((rd M 80 (x3 - 1)) ≠ (if v30 ≠ 28 then 1 else 0) → X G Y_X12_reckonAll d k n 10 [vA 67, vI x1, vI x2, vI (x3 + (-1)), vI (x4 + 1), vU, vU] [] M Q) ∧ ((rd M 80 (x3 - 1)) = (if v30 ≠ 28 then 1 else 0) → X G Y_X12_reckonAll d k n 10 [vA 67, vI x1, vI x2, vI x3, vI v33, vU, vU] [] M Q))) ∧ (v30 = 27 → 0 ≤ (x3 - 1) ∧ (x3 - 1) < 400 ∧ ∀ M45, M45 = wr M 80 (x3 - 1) (1 - (rd M 80 (x3 - 1))) → Sh M45 → X G Y_X12_reckonAll d k n 10 [vA 67, vI x1, vI x2, vI x3, vI (x4 + 1), vU, vU] [] M45 Q))) ∧ (v30 < 27 → 0 ≤ ((x3 + (-1)) - 1) ∧ ((x3 + (-1)) - 1) < 400 ∧ 0 ≤ (x3 + (-1)) ∧ (x3 + (-1)) < 400 ∧ inL (rd M 80 ((x3 + (-1)) - 1)) ∧ inL (rd M 80 (x3 + (-1))) ∧ ∀ M52, M52 = rckM M v30 (rd M 80 (x3 + (-1))) → Sh M52 → ∀ M53, M53 = wr M52 80 ((x3 + (-1)) - 1) (rckV v30 (rd M 80 ((x3 + (-1)) - 1)) (rd M 80 (x3 + (-1)))) → Sh M53 → inR (rd M53 67 29) ∧ (((rd M53 67 29) ≠ 0 → ∀ M55, M55 = wr M53 67 29 1 → Sh M55 → X G Y_X12_reckonAll d k n 10 [vA 67, vI x1, vI x2, vI (x3 + (-1)), vI (x4 + 1), vU, vU] [] M55 Q) ∧ ((rd M53 67 29) = 0 → inL (rd M53 80 ((x3 + (-1)) - 1)) ∧ ∀ M61, M61 = wr M53 67 29 (if ¬ (((-1000000000 : Int) ≤ (rd M53 80 ((x3 + (-1)) - 1))) ∧ ((rd M53 80 ((x3 + (-1)) - 1)) ≤ (1000000000 : Int))) then 1 else 0) → Sh M61 → X G Y_X12_reckonAll d k n 10 [vA 67, vI x1, vI x2, vI (x3 + (-1)), vI (x4 + 1), vU, vU] [] M61 Q))))) ∧ (v30 < 20 → ((v30 ≠ 0 → 0 ≤ v30 ∧ v30 < 13 ∧ 0 ≤ x3 ∧ x3 < 400 ∧ ∀ M66, M66 = wr M 80 x3 (rd M 79 v30) → Sh M66 → X G Y_X12_reckonAll d k n 10 [vA 67, vI x1, vI x2, vI (x3 + 1), vI (x4 + 1), vU, vU] [] M66 Q) ∧ (v30 = 0 → inR v33 ∧ 0 ≤ x3 ∧ x3 < 400 ∧ ∀ M70, M70 = wr M 80 x3 v33 → Sh M70 → X G Y_X12_reckonAll d k n 10 [vA 67, vI x1, vI x2, vI (x3 + 1), vI (x4 + 1), vU, vU] [] M70 Q))))))) : X G Y_X12_reckonAll d k n 10 [vA 67, vI x1, vI x2, vI x3, vI x4, vU, vU] [] M Q := by
  have hd1 : 1 ≤ d := by omega
  refine x_iload (dA D_X12_reckonAll 7 rfl) rfl ?_
  refine x_iload_n (dA D_X12_reckonAll 8 rfl) rfl ?_
  obtain ⟨h2, h⟩ := h
  obtain ⟨h3, h⟩ := h
  obtain ⟨h7, h⟩ := h
  have hA : ((x2 ≤ x4) ∨ ((rd M 67 29) ≠ 0)) → X G Y_X12_reckonAll d k n 245 [vA 67, vI x1, vI x2, vI x3, vI x4, vU, vU] [] M Q := by
    intro c71
    have h := h.1 c71
    refine x_aload_n (dA D_X12_reckonAll 137 rfl) rfl ?_
    refine x_iload_n (dA D_X12_reckonAll 138 rfl) rfl ?_
    obtain ⟨h20, h⟩ := h
    have hJ : X G Y_X12_reckonAll d k n 260 [vA 67, vI x1, vI x2, vI x3, vI x4, vU, vU] [vL (if x3 ≤ 0 then 0 else (rd M 80 0)), vA 67] M Q := by
      refine x_put (x := if x3 ≤ 0 then 0 else (rd M 80 0)) (dA D_X12_reckonAll 146 rfl) fw_RX12_330 (fun _ _ hc => by cases hc; exact Or.inl rfl) (sO_67 hS) rfl rfl rfl ?_
      refine x_nmM (fun M27 eM27 => ?_)
      have hM27 : Sh M27 := eM27 ▸ (sW_67_30 hS)
      have h := h M27 eM27 hM27
      exact x_return (dA D_X12_reckonAll 147 rfl) rfl h
    refine x_if_leP (tgt := 259) (dA D_X12_reckonAll 139 rfl) (by decide) h20 ⟨fun c19 => ?_, fun c19 => ?_⟩
    · refine x_lconst (a := 0) (dA D_X12_reckonAll 145 rfl) (by decide) ?_
      rw [if_pos c19] at hJ
      exact hJ
    · refine x_aload_n (dA D_X12_reckonAll 140 rfl) rfl ?_
      refine x_get (v := vA 80) (dA D_X12_reckonAll 141 rfl) fw_RX12_66 (sO_67 hS) (congrArg (rfV G) (sR_67_28 hS)) ?_
      refine x_iconst (dA D_X12_reckonAll 142 rfl) ?_
      refine x_lald (dA D_X12_reckonAll 143 rfl) (sA_80 hS (by decide) (by decide)) ?_
      refine x_goto (tgt := 260) (dA D_X12_reckonAll 144 rfl) (by decide) ?_
      rw [if_neg (by first | omega | grind)] at hJ
      exact hJ
  have hB : ¬ ((x2 ≤ x4) ∨ ((rd M 67 29) ≠ 0)) → X G Y_X12_reckonAll d k n 23 [vA 67, vI x1, vI x2, vI x3, vI x4, vU, vU] [] M Q := by
    intro c71
    have h := h.2 c71
    refine x_aload_n (dA D_X12_reckonAll 13 rfl) rfl ?_
    refine x_get (v := vA 69) (dA D_X12_reckonAll 14 rfl) fw_RX12_13 (sO_67 hS) (congrArg (rfV G) (sR_67_3 hS)) ?_
    refine x_aload_n (dA D_X12_reckonAll 15 rfl) rfl ?_
    refine x_get (v := vI (rd M 67 26)) (dA D_X12_reckonAll 16 rfl) fw_RX12_319 (sO_67 hS) rfl ?_
    refine x_bipush (dA D_X12_reckonAll 17 rfl) (by decide) (by decide) ?_
    refine x_iadd (dA D_X12_reckonAll 18 rfl) ?_
    refine x_iconst (dA D_X12_reckonAll 19 rfl) ?_
    refine x_iload (dA D_X12_reckonAll 20 rfl) rfl ?_
    refine x_imul (dA D_X12_reckonAll 21 rfl) ?_
    refine x_iadd (dA D_X12_reckonAll 22 rfl) ?_
    obtain ⟨h28, h⟩ := h
    obtain ⟨h29, h⟩ := h
    refine x_iald (dA D_X12_reckonAll 23 rfl) (sA_69 hS h28 h29) ?_
    refine x_nmI (fun v30 ev30 => ?_)
    have h := h v30 ev30
    refine x_istore (xs' := [vA 67, vI x1, vI x2, vI x3, vI x4, vI v30, vU]) (dA D_X12_reckonAll 24 rfl) (by decide) rfl ?_
    refine x_aload_n (dA D_X12_reckonAll 25 rfl) rfl ?_
    refine x_get (v := vA 69) (dA D_X12_reckonAll 26 rfl) fw_RX12_13 (sO_67 hS) (congrArg (rfV G) (sR_67_3 hS)) ?_
    refine x_aload_n (dA D_X12_reckonAll 27 rfl) rfl ?_
    refine x_get (v := vI (rd M 67 26)) (dA D_X12_reckonAll 28 rfl) fw_RX12_319 (sO_67 hS) rfl ?_
    refine x_bipush (dA D_X12_reckonAll 29 rfl) (by decide) (by decide) ?_
    refine x_iadd (dA D_X12_reckonAll 30 rfl) ?_
    refine x_iconst (dA D_X12_reckonAll 31 rfl) ?_
    refine x_iload (dA D_X12_reckonAll 32 rfl) rfl ?_
    refine x_imul (dA D_X12_reckonAll 33 rfl) ?_
    refine x_iadd (dA D_X12_reckonAll 34 rfl) ?_
    refine x_iconst (dA D_X12_reckonAll 35 rfl) ?_
    refine x_iadd (dA D_X12_reckonAll 36 rfl) ?_
    obtain ⟨h31, h⟩ := h
    obtain ⟨h32, h⟩ := h
    refine x_iald (dA D_X12_reckonAll 37 rfl) (sA_69 hS h31 h32) ?_
    refine x_nmI (fun v33 ev33 => ?_)
    have h := h v33 ev33
    refine x_istore (xs' := [vA 67, vI x1, vI x2, vI x3, vI x4, vI v30, vI v33]) (dA D_X12_reckonAll 38 rfl) (by decide) rfl ?_
    refine x_iinc (xs' := [vA 67, vI x1, vI x2, vI x3, vI (x4 + 1), vI v30, vI v33]) (dA D_X12_reckonAll 39 rfl) rfl (by decide) rfl ?_
    refine x_iload (dA D_X12_reckonAll 40 rfl) rfl ?_
    refine x_bipush (dA D_X12_reckonAll 41 rfl) (by decide) (by decide) ?_
    obtain ⟨h34, h⟩ := h
    refine x_icmp_geP (tgt := 103) (dA D_X12_reckonAll 42 rfl) (by decide) h34 ⟨by decide, by decide⟩ ⟨fun c => ?_, fun c => ?_⟩
    · have h := h.1 c
      refine x_iload (dA D_X12_reckonAll 58 rfl) rfl ?_
      refine x_bipush (dA D_X12_reckonAll 59 rfl) (by decide) (by decide) ?_
      refine x_icmp_geP (tgt := 180) (dA D_X12_reckonAll 60 rfl) (by decide) h34 ⟨by decide, by decide⟩ ⟨fun c => ?_, fun c => ?_⟩
      · have h := h.1 c
        refine x_iload (dA D_X12_reckonAll 100 rfl) rfl ?_
        refine x_bipush (dA D_X12_reckonAll 101 rfl) (by decide) (by decide) ?_
        refine x_icmp_neP (tgt := 208) (dA D_X12_reckonAll 102 rfl) (by decide) h34 ⟨by decide, by decide⟩ ⟨fun c => ?_, fun c => ?_⟩
        · have h := h.1 c
          refine x_aload_n (dA D_X12_reckonAll 118 rfl) rfl ?_
          refine x_get (v := vA 80) (dA D_X12_reckonAll 119 rfl) fw_RX12_66 (sO_67 hS) (congrArg (rfV G) (sR_67_28 hS)) ?_
          refine x_iload_n (dA D_X12_reckonAll 120 rfl) rfl ?_
          refine x_iconst (dA D_X12_reckonAll 121 rfl) ?_
          refine x_isub (dA D_X12_reckonAll 122 rfl) ?_
          obtain ⟨h35, h⟩ := h
          obtain ⟨h36, h⟩ := h
          refine x_lald (dA D_X12_reckonAll 123 rfl) (sA_80 hS h35 h36) ?_
          refine x_iload (dA D_X12_reckonAll 124 rfl) rfl ?_
          refine x_bipush (dA D_X12_reckonAll 125 rfl) (by decide) (by decide) ?_
          have hJ : X G Y_X12_reckonAll d k n 228 [vA 67, vI x1, vI x2, vI x3, vI (x4 + 1), vI v30, vI v33] [vL (if v30 ≠ 28 then 1 else 0), vL (rd M 80 (x3 - 1))] M Q := by
            obtain ⟨h41, h⟩ := h
            obtain ⟨h42, h⟩ := h
            refine x_lcmp_neP (tgt := 239) (dA D_X12_reckonAll 130 rfl) (dA D_X12_reckonAll 131 rfl) (by decide) h41 h42 ⟨fun c => ?_, fun c => ?_⟩
            · have h := h.1 c
              refine x_iinc (xs' := [vA 67, vI x1, vI x2, vI (x3 + (-1)), vI (x4 + 1), vI v30, vI v33]) (dA D_X12_reckonAll 135 rfl) rfl (by decide) rfl ?_
              refine x_goto (tgt := 10) (dA D_X12_reckonAll 136 rfl) (by decide) ?_
              refine X.weak (xs' := [vA 67, vI x1, vI x2, vI (x3 + (-1)), vI (x4 + 1), vU, vU]) ⟨Or.inl rfl, Or.inl rfl, Or.inl rfl, Or.inl rfl, Or.inl rfl, Or.inr rfl, Or.inr rfl, trivial⟩ ?_
              exact h
            · have h := h.2 c
              refine x_iload (dA D_X12_reckonAll 132 rfl) rfl ?_
              refine x_istore (xs' := [vA 67, vI x1, vI x2, vI x3, vI v33, vI v30, vI v33]) (dA D_X12_reckonAll 133 rfl) (by decide) rfl ?_
              refine x_goto (tgt := 242) (dA D_X12_reckonAll 134 rfl) (by decide) ?_
              refine x_goto (tgt := 10) (dA D_X12_reckonAll 136 rfl) (by decide) ?_
              refine X.weak (xs' := [vA 67, vI x1, vI x2, vI x3, vI v33, vU, vU]) ⟨Or.inl rfl, Or.inl rfl, Or.inl rfl, Or.inl rfl, Or.inl rfl, Or.inr rfl, Or.inr rfl, trivial⟩ ?_
              exact h
          refine x_icmp_neP (tgt := 227) (dA D_X12_reckonAll 126 rfl) (by decide) h34 ⟨by decide, by decide⟩ ⟨fun c37 => ?_, fun c37 => ?_⟩
          · refine x_lconst (a := 1) (dA D_X12_reckonAll 129 rfl) (by decide) ?_
            rw [if_pos c37] at hJ
            exact hJ
          · refine x_lconst (a := 0) (dA D_X12_reckonAll 127 rfl) (by decide) ?_
            refine x_goto (tgt := 228) (dA D_X12_reckonAll 128 rfl) (by decide) ?_
            rw [if_neg (by first | omega | grind)] at hJ
            exact hJ
        · have h := h.2 c
          refine x_aload_n (dA D_X12_reckonAll 103 rfl) rfl ?_
          refine x_get (v := vA 80) (dA D_X12_reckonAll 104 rfl) fw_RX12_66 (sO_67 hS) (congrArg (rfV G) (sR_67_28 hS)) ?_
          refine x_iload_n (dA D_X12_reckonAll 105 rfl) rfl ?_
          refine x_iconst (dA D_X12_reckonAll 106 rfl) ?_
          refine x_isub (dA D_X12_reckonAll 107 rfl) ?_
          refine x_lconst (a := 1) (dA D_X12_reckonAll 108 rfl) (by decide) ?_
          refine x_aload_n (dA D_X12_reckonAll 109 rfl) rfl ?_
          refine x_get (v := vA 80) (dA D_X12_reckonAll 110 rfl) fw_RX12_66 (sO_67 hS) (congrArg (rfV G) (sR_67_28 hS)) ?_
          refine x_iload_n (dA D_X12_reckonAll 111 rfl) rfl ?_
          refine x_iconst (dA D_X12_reckonAll 112 rfl) ?_
          refine x_isub (dA D_X12_reckonAll 113 rfl) ?_
          obtain ⟨h43, h⟩ := h
          obtain ⟨h44, h⟩ := h
          refine x_lald (dA D_X12_reckonAll 114 rfl) (sA_80 hS h43 h44) ?_
          refine x_lsub (dA D_X12_reckonAll 115 rfl) ?_
          refine x_last (dA D_X12_reckonAll 116 rfl) (sA_80 hS h43 h44) ?_
          refine x_nmM (fun M45 eM45 => ?_)
          have hM45 : Sh M45 := eM45 ▸ (sW_80 hS)
          have h := h M45 eM45 hM45
          refine x_goto (tgt := 242) (dA D_X12_reckonAll 117 rfl) (by decide) ?_
          refine x_goto (tgt := 10) (dA D_X12_reckonAll 136 rfl) (by decide) ?_
          refine X.weak (xs' := [vA 67, vI x1, vI x2, vI x3, vI (x4 + 1), vU, vU]) ⟨Or.inl rfl, Or.inl rfl, Or.inl rfl, Or.inl rfl, Or.inl rfl, Or.inr rfl, Or.inr rfl, trivial⟩ ?_
          exact h
      · have h := h.2 c
        refine x_iinc (xs' := [vA 67, vI x1, vI x2, vI (x3 + (-1)), vI (x4 + 1), vI v30, vI v33]) (dA D_X12_reckonAll 61 rfl) rfl (by decide) rfl ?_
        refine x_aload_n (dA D_X12_reckonAll 62 rfl) rfl ?_
        refine x_get (v := vA 80) (dA D_X12_reckonAll 63 rfl) fw_RX12_66 (sO_67 hS) (congrArg (rfV G) (sR_67_28 hS)) ?_
        refine x_iload_n (dA D_X12_reckonAll 64 rfl) rfl ?_
        refine x_iconst (dA D_X12_reckonAll 65 rfl) ?_
        refine x_isub (dA D_X12_reckonAll 66 rfl) ?_
        refine x_aload_n (dA D_X12_reckonAll 67 rfl) rfl ?_
        refine x_iload (dA D_X12_reckonAll 68 rfl) rfl ?_
        refine x_aload_n (dA D_X12_reckonAll 69 rfl) rfl ?_
        refine x_get (v := vA 80) (dA D_X12_reckonAll 70 rfl) fw_RX12_66 (sO_67 hS) (congrArg (rfV G) (sR_67_28 hS)) ?_
        refine x_iload_n (dA D_X12_reckonAll 71 rfl) rfl ?_
        refine x_iconst (dA D_X12_reckonAll 72 rfl) ?_
        refine x_isub (dA D_X12_reckonAll 73 rfl) ?_
        obtain ⟨h46, h⟩ := h
        obtain ⟨h47, h⟩ := h
        refine x_lald (dA D_X12_reckonAll 74 rfl) (sA_80 hS h46 h47) ?_
        refine x_aload_n (dA D_X12_reckonAll 75 rfl) rfl ?_
        refine x_get (v := vA 80) (dA D_X12_reckonAll 76 rfl) fw_RX12_66 (sO_67 hS) (congrArg (rfV G) (sR_67_28 hS)) ?_
        refine x_iload_n (dA D_X12_reckonAll 77 rfl) rfl ?_
        obtain ⟨h48, h⟩ := h
        obtain ⟨h49, h⟩ := h
        refine x_lald (dA D_X12_reckonAll 78 rfl) (sA_80 hS h48 h49) ?_
        obtain ⟨h50, h⟩ := h
        obtain ⟨h51, h⟩ := h
        refine x_callV 11 [vI v30, vL (rd M 80 ((x3 + (-1)) - 1)), vL (rd M 80 (x3 + (-1)))] [vI ((x3 + (-1)) - 1), vA 80] (dA D_X12_reckonAll 79 rfl) cw_RX12_322 rfl rfl (Nat.le_of_ble_eq_true rfl) (by decide) rfl hd1 (zk k) (zk n) (sO_67 hS) (S_X12_reckon hS h34 h50 h51 (by omega) ?_) (kL' (fun _ _ h => h))
        refine x_nmM (fun M52 eM52 => ?_)
        have hM52 : Sh M52 := eM52 ▸ (sRck hS)
        have h := h M52 eM52 hM52
        show X G Y_X12_reckonAll d k n 140 [vA 67, vI x1, vI x2, vI (x3 + (-1)), vI (x4 + 1), vI v30, vI v33] [vL (rckV v30 (rd M 80 ((x3 + (-1)) - 1)) (rd M 80 (x3 + (-1)))), vI ((x3 + (-1)) - 1), vA 80] M52 Q
        refine x_last (dA D_X12_reckonAll 80 rfl) (sA_80 hM52 h46 h47) ?_
        refine x_nmM (fun M53 eM53 => ?_)
        have hM53 : Sh M53 := eM53 ▸ (sW_80 hM52)
        have h := h M53 eM53 hM53
        refine x_aload_n (dA D_X12_reckonAll 81 rfl) rfl ?_
        refine x_aload_n (dA D_X12_reckonAll 82 rfl) rfl ?_
        refine x_get (v := vI (rd M53 67 29)) (dA D_X12_reckonAll 83 rfl) fw_RX12_316 (sO_67 hM53) rfl ?_
        obtain ⟨h54, h⟩ := h
        refine x_if_neP (tgt := 169) (dA D_X12_reckonAll 84 rfl) (by decide) h54 ⟨fun c => ?_, fun c => ?_⟩
        · have h := h.1 c
          refine x_iconst (dA D_X12_reckonAll 95 rfl) ?_
          refine x_goto (tgt := 174) (dA D_X12_reckonAll 96 rfl) (by decide) ?_
          refine x_put (x := 1) (dA D_X12_reckonAll 98 rfl) fw_RX12_316 (fun _ _ hc => by cases hc; exact Or.inl rfl) (sO_67 hM53) rfl (z_nar (by decide)) (z_fit (by decide)) ?_
          refine x_nmM (fun M55 eM55 => ?_)
          have hM55 : Sh M55 := eM55 ▸ (sW_67_29 hM53)
          have h := h M55 eM55 hM55
          refine x_goto (tgt := 242) (dA D_X12_reckonAll 99 rfl) (by decide) ?_
          refine x_goto (tgt := 10) (dA D_X12_reckonAll 136 rfl) (by decide) ?_
          refine X.weak (xs' := [vA 67, vI x1, vI x2, vI (x3 + (-1)), vI (x4 + 1), vU, vU]) ⟨Or.inl rfl, Or.inl rfl, Or.inl rfl, Or.inl rfl, Or.inl rfl, Or.inr rfl, Or.inr rfl, trivial⟩ ?_
          exact h
        · have h := h.2 c
          refine x_aload_n (dA D_X12_reckonAll 85 rfl) rfl ?_
          refine x_get (v := vA 80) (dA D_X12_reckonAll 86 rfl) fw_RX12_66 (sO_67 hM53) (congrArg (rfV G) (sR_67_28 hM53)) ?_
          refine x_iload_n (dA D_X12_reckonAll 87 rfl) rfl ?_
          refine x_iconst (dA D_X12_reckonAll 88 rfl) ?_
          refine x_isub (dA D_X12_reckonAll 89 rfl) ?_
          refine x_lald (dA D_X12_reckonAll 90 rfl) (sA_80 hM53 h46 h47) ?_
          refine x_ldc2 (a := (-1000000000)) (dA D_X12_reckonAll 91 rfl) kl_RX12_326 (by decide) ?_
          refine x_ldc2 (a := 1000000000) (dA D_X12_reckonAll 92 rfl) kl_RX12_328 (by decide) ?_
          obtain ⟨h56, h⟩ := h
          refine x_callS [vL (rd M53 80 ((x3 + (-1)) - 1)), vL (-1000000000), vL 1000000000] [vA 67] (dA D_X12_reckonAll 93 rfl) cw_RX12_125 rfl rfl (Nat.le_of_ble_eq_true rfl) hd1 (zk k) (zk n) (S_X12_in h56 ⟨by decide, by decide⟩ ⟨by decide, by decide⟩ (by omega) ?_) (kI (fun _ _ h => h))
          show X G Y_X12_reckonAll d k n 166 [vA 67, vI x1, vI x2, vI (x3 + (-1)), vI (x4 + 1), vI v30, vI v33] [vI (if ((-1000000000 : Int) ≤ (rd M53 80 ((x3 + (-1)) - 1))) ∧ ((rd M53 80 ((x3 + (-1)) - 1)) ≤ (1000000000 : Int)) then 1 else 0), vA 67] M53 Q
          have hJ : X G Y_X12_reckonAll d k n 174 [vA 67, vI x1, vI x2, vI (x3 + (-1)), vI (x4 + 1), vI v30, vI v33] [vI (if ¬ (((-1000000000 : Int) ≤ (rd M53 80 ((x3 + (-1)) - 1))) ∧ ((rd M53 80 ((x3 + (-1)) - 1)) ≤ (1000000000 : Int))) then 1 else 0), vA 67] M53 Q := by
            refine x_put (x := if ¬ (((-1000000000 : Int) ≤ (rd M53 80 ((x3 + (-1)) - 1))) ∧ ((rd M53 80 ((x3 + (-1)) - 1)) ≤ (1000000000 : Int))) then 1 else 0) (dA D_X12_reckonAll 98 rfl) fw_RX12_316 (fun _ _ hc => by cases hc; exact Or.inl rfl) (sO_67 hM53) rfl (z_nar (by split <;> decide)) (z_fit (by split <;> decide)) ?_
            refine x_nmM (fun M61 eM61 => ?_)
            have hM61 : Sh M61 := eM61 ▸ (sW_67_29 hM53)
            have h := h M61 eM61 hM61
            refine x_goto (tgt := 242) (dA D_X12_reckonAll 99 rfl) (by decide) ?_
            refine x_goto (tgt := 10) (dA D_X12_reckonAll 136 rfl) (by decide) ?_
            refine X.weak (xs' := [vA 67, vI x1, vI x2, vI (x3 + (-1)), vI (x4 + 1), vU, vU]) ⟨Or.inl rfl, Or.inl rfl, Or.inl rfl, Or.inl rfl, Or.inl rfl, Or.inr rfl, Or.inr rfl, trivial⟩ ?_
            exact h
          refine x_if_neB (tgt := 173) (dA D_X12_reckonAll 94 rfl) (by decide) ⟨fun c57 => ?_, fun c57 => ?_⟩
          · refine x_iconst (dA D_X12_reckonAll 97 rfl) ?_
            have e0 : (if ¬ (((-1000000000 : Int) ≤ (rd M53 80 ((x3 + (-1)) - 1))) ∧ ((rd M53 80 ((x3 + (-1)) - 1)) ≤ (1000000000 : Int))) then (1 : Int) else 0) = 0 := if_neg (by first | omega | grind)
            rw [e0] at hJ
            exact hJ
          · refine x_iconst (dA D_X12_reckonAll 95 rfl) ?_
            refine x_goto (tgt := 174) (dA D_X12_reckonAll 96 rfl) (by decide) ?_
            have e0 : (if ¬ (((-1000000000 : Int) ≤ (rd M53 80 ((x3 + (-1)) - 1))) ∧ ((rd M53 80 ((x3 + (-1)) - 1)) ≤ (1000000000 : Int))) then (1 : Int) else 0) = 1 := if_pos (by first | omega | grind)
            rw [e0] at hJ
            exact hJ
    · have h := h.2 c
      refine x_aload_n (dA D_X12_reckonAll 43 rfl) rfl ?_
      refine x_get (v := vA 80) (dA D_X12_reckonAll 44 rfl) fw_RX12_66 (sO_67 hS) (congrArg (rfV G) (sR_67_28 hS)) ?_
      refine x_iload_n (dA D_X12_reckonAll 45 rfl) rfl ?_
      refine x_iload (dA D_X12_reckonAll 46 rfl) rfl ?_
      refine x_if_neP (tgt := 89) (dA D_X12_reckonAll 47 rfl) (by decide) h34 ⟨fun c => ?_, fun c => ?_⟩
      · have h := h.1 c
        refine x_aload_n (dA D_X12_reckonAll 51 rfl) rfl ?_
        refine x_get (v := vA 79) (dA D_X12_reckonAll 52 rfl) fw_RX12_63 (sO_67 hS) (congrArg (rfV G) (sR_67_27 hS)) ?_
        refine x_iload (dA D_X12_reckonAll 53 rfl) rfl ?_
        obtain ⟨h62, h⟩ := h
        obtain ⟨h63, h⟩ := h
        refine x_lald (dA D_X12_reckonAll 54 rfl) (sA_79 hS h62 h63) ?_
        obtain ⟨h64, h⟩ := h
        obtain ⟨h65, h⟩ := h
        refine x_last (dA D_X12_reckonAll 55 rfl) (sA_80 hS h64 h65) ?_
        refine x_nmM (fun M66 eM66 => ?_)
        have hM66 : Sh M66 := eM66 ▸ (sW_80 hS)
        have h := h M66 eM66 hM66
        refine x_iinc (xs' := [vA 67, vI x1, vI x2, vI (x3 + 1), vI (x4 + 1), vI v30, vI v33]) (dA D_X12_reckonAll 56 rfl) rfl (by decide) rfl ?_
        refine x_goto (tgt := 242) (dA D_X12_reckonAll 57 rfl) (by decide) ?_
        refine x_goto (tgt := 10) (dA D_X12_reckonAll 136 rfl) (by decide) ?_
        refine X.weak (xs' := [vA 67, vI x1, vI x2, vI (x3 + 1), vI (x4 + 1), vU, vU]) ⟨Or.inl rfl, Or.inl rfl, Or.inl rfl, Or.inl rfl, Or.inl rfl, Or.inr rfl, Or.inr rfl, trivial⟩ ?_
        exact h
      · have h := h.2 c
        refine x_iload (dA D_X12_reckonAll 48 rfl) rfl ?_
        obtain ⟨h67, h⟩ := h
        refine x_i2l (dA D_X12_reckonAll 49 rfl) h67 ?_
        refine x_goto (tgt := 96) (dA D_X12_reckonAll 50 rfl) (by decide) ?_
        obtain ⟨h68, h⟩ := h
        obtain ⟨h69, h⟩ := h
        refine x_last (dA D_X12_reckonAll 55 rfl) (sA_80 hS h68 h69) ?_
        refine x_nmM (fun M70 eM70 => ?_)
        have hM70 : Sh M70 := eM70 ▸ (sW_80 hS)
        have h := h M70 eM70 hM70
        refine x_iinc (xs' := [vA 67, vI x1, vI x2, vI (x3 + 1), vI (x4 + 1), vI v30, vI v33]) (dA D_X12_reckonAll 56 rfl) rfl (by decide) rfl ?_
        refine x_goto (tgt := 242) (dA D_X12_reckonAll 57 rfl) (by decide) ?_
        refine x_goto (tgt := 10) (dA D_X12_reckonAll 136 rfl) (by decide) ?_
        refine X.weak (xs' := [vA 67, vI x1, vI x2, vI (x3 + 1), vI (x4 + 1), vU, vU]) ⟨Or.inl rfl, Or.inl rfl, Or.inl rfl, Or.inl rfl, Or.inl rfl, Or.inr rfl, Or.inr rfl, trivial⟩ ?_
        exact h
  refine x_icmp_geP (tgt := 245) (dA D_X12_reckonAll 9 rfl) (by decide) h2 h3 ⟨fun c1 => ?_, fun c1 => ?_⟩
  · exact hA (by first | omega | grind)
  · refine x_aload_n (dA D_X12_reckonAll 10 rfl) rfl ?_
    refine x_get (v := vI (rd M 67 29)) (dA D_X12_reckonAll 11 rfl) fw_RX12_316 (sO_67 hS) rfl ?_
    refine x_if_neP (tgt := 245) (dA D_X12_reckonAll 12 rfl) (by decide) h7 ⟨fun c6 => ?_, fun c6 => ?_⟩
    · exact hA (by first | omega | grind)
    · exact hB (by first | omega | grind)
set_option maxRecDepth 100000 in
theorem B_X12_isSo_0 {G : GG} {d : Nat} {k n : Nat} {x1 : Int} {M : MM} {Q : PV → MM → Prop} (hd : 2 ≤ d) (hS : Sh M) (h : 0 ≤ (x1 + 5) ∧ (x1 + 5) < 5460 ∧ 0 ≤ (x1 + 6) ∧ (x1 + 6) < 5460 ∧ inR (rd M 69 (x1 + 5)) ∧ inR (rd M 69 (x1 + 6)) ∧ (((rd M 69 (x1 + 6)) ≤ (rd M 69 (x1 + 5)) → X G Y_X12_isSo d k n 59 [vA 67, vI x1] [] M Q) ∧ ((rd M 69 (x1 + 5)) < (rd M 69 (x1 + 6)) → C G Y_X12_reckonAll (d - 1) 0 0 [vA 67, vI (rd M 69 (x1 + 5)), vI (rd M 69 (x1 + 6))] M (rU (fun M7 => Sh M7 ∧ inR (rd M7 67 29) ∧ inL (rd M7 67 30) ∧ (((((rd M7 67 29) ≠ 0) ∨ ((rd M7 67 30) = 0)) → Q (vI 0) M7) ∧ (¬ (((rd M7 67 29) ≠ 0) ∨ ((rd M7 67 30) = 0)) → X G Y_X12_isSo d k n 59 [vA 67, vI x1] [] M7 Q))))))) : X G Y_X12_isSo d k n 0 [vA 67, vI x1] [] M Q := by
  have hd1 : 1 ≤ d := by omega
  refine x_aload_n (dA D_X12_isSo 0 rfl) rfl ?_
  refine x_get (v := vA 69) (dA D_X12_isSo 1 rfl) fw_RX12_13 (sO_67 hS) (congrArg (rfV G) (sR_67_3 hS)) ?_
  refine x_iload_n (dA D_X12_isSo 2 rfl) rfl ?_
  refine x_iconst (dA D_X12_isSo 3 rfl) ?_
  refine x_iadd (dA D_X12_isSo 4 rfl) ?_
  obtain ⟨h1, h⟩ := h
  obtain ⟨h2, h⟩ := h
  refine x_iald (dA D_X12_isSo 5 rfl) (sA_69 hS h1 h2) ?_
  refine x_aload_n (dA D_X12_isSo 6 rfl) rfl ?_
  refine x_get (v := vA 69) (dA D_X12_isSo 7 rfl) fw_RX12_13 (sO_67 hS) (congrArg (rfV G) (sR_67_3 hS)) ?_
  refine x_iload_n (dA D_X12_isSo 8 rfl) rfl ?_
  refine x_bipush (dA D_X12_isSo 9 rfl) (by decide) (by decide) ?_
  refine x_iadd (dA D_X12_isSo 10 rfl) ?_
  obtain ⟨h3, h⟩ := h
  obtain ⟨h4, h⟩ := h
  refine x_iald (dA D_X12_isSo 11 rfl) (sA_69 hS h3 h4) ?_
  obtain ⟨h5, h⟩ := h
  obtain ⟨h6, h⟩ := h
  refine x_icmp_geP (tgt := 59) (dA D_X12_isSo 12 rfl) (by decide) h5 h6 ⟨fun c => ?_, fun c => ?_⟩
  · have h := h.1 c
    exact h
  · have h := h.2 c
    refine x_aload_n (dA D_X12_isSo 13 rfl) rfl ?_
    refine x_aload_n (dA D_X12_isSo 14 rfl) rfl ?_
    refine x_get (v := vA 69) (dA D_X12_isSo 15 rfl) fw_RX12_13 (sO_67 hS) (congrArg (rfV G) (sR_67_3 hS)) ?_
    refine x_iload_n (dA D_X12_isSo 16 rfl) rfl ?_
    refine x_iconst (dA D_X12_isSo 17 rfl) ?_
    refine x_iadd (dA D_X12_isSo 18 rfl) ?_
    refine x_iald (dA D_X12_isSo 19 rfl) (sA_69 hS h1 h2) ?_
    refine x_aload_n (dA D_X12_isSo 20 rfl) rfl ?_
    refine x_get (v := vA 69) (dA D_X12_isSo 21 rfl) fw_RX12_13 (sO_67 hS) (congrArg (rfV G) (sR_67_3 hS)) ?_
    refine x_iload_n (dA D_X12_isSo 22 rfl) rfl ?_
    refine x_bipush (dA D_X12_isSo 23 rfl) (by decide) (by decide) ?_
    refine x_iadd (dA D_X12_isSo 24 rfl) ?_
    refine x_iald (dA D_X12_isSo 25 rfl) (sA_69 hS h3 h4) ?_
    refine x_callV 11 [vI (rd M 69 (x1 + 5)), vI (rd M 69 (x1 + 6))] [] (dA D_X12_isSo 26 rfl) cw_RX12_333 rfl rfl (Nat.le_of_ble_eq_true rfl) (by decide) rfl hd1 (zk k) (zk n) (sO_67 hS) h (kU (fun M7 h => ?_))
    obtain ⟨hM7, h⟩ := h
    refine x_aload_n (dA D_X12_isSo 27 rfl) rfl ?_
    refine x_get (v := vI (rd M7 67 29)) (dA D_X12_isSo 28 rfl) fw_RX12_316 (sO_67 hM7) rfl ?_
    obtain ⟨h9, h⟩ := h
    obtain ⟨h14, h⟩ := h
    have hA : (((rd M7 67 29) ≠ 0) ∨ ((rd M7 67 30) = 0)) → X G Y_X12_isSo d k n 57 [vA 67, vI x1] [] M7 Q := by
      intro c15
      have h := h.1 c15
      refine x_iconst (dA D_X12_isSo 35 rfl) ?_
      exact x_zreturn (dA D_X12_isSo 36 rfl) rfl (by decide) h
    have hB : ¬ (((rd M7 67 29) ≠ 0) ∨ ((rd M7 67 30) = 0)) → X G Y_X12_isSo d k n 59 [vA 67, vI x1] [] M7 Q := by
      intro c15
      have h := h.2 c15
      exact h
    refine x_if_neP (tgt := 57) (dA D_X12_isSo 29 rfl) (by decide) h9 ⟨fun c8 => ?_, fun c8 => ?_⟩
    · exact hA (by first | omega | grind)
    · refine x_aload_n (dA D_X12_isSo 30 rfl) rfl ?_
      refine x_get (v := vL (rd M7 67 30)) (dA D_X12_isSo 31 rfl) fw_RX12_330 (sO_67 hM7) rfl ?_
      refine x_lconst (a := 0) (dA D_X12_isSo 32 rfl) (by decide) ?_
      refine x_lcmp_neP (tgt := 59) (dA D_X12_isSo 33 rfl) (dA D_X12_isSo 34 rfl) (by decide) h14 ⟨by decide, by decide⟩ ⟨fun c13 => ?_, fun c13 => ?_⟩
      · exact hB (by first | omega | grind)
      · exact hA (by first | omega | grind)
theorem C_X12_isSo {G : GG} {d : Nat} {x1 : Int} {M : MM} {Q : PV → MM → Prop} (h : X G Y_X12_isSo d 0 0 0 [vA 67, vI x1] [] M Q) : C G Y_X12_isSo d 0 0 [vA 67, vI x1] M Q := X.entry (by decide) (Nat.le_of_ble_eq_true rfl) rfl rfl rfl h
set_option maxRecDepth 100000 in
theorem B_X12_isSo_59 {G : GG} {d : Nat} {k n : Nat} {x1 : Int} {M : MM} {Q : PV → MM → Prop} (hd : 2 ≤ d) (hS : Sh M) (h : 0 ≤ (x1 + 3) ∧ (x1 + 3) < 5460 ∧ 0 ≤ (x1 + 4) ∧ (x1 + 4) < 5460 ∧ C G Y_X12_reckonAll (d - 1) 0 0 [vA 67, vI (rd M 69 (x1 + 3)), vI (rd M 69 (x1 + 4))] M (rU (fun M5 => Sh M5 ∧ ∀ M6, M6 = wr M5 67 31 (rd M5 67 30) → Sh M6 → inR (rd M6 67 29) ∧ Q (vI (if (rd M6 67 29) = 0 then 1 else 0)) M6))) : X G Y_X12_isSo d k n 59 [vA 67, vI x1] [] M Q := by
  have hd1 : 1 ≤ d := by omega
  refine x_aload_n (dA D_X12_isSo 37 rfl) rfl ?_
  refine x_aload_n (dA D_X12_isSo 38 rfl) rfl ?_
  refine x_get (v := vA 69) (dA D_X12_isSo 39 rfl) fw_RX12_13 (sO_67 hS) (congrArg (rfV G) (sR_67_3 hS)) ?_
  refine x_iload_n (dA D_X12_isSo 40 rfl) rfl ?_
  refine x_iconst (dA D_X12_isSo 41 rfl) ?_
  refine x_iadd (dA D_X12_isSo 42 rfl) ?_
  obtain ⟨h1, h⟩ := h
  obtain ⟨h2, h⟩ := h
  refine x_iald (dA D_X12_isSo 43 rfl) (sA_69 hS h1 h2) ?_
  refine x_aload_n (dA D_X12_isSo 44 rfl) rfl ?_
  refine x_get (v := vA 69) (dA D_X12_isSo 45 rfl) fw_RX12_13 (sO_67 hS) (congrArg (rfV G) (sR_67_3 hS)) ?_
  refine x_iload_n (dA D_X12_isSo 46 rfl) rfl ?_
  refine x_iconst (dA D_X12_isSo 47 rfl) ?_
  refine x_iadd (dA D_X12_isSo 48 rfl) ?_
  obtain ⟨h3, h⟩ := h
  obtain ⟨h4, h⟩ := h
  refine x_iald (dA D_X12_isSo 49 rfl) (sA_69 hS h3 h4) ?_
  refine x_callV 11 [vI (rd M 69 (x1 + 3)), vI (rd M 69 (x1 + 4))] [] (dA D_X12_isSo 50 rfl) cw_RX12_333 rfl rfl (Nat.le_of_ble_eq_true rfl) (by decide) rfl hd1 (zk k) (zk n) (sO_67 hS) h (kU (fun M5 h => ?_))
  obtain ⟨hM5, h⟩ := h
  refine x_aload_n (dA D_X12_isSo 51 rfl) rfl ?_
  refine x_aload_n (dA D_X12_isSo 52 rfl) rfl ?_
  refine x_get (v := vL (rd M5 67 30)) (dA D_X12_isSo 53 rfl) fw_RX12_330 (sO_67 hM5) rfl ?_
  refine x_put (x := rd M5 67 30) (dA D_X12_isSo 54 rfl) fw_RX12_336 (fun _ _ hc => by cases hc; exact Or.inl rfl) (sO_67 hM5) rfl rfl rfl ?_
  refine x_nmM (fun M6 eM6 => ?_)
  have hM6 : Sh M6 := eM6 ▸ (sW_67_31 hM5)
  have h := h M6 eM6 hM6
  refine x_aload_n (dA D_X12_isSo 55 rfl) rfl ?_
  refine x_get (v := vI (rd M6 67 29)) (dA D_X12_isSo 56 rfl) fw_RX12_316 (sO_67 hM6) rfl ?_
  obtain ⟨h8, h⟩ := h
  have hJ : X G Y_X12_isSo d k n 99 [vA 67, vI x1] [vI (if (rd M6 67 29) = 0 then 1 else 0)] M6 Q := by
    exact x_zreturn (dA D_X12_isSo 61 rfl) rfl (by split <;> decide) h
  refine x_if_neP (tgt := 98) (dA D_X12_isSo 57 rfl) (by decide) h8 ⟨fun c7 => ?_, fun c7 => ?_⟩
  · refine x_iconst (dA D_X12_isSo 60 rfl) ?_
    have e0 : (if (rd M6 67 29) = 0 then (1 : Int) else 0) = 0 := if_neg (by first | omega | grind)
    rw [e0] at hJ
    exact hJ
  · refine x_iconst (dA D_X12_isSo 58 rfl) ?_
    refine x_goto (tgt := 99) (dA D_X12_isSo 59 rfl) (by decide) ?_
    have e0 : (if (rd M6 67 29) = 0 then (1 : Int) else 0) = 1 := if_pos (by first | omega | grind)
    rw [e0] at hJ
    exact hJ
set_option maxRecDepth 100000 in
theorem B_X12_tells_0 {G : GG} {d : Nat} {k n : Nat} {x1 x2 x3 : Int} {M : MM} {Q : PV → MM → Prop} (hd : 1 ≤ d) (hS : Sh M) (h : inR (rd M 69 2) ∧ (((rd M 69 2) ≠ (-1) → ∀ M2, M2 = wr M 67 26 (60 + (900 * (rd M 69 2))) → Sh M2 → inR x2 ∧ X G Y_X12_tells d k n 36 [vA 67, vI x1, vI x2, vI x3, vL x2, vU, vI 0, vU] [] M2 Q) ∧ ((rd M 69 2) = (-1) → Q (vI x2) M))) : X G Y_X12_tells d k n 0 [vA 67, vI x1, vI x2, vI x3, vU, vU, vU, vU] [] M Q := by
  have hd1 : 1 ≤ d := by omega
  refine x_aload_n (dA D_X12_tells 0 rfl) rfl ?_
  refine x_get (v := vA 69) (dA D_X12_tells 1 rfl) fw_RX12_13 (sO_67 hS) (congrArg (rfV G) (sR_67_3 hS)) ?_
  refine x_iconst (dA D_X12_tells 2 rfl) ?_
  refine x_iald (dA D_X12_tells 3 rfl) (sA_69 hS (by decide) (by decide)) ?_
  refine x_iconst (dA D_X12_tells 4 rfl) ?_
  obtain ⟨h1, h⟩ := h
  refine x_icmp_neP (tgt := 12) (dA D_X12_tells 5 rfl) (by decide) h1 ⟨by decide, by decide⟩ ⟨fun c => ?_, fun c => ?_⟩
  · have h := h.1 c
    refine x_aload_n (dA D_X12_tells 8 rfl) rfl ?_
    refine x_bipush (dA D_X12_tells 9 rfl) (by decide) (by decide) ?_
    refine x_sipush (dA D_X12_tells 10 rfl) (by decide) (by decide) ?_
    refine x_aload_n (dA D_X12_tells 11 rfl) rfl ?_
    refine x_get (v := vA 69) (dA D_X12_tells 12 rfl) fw_RX12_13 (sO_67 hS) (congrArg (rfV G) (sR_67_3 hS)) ?_
    refine x_iconst (dA D_X12_tells 13 rfl) ?_
    refine x_iald (dA D_X12_tells 14 rfl) (sA_69 hS (by decide) (by decide)) ?_
    refine x_imul (dA D_X12_tells 15 rfl) ?_
    refine x_iadd (dA D_X12_tells 16 rfl) ?_
    refine x_put (x := 60 + (900 * (rd M 69 2))) (dA D_X12_tells 17 rfl) fw_RX12_319 (fun _ _ hc => by cases hc; exact Or.inl rfl) (sO_67 hS) rfl rfl rfl ?_
    refine x_nmM (fun M2 eM2 => ?_)
    have hM2 : Sh M2 := eM2 ▸ (sW_67_26 hS)
    have h := h M2 eM2 hM2
    refine x_iload_n (dA D_X12_tells 18 rfl) rfl ?_
    obtain ⟨h3, h⟩ := h
    refine x_i2l (dA D_X12_tells 19 rfl) h3 ?_
    refine x_lstore (xs' := [vA 67, vI x1, vI x2, vI x3, vL x2, vU, vU, vU]) (dA D_X12_tells 20 rfl) (by decide) rfl ?_
    refine x_iconst (dA D_X12_tells 21 rfl) ?_
    refine x_istore (xs' := [vA 67, vI x1, vI x2, vI x3, vL x2, vU, vI 0, vU]) (dA D_X12_tells 22 rfl) (by decide) rfl ?_
    exact h
  · have h := h.2 c
    refine x_iload_n (dA D_X12_tells 6 rfl) rfl ?_
    exact x_ireturn (dA D_X12_tells 7 rfl) rfl h
theorem C_X12_tells {G : GG} {d : Nat} {x1 x2 x3 : Int} {M : MM} {Q : PV → MM → Prop} (h : X G Y_X12_tells d 0 0 0 [vA 67, vI x1, vI x2, vI x3, vU, vU, vU, vU] [] M Q) : C G Y_X12_tells d 0 0 [vA 67, vI x1, vI x2, vI x3] M Q := X.entry (by decide) (Nat.le_of_ble_eq_true rfl) rfl rfl rfl h
set_option maxRecDepth 100000 in
theorem B_X12_tells_36 {G : GG} {d : Nat} {k n : Nat} {x1 x2 x3 x4 x6 : Int} {M : MM} {Q : PV → MM → Prop} (hd : 2 ≤ d) (hS : Sh M) (h : 0 ≤ ((rd M 67 26) + 1) ∧ ((rd M 67 26) + 1) < 5460 ∧ inR x6 ∧ inR (rd M 69 ((rd M 67 26) + 1)) ∧ (((rd M 69 ((rd M 67 26) + 1)) ≤ x6 → inL x4 ∧ inR x3 ∧ inL x3 ∧ Q (vI (if 0 ≤ x4 then (if x4 ≤ x3 then x4 else x3) else 0)) M) ∧ (x6 < (rd M 69 ((rd M 67 26) + 1)) → ∀ v19, v19 = ((rd M 67 26) + 2) + (8 * x6) → 0 ≤ v19 ∧ v19 < 5460 ∧ inR (rd M 69 v19) ∧ inR x1 ∧ (((rd M 69 v19) ≠ x1 → X G Y_X12_tells d k n 36 [vA 67, vI x1, vI x2, vI x3, vL x4, vU, vI (x6 + 1), vU] [] M Q) ∧ ((rd M 69 v19) = x1 → C G Y_X12_isSo (d - 1) 0 0 [vA 67, vI v19] M (rI (fun r25 M24 => Sh M24 ∧ inR r25 ∧ ((r25 = 0 → X G Y_X12_tells d k n 36 [vA 67, vI x1, vI x2, vI x3, vL x4, vU, vI (x6 + 1), vU] [] M24 Q) ∧ (r25 ≠ 0 → ∀ v27, v27 = rd M24 67 31 → X G Y_X12_tells d k n 36 [vA 67, vI x1, vI x2, vI x3, vL v27, vU, vI (x6 + 1), vU] [] M24 Q))))))))) : X G Y_X12_tells d k n 36 [vA 67, vI x1, vI x2, vI x3, vL x4, vU, vI x6, vU] [] M Q := by
  have hd1 : 1 ≤ d := by omega
  refine x_iload (dA D_X12_tells 23 rfl) rfl ?_
  refine x_aload_n (dA D_X12_tells 24 rfl) rfl ?_
  refine x_get (v := vA 69) (dA D_X12_tells 25 rfl) fw_RX12_13 (sO_67 hS) (congrArg (rfV G) (sR_67_3 hS)) ?_
  refine x_aload_n (dA D_X12_tells 26 rfl) rfl ?_
  refine x_get (v := vI (rd M 67 26)) (dA D_X12_tells 27 rfl) fw_RX12_319 (sO_67 hS) rfl ?_
  refine x_iconst (dA D_X12_tells 28 rfl) ?_
  refine x_iadd (dA D_X12_tells 29 rfl) ?_
  obtain ⟨h1, h⟩ := h
  obtain ⟨h2, h⟩ := h
  refine x_iald (dA D_X12_tells 30 rfl) (sA_69 hS h1 h2) ?_
  obtain ⟨h3, h⟩ := h
  obtain ⟨h4, h⟩ := h
  refine x_icmp_geP (tgt := 98) (dA D_X12_tells 31 rfl) (by decide) h3 h4 ⟨fun c => ?_, fun c => ?_⟩
  · have h := h.1 c
    refine x_lload (dA D_X12_tells 56 rfl) rfl ?_
    refine x_lconst (a := 0) (dA D_X12_tells 57 rfl) (by decide) ?_
    obtain ⟨h6, h⟩ := h
    obtain ⟨h10, h⟩ := h
    obtain ⟨h12, h⟩ := h
    have hJ : X G Y_X12_tells d k n 124 [vA 67, vI x1, vI x2, vI x3, vL x4, vU, vI x6, vU] [vI (if 0 ≤ x4 then (if x4 ≤ x3 then x4 else x3) else 0)] M Q := by
      exact x_ireturn (dA D_X12_tells 71 rfl) rfl h
    refine x_lcmp_geP (tgt := 109) (dA D_X12_tells 58 rfl) (dA D_X12_tells 59 rfl) (by decide) h6 ⟨by decide, by decide⟩ ⟨fun c5 => ?_, fun c5 => ?_⟩
    · refine x_lload (dA D_X12_tells 62 rfl) rfl ?_
      refine x_iload_n (dA D_X12_tells 63 rfl) rfl ?_
      refine x_i2l (dA D_X12_tells 64 rfl) h10 ?_
      refine x_lcmp_leP (tgt := 121) (dA D_X12_tells 65 rfl) (dA D_X12_tells 66 rfl) (by decide) h6 h12 ⟨fun c11 => ?_, fun c11 => ?_⟩
      · refine x_lload (dA D_X12_tells 69 rfl) rfl ?_
        refine x_l2i (dA D_X12_tells 70 rfl) ?_
        rw [if_pos c5, if_pos c11] at hJ
        exact hJ
      · refine x_iload_n (dA D_X12_tells 67 rfl) rfl ?_
        refine x_goto (tgt := 124) (dA D_X12_tells 68 rfl) (by decide) ?_
        rw [if_pos c5, if_neg (by first | omega | grind)] at hJ
        exact hJ
    · refine x_iconst (dA D_X12_tells 60 rfl) ?_
      refine x_goto (tgt := 124) (dA D_X12_tells 61 rfl) (by decide) ?_
      rw [if_neg (by first | omega | grind)] at hJ
      exact hJ
  · have h := h.2 c
    refine x_aload_n (dA D_X12_tells 32 rfl) rfl ?_
    refine x_get (v := vI (rd M 67 26)) (dA D_X12_tells 33 rfl) fw_RX12_319 (sO_67 hS) rfl ?_
    refine x_iconst (dA D_X12_tells 34 rfl) ?_
    refine x_iadd (dA D_X12_tells 35 rfl) ?_
    refine x_bipush (dA D_X12_tells 36 rfl) (by decide) (by decide) ?_
    refine x_iload (dA D_X12_tells 37 rfl) rfl ?_
    refine x_imul (dA D_X12_tells 38 rfl) ?_
    refine x_iadd (dA D_X12_tells 39 rfl) ?_
    refine x_nmI (fun v19 ev19 => ?_)
    have h := h v19 ev19
    refine x_istore (xs' := [vA 67, vI x1, vI x2, vI x3, vL x4, vU, vI x6, vI v19]) (dA D_X12_tells 40 rfl) (by decide) rfl ?_
    refine x_aload_n (dA D_X12_tells 41 rfl) rfl ?_
    refine x_get (v := vA 69) (dA D_X12_tells 42 rfl) fw_RX12_13 (sO_67 hS) (congrArg (rfV G) (sR_67_3 hS)) ?_
    refine x_iload (dA D_X12_tells 43 rfl) rfl ?_
    obtain ⟨h20, h⟩ := h
    obtain ⟨h21, h⟩ := h
    refine x_iald (dA D_X12_tells 44 rfl) (sA_69 hS h20 h21) ?_
    refine x_iload_n (dA D_X12_tells 45 rfl) rfl ?_
    obtain ⟨h22, h⟩ := h
    obtain ⟨h23, h⟩ := h
    refine x_icmp_neP (tgt := 92) (dA D_X12_tells 46 rfl) (by decide) h22 h23 ⟨fun c => ?_, fun c => ?_⟩
    · have h := h.1 c
      refine x_iinc (xs' := [vA 67, vI x1, vI x2, vI x3, vL x4, vU, vI (x6 + 1), vI v19]) (dA D_X12_tells 54 rfl) rfl (by decide) rfl ?_
      refine x_goto (tgt := 36) (dA D_X12_tells 55 rfl) (by decide) ?_
      refine X.weak (xs' := [vA 67, vI x1, vI x2, vI x3, vL x4, vU, vI (x6 + 1), vU]) ⟨Or.inl rfl, Or.inl rfl, Or.inl rfl, Or.inl rfl, Or.inl rfl, Or.inl rfl, Or.inl rfl, Or.inr rfl, trivial⟩ ?_
      exact h
    · have h := h.2 c
      refine x_aload_n (dA D_X12_tells 47 rfl) rfl ?_
      refine x_iload (dA D_X12_tells 48 rfl) rfl ?_
      refine x_callV 11 [vI v19] [] (dA D_X12_tells 49 rfl) cw_RX12_339 rfl rfl (Nat.le_of_ble_eq_true rfl) (by decide) rfl hd1 (zk k) (zk n) (sO_67 hS) h (kI (fun r25 M24 h => ?_))
      obtain ⟨hM24, h⟩ := h
      obtain ⟨h26, h⟩ := h
      refine x_if_eqP (tgt := 92) (dA D_X12_tells 50 rfl) (by decide) h26 ⟨fun c => ?_, fun c => ?_⟩
      · have h := h.1 c
        refine x_iinc (xs' := [vA 67, vI x1, vI x2, vI x3, vL x4, vU, vI (x6 + 1), vI v19]) (dA D_X12_tells 54 rfl) rfl (by decide) rfl ?_
        refine x_goto (tgt := 36) (dA D_X12_tells 55 rfl) (by decide) ?_
        refine X.weak (xs' := [vA 67, vI x1, vI x2, vI x3, vL x4, vU, vI (x6 + 1), vU]) ⟨Or.inl rfl, Or.inl rfl, Or.inl rfl, Or.inl rfl, Or.inl rfl, Or.inl rfl, Or.inl rfl, Or.inr rfl, trivial⟩ ?_
        exact h
      · have h := h.2 c
        refine x_aload_n (dA D_X12_tells 51 rfl) rfl ?_
        refine x_get (v := vL (rd M24 67 31)) (dA D_X12_tells 52 rfl) fw_RX12_336 (sO_67 hM24) rfl ?_
        refine x_nmL (fun v27 ev27 => ?_)
        have h := h v27 ev27
        refine x_lstore (xs' := [vA 67, vI x1, vI x2, vI x3, vL v27, vU, vI x6, vI v19]) (dA D_X12_tells 53 rfl) (by decide) rfl ?_
        refine x_iinc (xs' := [vA 67, vI x1, vI x2, vI x3, vL v27, vU, vI (x6 + 1), vI v19]) (dA D_X12_tells 54 rfl) rfl (by decide) rfl ?_
        refine x_goto (tgt := 36) (dA D_X12_tells 55 rfl) (by decide) ?_
        refine X.weak (xs' := [vA 67, vI x1, vI x2, vI x3, vL v27, vU, vI (x6 + 1), vU]) ⟨Or.inl rfl, Or.inl rfl, Or.inl rfl, Or.inl rfl, Or.inl rfl, Or.inl rfl, Or.inl rfl, Or.inr rfl, trivial⟩ ?_
        exact h
set_option maxRecDepth 100000 in
theorem B_X12_ask_0 {G : GG} {d : Nat} {k n : Nat} {x1 x2 x3 x4 x5 x6 x7 x8 : Int} {M : MM} {Q : PV → MM → Prop} (hd : 2 ≤ d) (hS : Sh M) (h : inR x2 ∧ ∀ M2, M2 = wr M 79 1 x2 → Sh M2 → inR x3 ∧ ∀ M4, M4 = wr M2 79 2 x3 → Sh M4 → inR x4 ∧ ∀ M6, M6 = wr M4 79 3 x4 → Sh M6 → inR x5 ∧ ∀ M8, M8 = wr M6 79 4 x5 → Sh M8 → inR x6 ∧ ∀ M10, M10 = wr M8 79 5 x6 → Sh M10 → inR x7 ∧ ∀ M12, M12 = wr M10 79 6 x7 → Sh M12 → inR x8 ∧ ∀ M14, M14 = wr M12 79 7 x8 → Sh M14 → inR x1 ∧ ((x1 ≠ 0 → C G Y_X12_tells (d - 1) 0 0 [vA 67, vI 1, vI 0, vI 99] M14 (rI (fun r17 M16 => Sh M16 ∧ Q (vI r17) M16))) ∧ (x1 = 0 → C G Y_X12_tells (d - 1) 0 0 [vA 67, vI 0, vI 100, vI 100] M14 (rI (fun r19 M18 => Sh M18 ∧ Q (vI r19) M18))))) : X G Y_X12_ask d k n 0 [vA 67, vI x1, vI x2, vI x3, vI x4, vI x5, vI x6, vI x7, vI x8] [] M Q := by
  have hd1 : 1 ≤ d := by omega
  refine x_aload_n (dA D_X12_ask 0 rfl) rfl ?_
  refine x_get (v := vA 79) (dA D_X12_ask 1 rfl) fw_RX12_63 (sO_67 hS) (congrArg (rfV G) (sR_67_27 hS)) ?_
  refine x_iconst (dA D_X12_ask 2 rfl) ?_
  refine x_iload_n (dA D_X12_ask 3 rfl) rfl ?_
  obtain ⟨h1, h⟩ := h
  refine x_i2l (dA D_X12_ask 4 rfl) h1 ?_
  refine x_last (dA D_X12_ask 5 rfl) (sA_79 hS (by decide) (by decide)) ?_
  refine x_nmM (fun M2 eM2 => ?_)
  have hM2 : Sh M2 := eM2 ▸ (sW_79 hS)
  have h := h M2 eM2 hM2
  refine x_aload_n (dA D_X12_ask 6 rfl) rfl ?_
  refine x_get (v := vA 79) (dA D_X12_ask 7 rfl) fw_RX12_63 (sO_67 hM2) (congrArg (rfV G) (sR_67_27 hM2)) ?_
  refine x_iconst (dA D_X12_ask 8 rfl) ?_
  refine x_iload_n (dA D_X12_ask 9 rfl) rfl ?_
  obtain ⟨h3, h⟩ := h
  refine x_i2l (dA D_X12_ask 10 rfl) h3 ?_
  refine x_last (dA D_X12_ask 11 rfl) (sA_79 hM2 (by decide) (by decide)) ?_
  refine x_nmM (fun M4 eM4 => ?_)
  have hM4 : Sh M4 := eM4 ▸ (sW_79 hM2)
  have h := h M4 eM4 hM4
  refine x_aload_n (dA D_X12_ask 12 rfl) rfl ?_
  refine x_get (v := vA 79) (dA D_X12_ask 13 rfl) fw_RX12_63 (sO_67 hM4) (congrArg (rfV G) (sR_67_27 hM4)) ?_
  refine x_iconst (dA D_X12_ask 14 rfl) ?_
  refine x_iload (dA D_X12_ask 15 rfl) rfl ?_
  obtain ⟨h5, h⟩ := h
  refine x_i2l (dA D_X12_ask 16 rfl) h5 ?_
  refine x_last (dA D_X12_ask 17 rfl) (sA_79 hM4 (by decide) (by decide)) ?_
  refine x_nmM (fun M6 eM6 => ?_)
  have hM6 : Sh M6 := eM6 ▸ (sW_79 hM4)
  have h := h M6 eM6 hM6
  refine x_aload_n (dA D_X12_ask 18 rfl) rfl ?_
  refine x_get (v := vA 79) (dA D_X12_ask 19 rfl) fw_RX12_63 (sO_67 hM6) (congrArg (rfV G) (sR_67_27 hM6)) ?_
  refine x_iconst (dA D_X12_ask 20 rfl) ?_
  refine x_iload (dA D_X12_ask 21 rfl) rfl ?_
  obtain ⟨h7, h⟩ := h
  refine x_i2l (dA D_X12_ask 22 rfl) h7 ?_
  refine x_last (dA D_X12_ask 23 rfl) (sA_79 hM6 (by decide) (by decide)) ?_
  refine x_nmM (fun M8 eM8 => ?_)
  have hM8 : Sh M8 := eM8 ▸ (sW_79 hM6)
  have h := h M8 eM8 hM8
  refine x_aload_n (dA D_X12_ask 24 rfl) rfl ?_
  refine x_get (v := vA 79) (dA D_X12_ask 25 rfl) fw_RX12_63 (sO_67 hM8) (congrArg (rfV G) (sR_67_27 hM8)) ?_
  refine x_iconst (dA D_X12_ask 26 rfl) ?_
  refine x_iload (dA D_X12_ask 27 rfl) rfl ?_
  obtain ⟨h9, h⟩ := h
  refine x_i2l (dA D_X12_ask 28 rfl) h9 ?_
  refine x_last (dA D_X12_ask 29 rfl) (sA_79 hM8 (by decide) (by decide)) ?_
  refine x_nmM (fun M10 eM10 => ?_)
  have hM10 : Sh M10 := eM10 ▸ (sW_79 hM8)
  have h := h M10 eM10 hM10
  refine x_aload_n (dA D_X12_ask 30 rfl) rfl ?_
  refine x_get (v := vA 79) (dA D_X12_ask 31 rfl) fw_RX12_63 (sO_67 hM10) (congrArg (rfV G) (sR_67_27 hM10)) ?_
  refine x_bipush (dA D_X12_ask 32 rfl) (by decide) (by decide) ?_
  refine x_iload (dA D_X12_ask 33 rfl) rfl ?_
  obtain ⟨h11, h⟩ := h
  refine x_i2l (dA D_X12_ask 34 rfl) h11 ?_
  refine x_last (dA D_X12_ask 35 rfl) (sA_79 hM10 (by decide) (by decide)) ?_
  refine x_nmM (fun M12 eM12 => ?_)
  have hM12 : Sh M12 := eM12 ▸ (sW_79 hM10)
  have h := h M12 eM12 hM12
  refine x_aload_n (dA D_X12_ask 36 rfl) rfl ?_
  refine x_get (v := vA 79) (dA D_X12_ask 37 rfl) fw_RX12_63 (sO_67 hM12) (congrArg (rfV G) (sR_67_27 hM12)) ?_
  refine x_bipush (dA D_X12_ask 38 rfl) (by decide) (by decide) ?_
  refine x_iload (dA D_X12_ask 39 rfl) rfl ?_
  obtain ⟨h13, h⟩ := h
  refine x_i2l (dA D_X12_ask 40 rfl) h13 ?_
  refine x_last (dA D_X12_ask 41 rfl) (sA_79 hM12 (by decide) (by decide)) ?_
  refine x_nmM (fun M14 eM14 => ?_)
  have hM14 : Sh M14 := eM14 ▸ (sW_79 hM12)
  have h := h M14 eM14 hM14
  refine x_iload_n (dA D_X12_ask 42 rfl) rfl ?_
  obtain ⟨h15, h⟩ := h
  refine x_if_neP (tgt := 79) (dA D_X12_ask 43 rfl) (by decide) h15 ⟨fun c => ?_, fun c => ?_⟩
  · have h := h.1 c
    refine x_aload_n (dA D_X12_ask 50 rfl) rfl ?_
    refine x_iconst (dA D_X12_ask 51 rfl) ?_
    refine x_iconst (dA D_X12_ask 52 rfl) ?_
    refine x_bipush (dA D_X12_ask 53 rfl) (by decide) (by decide) ?_
    refine x_callV 11 [vI 1, vI 0, vI 99] [] (dA D_X12_ask 54 rfl) cw_RX12_342 rfl rfl (Nat.le_of_ble_eq_true rfl) (by decide) rfl hd1 (zk k) (zk n) (sO_67 hM14) h (kI (fun r17 M16 h => ?_))
    obtain ⟨hM16, h⟩ := h
    exact x_ireturn (dA D_X12_ask 55 rfl) rfl h
  · have h := h.2 c
    refine x_aload_n (dA D_X12_ask 44 rfl) rfl ?_
    refine x_iconst (dA D_X12_ask 45 rfl) ?_
    refine x_bipush (dA D_X12_ask 46 rfl) (by decide) (by decide) ?_
    refine x_bipush (dA D_X12_ask 47 rfl) (by decide) (by decide) ?_
    refine x_callV 11 [vI 0, vI 100, vI 100] [] (dA D_X12_ask 48 rfl) cw_RX12_342 rfl rfl (Nat.le_of_ble_eq_true rfl) (by decide) rfl hd1 (zk k) (zk n) (sO_67 hM14) h (kI (fun r19 M18 h => ?_))
    obtain ⟨hM18, h⟩ := h
    refine x_goto (tgt := 87) (dA D_X12_ask 49 rfl) (by decide) ?_
    exact x_ireturn (dA D_X12_ask 55 rfl) rfl h
theorem C_X12_ask {G : GG} {d : Nat} {x1 x2 x3 x4 x5 x6 x7 x8 : Int} {M : MM} {Q : PV → MM → Prop} (h : X G Y_X12_ask d 0 0 0 [vA 67, vI x1, vI x2, vI x3, vI x4, vI x5, vI x6, vI x7, vI x8] [] M Q) : C G Y_X12_ask d 0 0 [vA 67, vI x1, vI x2, vI x3, vI x4, vI x5, vI x6, vI x7, vI x8] M Q := X.entry (by decide) (Nat.le_of_ble_eq_true rfl) rfl rfl rfl h
set_option maxRecDepth 100000 in
theorem B_X0_about_0 {G : GG} {d : Nat} {k n : Nat} {x1 x2 x3 x4 x5 x6 x7 : Int} {M : MM} {Q : PV → MM → Prop} (hd : 1 ≤ d) (hS : Sh M) (h : ∀ M1, M1 = wr M 23 0 x1 → Sh M1 → ∀ M2, M2 = wr M1 23 1 x2 → Sh M2 → ∀ M3, M3 = wr M2 23 2 x3 → Sh M3 → ∀ M4, M4 = wr M3 23 3 (x4 + x5) → Sh M4 → inR x1 ∧ ∀ M10, M10 = wr M4 23 4 (if x1 ≠ 0 then x5 else x4) → Sh M10 → ∀ M11, M11 = wr M10 23 5 x6 → Sh M11 → ∀ M12, M12 = wr M11 23 6 x7 → Sh M12 → Q vU M12) : X G Y_X0_about d k n 0 [vA 22, vI x1, vI x2, vI x3, vI x4, vI x5, vI x6, vI x7] [] M Q := by
  have hd1 : 1 ≤ d := by omega
  refine x_aload_n (dA D_X0_about 0 rfl) rfl ?_
  refine x_get (v := vA 23) (dA D_X0_about 1 rfl) fw_RX0_9 (sO_22 hS) (congrArg (rfV G) (sR_22_1 hS)) ?_
  refine x_iconst (dA D_X0_about 2 rfl) ?_
  refine x_iload_n (dA D_X0_about 3 rfl) rfl ?_
  refine x_iast (dA D_X0_about 4 rfl) (sA_23 hS (by decide) (by decide)) ?_
  refine x_nmM (fun M1 eM1 => ?_)
  have hM1 : Sh M1 := eM1 ▸ (sW_23 hS)
  have h := h M1 eM1 hM1
  refine x_aload_n (dA D_X0_about 5 rfl) rfl ?_
  refine x_get (v := vA 23) (dA D_X0_about 6 rfl) fw_RX0_9 (sO_22 hM1) (congrArg (rfV G) (sR_22_1 hM1)) ?_
  refine x_iconst (dA D_X0_about 7 rfl) ?_
  refine x_iload_n (dA D_X0_about 8 rfl) rfl ?_
  refine x_iast (dA D_X0_about 9 rfl) (sA_23 hM1 (by decide) (by decide)) ?_
  refine x_nmM (fun M2 eM2 => ?_)
  have hM2 : Sh M2 := eM2 ▸ (sW_23 hM1)
  have h := h M2 eM2 hM2
  refine x_aload_n (dA D_X0_about 10 rfl) rfl ?_
  refine x_get (v := vA 23) (dA D_X0_about 11 rfl) fw_RX0_9 (sO_22 hM2) (congrArg (rfV G) (sR_22_1 hM2)) ?_
  refine x_iconst (dA D_X0_about 12 rfl) ?_
  refine x_iload_n (dA D_X0_about 13 rfl) rfl ?_
  refine x_iast (dA D_X0_about 14 rfl) (sA_23 hM2 (by decide) (by decide)) ?_
  refine x_nmM (fun M3 eM3 => ?_)
  have hM3 : Sh M3 := eM3 ▸ (sW_23 hM2)
  have h := h M3 eM3 hM3
  refine x_aload_n (dA D_X0_about 15 rfl) rfl ?_
  refine x_get (v := vA 23) (dA D_X0_about 16 rfl) fw_RX0_9 (sO_22 hM3) (congrArg (rfV G) (sR_22_1 hM3)) ?_
  refine x_iconst (dA D_X0_about 17 rfl) ?_
  refine x_iload (dA D_X0_about 18 rfl) rfl ?_
  refine x_iload (dA D_X0_about 19 rfl) rfl ?_
  refine x_iadd (dA D_X0_about 20 rfl) ?_
  refine x_iast (dA D_X0_about 21 rfl) (sA_23 hM3 (by decide) (by decide)) ?_
  refine x_nmM (fun M4 eM4 => ?_)
  have hM4 : Sh M4 := eM4 ▸ (sW_23 hM3)
  have h := h M4 eM4 hM4
  refine x_aload_n (dA D_X0_about 22 rfl) rfl ?_
  refine x_get (v := vA 23) (dA D_X0_about 23 rfl) fw_RX0_9 (sO_22 hM4) (congrArg (rfV G) (sR_22_1 hM4)) ?_
  refine x_iconst (dA D_X0_about 24 rfl) ?_
  refine x_iload_n (dA D_X0_about 25 rfl) rfl ?_
  obtain ⟨h6, h⟩ := h
  have hJ : X G Y_X0_about d k n 48 [vA 22, vI x1, vI x2, vI x3, vI x4, vI x5, vI x6, vI x7] [vI (if x1 ≠ 0 then x5 else x4), vI 4, vA 23] M4 Q := by
    refine x_iast (dA D_X0_about 30 rfl) (sA_23 hM4 (by decide) (by decide)) ?_
    refine x_nmM (fun M10 eM10 => ?_)
    have hM10 : Sh M10 := eM10 ▸ (sW_23 hM4)
    have h := h M10 eM10 hM10
    refine x_aload_n (dA D_X0_about 31 rfl) rfl ?_
    refine x_get (v := vA 23) (dA D_X0_about 32 rfl) fw_RX0_9 (sO_22 hM10) (congrArg (rfV G) (sR_22_1 hM10)) ?_
    refine x_iconst (dA D_X0_about 33 rfl) ?_
    refine x_iload (dA D_X0_about 34 rfl) rfl ?_
    refine x_iast (dA D_X0_about 35 rfl) (sA_23 hM10 (by decide) (by decide)) ?_
    refine x_nmM (fun M11 eM11 => ?_)
    have hM11 : Sh M11 := eM11 ▸ (sW_23 hM10)
    have h := h M11 eM11 hM11
    refine x_aload_n (dA D_X0_about 36 rfl) rfl ?_
    refine x_get (v := vA 23) (dA D_X0_about 37 rfl) fw_RX0_9 (sO_22 hM11) (congrArg (rfV G) (sR_22_1 hM11)) ?_
    refine x_bipush (dA D_X0_about 38 rfl) (by decide) (by decide) ?_
    refine x_iload (dA D_X0_about 39 rfl) rfl ?_
    refine x_iast (dA D_X0_about 40 rfl) (sA_23 hM11 (by decide) (by decide)) ?_
    refine x_nmM (fun M12 eM12 => ?_)
    have hM12 : Sh M12 := eM12 ▸ (sW_23 hM11)
    have h := h M12 eM12 hM12
    exact x_return (dA D_X0_about 41 rfl) rfl h
  refine x_if_neP (tgt := 46) (dA D_X0_about 26 rfl) (by decide) h6 ⟨fun c5 => ?_, fun c5 => ?_⟩
  · refine x_iload (dA D_X0_about 29 rfl) rfl ?_
    rw [if_pos c5] at hJ
    exact hJ
  · refine x_iload (dA D_X0_about 27 rfl) rfl ?_
    refine x_goto (tgt := 48) (dA D_X0_about 28 rfl) (by decide) ?_
    rw [if_neg (by first | omega | grind)] at hJ
    exact hJ
theorem C_X0_about {G : GG} {d : Nat} {x1 x2 x3 x4 x5 x6 x7 : Int} {M : MM} {Q : PV → MM → Prop} (h : X G Y_X0_about d 0 0 0 [vA 22, vI x1, vI x2, vI x3, vI x4, vI x5, vI x6, vI x7] [] M Q) : C G Y_X0_about d 0 0 [vA 22, vI x1, vI x2, vI x3, vI x4, vI x5, vI x6, vI x7] M Q := X.entry (by decide) (Nat.le_of_ble_eq_true rfl) rfl rfl rfl h
set_option maxRecDepth 100000 in
theorem B_X0_holds_0 {G : GG} {d : Nat} {k n : Nat} {x1 x2 x3 : Int} {M : MM} {Q : PV → MM → Prop} (hd : 1 ≤ d) (hS : Sh M) (h : X G Y_X0_holds d k n 9 [vA 22, vA x1, vI x2, vI x3, vI 0, vI x2, vI x2, vU, vU, vU] [] M Q) : X G Y_X0_holds d k n 0 [vA 22, vA x1, vI x2, vI x3, vU, vU, vU, vU, vU, vU] [] M Q := by
  have hd1 : 1 ≤ d := by omega
  refine x_iconst (dA D_X0_holds 0 rfl) ?_
  refine x_istore (xs' := [vA 22, vA x1, vI x2, vI x3, vI 0, vU, vU, vU, vU, vU]) (dA D_X0_holds 1 rfl) (by decide) rfl ?_
  refine x_iload_n (dA D_X0_holds 2 rfl) rfl ?_
  refine x_istore (xs' := [vA 22, vA x1, vI x2, vI x3, vI 0, vI x2, vU, vU, vU, vU]) (dA D_X0_holds 3 rfl) (by decide) rfl ?_
  refine x_iload_n (dA D_X0_holds 4 rfl) rfl ?_
  refine x_istore (xs' := [vA 22, vA x1, vI x2, vI x3, vI 0, vI x2, vI x2, vU, vU, vU]) (dA D_X0_holds 5 rfl) (by decide) rfl ?_
  exact h
theorem C_X0_holds {G : GG} {d : Nat} {x1 x2 x3 : Int} {M : MM} {Q : PV → MM → Prop} (h : X G Y_X0_holds d 0 0 0 [vA 22, vA x1, vI x2, vI x3, vU, vU, vU, vU, vU, vU] [] M Q) : C G Y_X0_holds d 0 0 [vA 22, vA x1, vI x2, vI x3] M Q := X.entry (by decide) (Nat.le_of_ble_eq_true rfl) rfl rfl rfl h
set_option maxRecDepth 100000 in
theorem B_X0_holds_9 {G : GG} {d : Nat} {k n : Nat} {x1 x2 x3 x4 x5 x6 : Int} {M : MM} {Q : PV → MM → Prop} (hd : 1 ≤ d) (hS : Sh M) (h : inR x6 ∧ inR x3 ∧ ((x3 ≤ x6 → inR x4 ∧ ((x4 = 1 → Q (vI 1) M) ∧ (x4 ≠ 1 → ((x4 ≠ 2 → Q (vI 0) M) ∧ (x4 = 2 → inL (rd M 24 1) ∧ Q (vI (if (rd M 24 1) ≠ 0 then 1 else 0)) M))))) ∧ (x6 < x3 → inR x5 ∧ ((x5 ≤ x6 → okA M x1 20 x6 ∧ ∀ v11, v11 = iAnd (rd M x1 x6) 15 → ∀ v12, v12 = iShr (rd M x1 x6) 4 → inR v11 ∧ ((1 < v11 → ((v11 < 9 → inR x4 ∧ ((x4 < 2 → Q (vI 0) M) ∧ (2 ≤ x4 → ((v11 ≠ 5 → X G Y_X0_holds d k n 215 [vA 22, vA x1, vI x2, vI x3, vI x4, vI x5, vI x6, vI v11, vI v12, vU] [] M Q) ∧ (v11 = 5 → 0 ≤ (x4 - 1) ∧ (x4 - 1) < 64 ∧ inL (rd M 24 (x4 - 1)) ∧ (((rd M 24 (x4 - 1)) ≠ 0 → X G Y_X0_holds d k n 215 [vA 22, vA x1, vI x2, vI x3, vI x4, vI x5, vI x6, vI v11, vI v12, vU] [] M Q) ∧ ((rd M 24 (x4 - 1)) = 0 → Q (vI 0) M))))))) ∧ (9 ≤ v11 → inR x4 ∧ ((1 ≤ x4 → 0 ≤ (x4 - 1) ∧ (x4 - 1) < 64 ∧ inL (rd M 24 (x4 - 1)) ∧ ∀ v26, v26 = (if (rd M 24 (x4 - 1)) ≠ 0 then 1 else 0) → ((v11 ≠ 9 → inR v26 ∧ ((v26 ≠ (if v11 = 10 then 1 else 0) → X G Y_X0_holds d k n 9 [vA 22, vA x1, vI x2, vI x3, vI (x4 + (-1)), vI x5, vI (x6 + 1), vU, vU, vU] [] M Q) ∧ (v26 = (if v11 = 10 then 1 else 0) → X G Y_X0_holds d k n 9 [vA 22, vA x1, vI x2, vI x3, vI x4, vI v12, vI (x6 + 1), vU, vU, vU] [] M Q))) ∧ (v11 = 9 → inR v26 ∧ ∀ M37, M37 = wr M 24 (x4 - 1) (if v26 = 0 then 1 else 0) → Sh M37 → X G Y_X0_holds d k n 9 [vA 22, vA x1, vI x2, vI x3, vI x4, vI x5, vI (x6 + 1), vU, vU, vU] [] M37 Q))) ∧ (x4 < 1 → Q (vI 0) M))))) ∧ (v11 ≤ 1 → inR x4 ∧ ((x4 ≠ 64 → ((v11 ≠ 0 → 0 ≤ v12 ∧ v12 < 7 ∧ inR (rd M 23 v12) ∧ 0 ≤ x4 ∧ x4 < 64 ∧ ∀ M44, M44 = wr M 24 x4 (rd M 23 v12) → Sh M44 → X G Y_X0_holds d k n 9 [vA 22, vA x1, vI x2, vI x3, vI (x4 + 1), vI x5, vI (x6 + 1), vU, vU, vU] [] M44 Q) ∧ (v11 = 0 → inR v12 ∧ 0 ≤ x4 ∧ x4 < 64 ∧ ∀ M48, M48 = wr M 24 x4 v12 → Sh M48 → X G Y_X0_holds d k n 9 [vA 22, vA x1, vI x2, vI x3, vI (x4 + 1), vI x5, vI (x6 + 1), vU, vU, vU] [] M48 Q))) ∧ (x4 = 64 → Q (vI 0) M))))) ∧ (x6 < x5 → X G Y_X0_holds d k n 9 [vA 22, vA x1, vI x2, vI x3, vI x4, vI x5, vI (x6 + 1), vU, vU, vU] [] M Q))))) : X G Y_X0_holds d k n 9 [vA 22, vA x1, vI x2, vI x3, vI x4, vI x5, vI x6, vU, vU, vU] [] M Q := by
  have hd1 : 1 ≤ d := by omega
  refine x_iload (dA D_X0_holds 6 rfl) rfl ?_
  refine x_iload_n (dA D_X0_holds 7 rfl) rfl ?_
  obtain ⟨h1, h⟩ := h
  obtain ⟨h2, h⟩ := h
  refine x_icmp_geP (tgt := 288) (dA D_X0_holds 8 rfl) (by decide) h1 h2 ⟨fun c => ?_, fun c => ?_⟩
  · have h := h.1 c
    refine x_iload (dA D_X0_holds 158 rfl) rfl ?_
    refine x_iconst (dA D_X0_holds 159 rfl) ?_
    obtain ⟨h3, h⟩ := h
    refine x_icmp_eqP (tgt := 311) (dA D_X0_holds 160 rfl) (by decide) h3 ⟨by decide, by decide⟩ ⟨fun c => ?_, fun c => ?_⟩
    · have h := h.1 c
      refine x_iconst (dA D_X0_holds 171 rfl) ?_
      refine x_goto (tgt := 316) (dA D_X0_holds 172 rfl) (by decide) ?_
      exact x_zreturn (dA D_X0_holds 174 rfl) rfl (by decide) h
    · have h := h.2 c
      refine x_iload (dA D_X0_holds 161 rfl) rfl ?_
      refine x_iconst (dA D_X0_holds 162 rfl) ?_
      refine x_icmp_neP (tgt := 315) (dA D_X0_holds 163 rfl) (by decide) h3 ⟨by decide, by decide⟩ ⟨fun c => ?_, fun c => ?_⟩
      · have h := h.1 c
        refine x_iconst (dA D_X0_holds 173 rfl) ?_
        exact x_zreturn (dA D_X0_holds 174 rfl) rfl (by decide) h
      · have h := h.2 c
        refine x_aload_n (dA D_X0_holds 164 rfl) rfl ?_
        refine x_get (v := vA 24) (dA D_X0_holds 165 rfl) fw_RX0_15 (sO_22 hS) (congrArg (rfV G) (sR_22_2 hS)) ?_
        refine x_iconst (dA D_X0_holds 166 rfl) ?_
        refine x_lald (dA D_X0_holds 167 rfl) (sA_24 hS (by decide) (by decide)) ?_
        refine x_lconst (a := 0) (dA D_X0_holds 168 rfl) (by decide) ?_
        obtain ⟨h5, h⟩ := h
        have hJ : X G Y_X0_holds d k n 316 [vA 22, vA x1, vI x2, vI x3, vI x4, vI x5, vI x6, vU, vU, vU] [vI (if (rd M 24 1) ≠ 0 then 1 else 0)] M Q := by
          exact x_zreturn (dA D_X0_holds 174 rfl) rfl (by split <;> decide) h
        refine x_lcmp_eqP (tgt := 315) (dA D_X0_holds 169 rfl) (dA D_X0_holds 170 rfl) (by decide) h5 ⟨by decide, by decide⟩ ⟨fun c4 => ?_, fun c4 => ?_⟩
        · refine x_iconst (dA D_X0_holds 173 rfl) ?_
          have e0 : (if (rd M 24 1) ≠ 0 then (1 : Int) else 0) = 0 := if_neg (by first | omega | grind)
          rw [e0] at hJ
          exact hJ
        · refine x_iconst (dA D_X0_holds 171 rfl) ?_
          refine x_goto (tgt := 316) (dA D_X0_holds 172 rfl) (by decide) ?_
          have e0 : (if (rd M 24 1) ≠ 0 then (1 : Int) else 0) = 1 := if_pos (by first | omega | grind)
          rw [e0] at hJ
          exact hJ
  · have h := h.2 c
    refine x_iload (dA D_X0_holds 9 rfl) rfl ?_
    refine x_iload (dA D_X0_holds 10 rfl) rfl ?_
    obtain ⟨h9, h⟩ := h
    refine x_icmp_geP (tgt := 25) (dA D_X0_holds 11 rfl) (by decide) h1 h9 ⟨fun c => ?_, fun c => ?_⟩
    · have h := h.1 c
      refine x_aload_n (dA D_X0_holds 13 rfl) rfl ?_
      refine x_iload (dA D_X0_holds 14 rfl) rfl ?_
      obtain ⟨h10, h⟩ := h
      refine x_iald (dA D_X0_holds 15 rfl) h10 ?_
      refine x_bipush (dA D_X0_holds 16 rfl) (by decide) (by decide) ?_
      refine x_iand (dA D_X0_holds 17 rfl) ?_
      refine x_nmI (fun v11 ev11 => ?_)
      have h := h v11 ev11
      refine x_istore (xs' := [vA 22, vA x1, vI x2, vI x3, vI x4, vI x5, vI x6, vI v11, vU, vU]) (dA D_X0_holds 18 rfl) (by decide) rfl ?_
      refine x_aload_n (dA D_X0_holds 19 rfl) rfl ?_
      refine x_iload (dA D_X0_holds 20 rfl) rfl ?_
      refine x_iald (dA D_X0_holds 21 rfl) h10 ?_
      refine x_iconst (dA D_X0_holds 22 rfl) ?_
      refine x_ishr (dA D_X0_holds 23 rfl) ?_
      refine x_nmI (fun v12 ev12 => ?_)
      have h := h v12 ev12
      refine x_istore (xs' := [vA 22, vA x1, vI x2, vI x3, vI x4, vI x5, vI x6, vI v11, vI v12, vU]) (dA D_X0_holds 24 rfl) (by decide) rfl ?_
      refine x_iload (dA D_X0_holds 25 rfl) rfl ?_
      refine x_iconst (dA D_X0_holds 26 rfl) ?_
      obtain ⟨h13, h⟩ := h
      refine x_icmp_gtP (tgt := 92) (dA D_X0_holds 27 rfl) (by decide) h13 ⟨by decide, by decide⟩ ⟨fun c => ?_, fun c => ?_⟩
      · have h := h.1 c
        refine x_iload (dA D_X0_holds 51 rfl) rfl ?_
        refine x_bipush (dA D_X0_holds 52 rfl) (by decide) (by decide) ?_
        refine x_icmp_ltP (tgt := 187) (dA D_X0_holds 53 rfl) (by decide) h13 ⟨by decide, by decide⟩ ⟨fun c => ?_, fun c => ?_⟩
        · have h := h.1 c
          refine x_iload (dA D_X0_holds 100 rfl) rfl ?_
          refine x_iconst (dA D_X0_holds 101 rfl) ?_
          obtain ⟨h14, h⟩ := h
          refine x_icmp_ltP (tgt := 213) (dA D_X0_holds 102 rfl) (by decide) h14 ⟨by decide, by decide⟩ ⟨fun c => ?_, fun c => ?_⟩
          · have h := h.1 c
            refine x_iconst (dA D_X0_holds 115 rfl) ?_
            exact x_zreturn (dA D_X0_holds 116 rfl) rfl (by decide) h
          · have h := h.2 c
            refine x_iload (dA D_X0_holds 103 rfl) rfl ?_
            refine x_iconst (dA D_X0_holds 104 rfl) ?_
            refine x_icmp_neP (tgt := 215) (dA D_X0_holds 105 rfl) (by decide) h13 ⟨by decide, by decide⟩ ⟨fun c => ?_, fun c => ?_⟩
            · have h := h.1 c
              exact h
            · have h := h.2 c
              refine x_aload_n (dA D_X0_holds 106 rfl) rfl ?_
              refine x_get (v := vA 24) (dA D_X0_holds 107 rfl) fw_RX0_15 (sO_22 hS) (congrArg (rfV G) (sR_22_2 hS)) ?_
              refine x_iload (dA D_X0_holds 108 rfl) rfl ?_
              refine x_iconst (dA D_X0_holds 109 rfl) ?_
              refine x_isub (dA D_X0_holds 110 rfl) ?_
              obtain ⟨h15, h⟩ := h
              obtain ⟨h16, h⟩ := h
              refine x_lald (dA D_X0_holds 111 rfl) (sA_24 hS h15 h16) ?_
              refine x_lconst (a := 0) (dA D_X0_holds 112 rfl) (by decide) ?_
              obtain ⟨h17, h⟩ := h
              refine x_lcmp_neP (tgt := 215) (dA D_X0_holds 113 rfl) (dA D_X0_holds 114 rfl) (by decide) h17 ⟨by decide, by decide⟩ ⟨fun c => ?_, fun c => ?_⟩
              · have h := h.1 c
                exact h
              · have h := h.2 c
                refine x_iconst (dA D_X0_holds 115 rfl) ?_
                exact x_zreturn (dA D_X0_holds 116 rfl) rfl (by decide) h
        · have h := h.2 c
          refine x_iload (dA D_X0_holds 54 rfl) rfl ?_
          refine x_iconst (dA D_X0_holds 55 rfl) ?_
          obtain ⟨h18, h⟩ := h
          refine x_icmp_geP (tgt := 107) (dA D_X0_holds 56 rfl) (by decide) h18 ⟨by decide, by decide⟩ ⟨fun c => ?_, fun c => ?_⟩
          · have h := h.1 c
            refine x_aload_n (dA D_X0_holds 59 rfl) rfl ?_
            refine x_get (v := vA 24) (dA D_X0_holds 60 rfl) fw_RX0_15 (sO_22 hS) (congrArg (rfV G) (sR_22_2 hS)) ?_
            refine x_iload (dA D_X0_holds 61 rfl) rfl ?_
            refine x_iconst (dA D_X0_holds 62 rfl) ?_
            refine x_isub (dA D_X0_holds 63 rfl) ?_
            obtain ⟨h19, h⟩ := h
            obtain ⟨h20, h⟩ := h
            refine x_lald (dA D_X0_holds 64 rfl) (sA_24 hS h19 h20) ?_
            refine x_lconst (a := 0) (dA D_X0_holds 65 rfl) (by decide) ?_
            obtain ⟨h22, h⟩ := h
            have hJ : X G Y_X0_holds d k n 126 [vA 22, vA x1, vI x2, vI x3, vI x4, vI x5, vI x6, vI v11, vI v12, vU] [vI (if (rd M 24 (x4 - 1)) ≠ 0 then 1 else 0)] M Q := by
              refine x_nmI (fun v26 ev26 => ?_)
              have h := h v26 ev26
              refine x_istore (xs' := [vA 22, vA x1, vI x2, vI x3, vI x4, vI x5, vI x6, vI v11, vI v12, vI v26]) (dA D_X0_holds 71 rfl) (by decide) rfl ?_
              refine x_iload (dA D_X0_holds 72 rfl) rfl ?_
              refine x_bipush (dA D_X0_holds 73 rfl) (by decide) (by decide) ?_
              refine x_icmp_neP (tgt := 157) (dA D_X0_holds 74 rfl) (by decide) h13 ⟨by decide, by decide⟩ ⟨fun c => ?_, fun c => ?_⟩
              · have h := h.1 c
                refine x_iload (dA D_X0_holds 87 rfl) rfl ?_
                refine x_iload (dA D_X0_holds 88 rfl) rfl ?_
                refine x_bipush (dA D_X0_holds 89 rfl) (by decide) (by decide) ?_
                have hJ : X G Y_X0_holds d k n 171 [vA 22, vA x1, vI x2, vI x3, vI x4, vI x5, vI x6, vI v11, vI v12, vI v26] [vI (if v11 = 10 then 1 else 0), vI v26] M Q := by
                  obtain ⟨h31, h⟩ := h
                  refine x_icmp_neP (tgt := 181) (dA D_X0_holds 94 rfl) (by decide) h31 (by split <;> exact ⟨by decide, by decide⟩) ⟨fun c => ?_, fun c => ?_⟩
                  · have h := h.1 c
                    refine x_iinc (xs' := [vA 22, vA x1, vI x2, vI x3, vI (x4 + (-1)), vI x5, vI x6, vI v11, vI v12, vI v26]) (dA D_X0_holds 98 rfl) rfl (by decide) rfl ?_
                    refine x_goto (tgt := 282) (dA D_X0_holds 99 rfl) (by decide) ?_
                    refine x_iinc (xs' := [vA 22, vA x1, vI x2, vI x3, vI (x4 + (-1)), vI x5, vI (x6 + 1), vI v11, vI v12, vI v26]) (dA D_X0_holds 156 rfl) rfl (by decide) rfl ?_
                    refine x_goto (tgt := 9) (dA D_X0_holds 157 rfl) (by decide) ?_
                    refine X.weak (xs' := [vA 22, vA x1, vI x2, vI x3, vI (x4 + (-1)), vI x5, vI (x6 + 1), vU, vU, vU]) ⟨Or.inl rfl, Or.inl rfl, Or.inl rfl, Or.inl rfl, Or.inl rfl, Or.inl rfl, Or.inl rfl, Or.inr rfl, Or.inr rfl, Or.inr rfl, trivial⟩ ?_
                    exact h
                  · have h := h.2 c
                    refine x_iload (dA D_X0_holds 95 rfl) rfl ?_
                    refine x_istore (xs' := [vA 22, vA x1, vI x2, vI x3, vI x4, vI v12, vI x6, vI v11, vI v12, vI v26]) (dA D_X0_holds 96 rfl) (by decide) rfl ?_
                    refine x_goto (tgt := 282) (dA D_X0_holds 97 rfl) (by decide) ?_
                    refine x_iinc (xs' := [vA 22, vA x1, vI x2, vI x3, vI x4, vI v12, vI (x6 + 1), vI v11, vI v12, vI v26]) (dA D_X0_holds 156 rfl) rfl (by decide) rfl ?_
                    refine x_goto (tgt := 9) (dA D_X0_holds 157 rfl) (by decide) ?_
                    refine X.weak (xs' := [vA 22, vA x1, vI x2, vI x3, vI x4, vI v12, vI (x6 + 1), vU, vU, vU]) ⟨Or.inl rfl, Or.inl rfl, Or.inl rfl, Or.inl rfl, Or.inl rfl, Or.inl rfl, Or.inl rfl, Or.inr rfl, Or.inr rfl, Or.inr rfl, trivial⟩ ?_
                    exact h
                refine x_icmp_neP (tgt := 170) (dA D_X0_holds 90 rfl) (by decide) h13 ⟨by decide, by decide⟩ ⟨fun c27 => ?_, fun c27 => ?_⟩
                · refine x_iconst (dA D_X0_holds 93 rfl) ?_
                  have e0 : (if v11 = 10 then (1 : Int) else 0) = 0 := if_neg (by first | omega | grind)
                  rw [e0] at hJ
                  exact hJ
                · refine x_iconst (dA D_X0_holds 91 rfl) ?_
                  refine x_goto (tgt := 171) (dA D_X0_holds 92 rfl) (by decide) ?_
                  have e0 : (if v11 = 10 then (1 : Int) else 0) = 1 := if_pos (by first | omega | grind)
                  rw [e0] at hJ
                  exact hJ
              · have h := h.2 c
                refine x_aload_n (dA D_X0_holds 75 rfl) rfl ?_
                refine x_get (v := vA 24) (dA D_X0_holds 76 rfl) fw_RX0_15 (sO_22 hS) (congrArg (rfV G) (sR_22_2 hS)) ?_
                refine x_iload (dA D_X0_holds 77 rfl) rfl ?_
                refine x_iconst (dA D_X0_holds 78 rfl) ?_
                refine x_isub (dA D_X0_holds 79 rfl) ?_
                refine x_iload (dA D_X0_holds 80 rfl) rfl ?_
                obtain ⟨h33, h⟩ := h
                have hJ : X G Y_X0_holds d k n 153 [vA 22, vA x1, vI x2, vI x3, vI x4, vI x5, vI x6, vI v11, vI v12, vI v26] [vL (if v26 = 0 then 1 else 0), vI (x4 - 1), vA 24] M Q := by
                  refine x_last (dA D_X0_holds 85 rfl) (sA_24 hS h19 h20) ?_
                  refine x_nmM (fun M37 eM37 => ?_)
                  have hM37 : Sh M37 := eM37 ▸ (sW_24 hS)
                  have h := h M37 eM37 hM37
                  refine x_goto (tgt := 282) (dA D_X0_holds 86 rfl) (by decide) ?_
                  refine x_iinc (xs' := [vA 22, vA x1, vI x2, vI x3, vI x4, vI x5, vI (x6 + 1), vI v11, vI v12, vI v26]) (dA D_X0_holds 156 rfl) rfl (by decide) rfl ?_
                  refine x_goto (tgt := 9) (dA D_X0_holds 157 rfl) (by decide) ?_
                  refine X.weak (xs' := [vA 22, vA x1, vI x2, vI x3, vI x4, vI x5, vI (x6 + 1), vU, vU, vU]) ⟨Or.inl rfl, Or.inl rfl, Or.inl rfl, Or.inl rfl, Or.inl rfl, Or.inl rfl, Or.inl rfl, Or.inr rfl, Or.inr rfl, Or.inr rfl, trivial⟩ ?_
                  exact h
                refine x_if_eqP (tgt := 152) (dA D_X0_holds 81 rfl) (by decide) h33 ⟨fun c32 => ?_, fun c32 => ?_⟩
                · refine x_lconst (a := 1) (dA D_X0_holds 84 rfl) (by decide) ?_
                  rw [if_pos c32] at hJ
                  exact hJ
                · refine x_lconst (a := 0) (dA D_X0_holds 82 rfl) (by decide) ?_
                  refine x_goto (tgt := 153) (dA D_X0_holds 83 rfl) (by decide) ?_
                  rw [if_neg (by first | omega | grind)] at hJ
                  exact hJ
            refine x_lcmp_eqP (tgt := 125) (dA D_X0_holds 66 rfl) (dA D_X0_holds 67 rfl) (by decide) h22 ⟨by decide, by decide⟩ ⟨fun c21 => ?_, fun c21 => ?_⟩
            · refine x_iconst (dA D_X0_holds 70 rfl) ?_
              have e0 : (if (rd M 24 (x4 - 1)) ≠ 0 then (1 : Int) else 0) = 0 := if_neg (by first | omega | grind)
              rw [e0] at hJ
              exact hJ
            · refine x_iconst (dA D_X0_holds 68 rfl) ?_
              refine x_goto (tgt := 126) (dA D_X0_holds 69 rfl) (by decide) ?_
              have e0 : (if (rd M 24 (x4 - 1)) ≠ 0 then (1 : Int) else 0) = 1 := if_pos (by first | omega | grind)
              rw [e0] at hJ
              exact hJ
          · have h := h.2 c
            refine x_iconst (dA D_X0_holds 57 rfl) ?_
            exact x_zreturn (dA D_X0_holds 58 rfl) rfl (by decide) h
      · have h := h.2 c
        refine x_iload (dA D_X0_holds 28 rfl) rfl ?_
        refine x_aload_n (dA D_X0_holds 29 rfl) rfl ?_
        refine x_get (v := vA 24) (dA D_X0_holds 30 rfl) fw_RX0_15 (sO_22 hS) (congrArg (rfV G) (sR_22_2 hS)) ?_
        refine x_alenC (len := 64) (by decide) (by decide) (dA D_X0_holds 31 rfl) (sO_24 hS) (sL_24 hS) ?_
        obtain ⟨h38, h⟩ := h
        refine x_icmp_neP (tgt := 60) (dA D_X0_holds 32 rfl) (by decide) h38 ⟨by decide, by decide⟩ ⟨fun c => ?_, fun c => ?_⟩
        · have h := h.1 c
          refine x_aload_n (dA D_X0_holds 35 rfl) rfl ?_
          refine x_get (v := vA 24) (dA D_X0_holds 36 rfl) fw_RX0_15 (sO_22 hS) (congrArg (rfV G) (sR_22_2 hS)) ?_
          refine x_iload (dA D_X0_holds 37 rfl) rfl ?_
          refine x_iload (dA D_X0_holds 38 rfl) rfl ?_
          refine x_if_neP (tgt := 77) (dA D_X0_holds 39 rfl) (by decide) h13 ⟨fun c => ?_, fun c => ?_⟩
          · have h := h.1 c
            refine x_aload_n (dA D_X0_holds 43 rfl) rfl ?_
            refine x_get (v := vA 23) (dA D_X0_holds 44 rfl) fw_RX0_9 (sO_22 hS) (congrArg (rfV G) (sR_22_1 hS)) ?_
            refine x_iload (dA D_X0_holds 45 rfl) rfl ?_
            obtain ⟨h39, h⟩ := h
            obtain ⟨h40, h⟩ := h
            refine x_iald (dA D_X0_holds 46 rfl) (sA_23 hS h39 h40) ?_
            obtain ⟨h41, h⟩ := h
            refine x_i2l (dA D_X0_holds 47 rfl) h41 ?_
            obtain ⟨h42, h⟩ := h
            obtain ⟨h43, h⟩ := h
            refine x_last (dA D_X0_holds 48 rfl) (sA_24 hS h42 h43) ?_
            refine x_nmM (fun M44 eM44 => ?_)
            have hM44 : Sh M44 := eM44 ▸ (sW_24 hS)
            have h := h M44 eM44 hM44
            refine x_iinc (xs' := [vA 22, vA x1, vI x2, vI x3, vI (x4 + 1), vI x5, vI x6, vI v11, vI v12, vU]) (dA D_X0_holds 49 rfl) rfl (by decide) rfl ?_
            refine x_goto (tgt := 282) (dA D_X0_holds 50 rfl) (by decide) ?_
            refine x_iinc (xs' := [vA 22, vA x1, vI x2, vI x3, vI (x4 + 1), vI x5, vI (x6 + 1), vI v11, vI v12, vU]) (dA D_X0_holds 156 rfl) rfl (by decide) rfl ?_
            refine x_goto (tgt := 9) (dA D_X0_holds 157 rfl) (by decide) ?_
            refine X.weak (xs' := [vA 22, vA x1, vI x2, vI x3, vI (x4 + 1), vI x5, vI (x6 + 1), vU, vU, vU]) ⟨Or.inl rfl, Or.inl rfl, Or.inl rfl, Or.inl rfl, Or.inl rfl, Or.inl rfl, Or.inl rfl, Or.inr rfl, Or.inr rfl, Or.inl rfl, trivial⟩ ?_
            exact h
          · have h := h.2 c
            refine x_iload (dA D_X0_holds 40 rfl) rfl ?_
            obtain ⟨h45, h⟩ := h
            refine x_i2l (dA D_X0_holds 41 rfl) h45 ?_
            refine x_goto (tgt := 85) (dA D_X0_holds 42 rfl) (by decide) ?_
            obtain ⟨h46, h⟩ := h
            obtain ⟨h47, h⟩ := h
            refine x_last (dA D_X0_holds 48 rfl) (sA_24 hS h46 h47) ?_
            refine x_nmM (fun M48 eM48 => ?_)
            have hM48 : Sh M48 := eM48 ▸ (sW_24 hS)
            have h := h M48 eM48 hM48
            refine x_iinc (xs' := [vA 22, vA x1, vI x2, vI x3, vI (x4 + 1), vI x5, vI x6, vI v11, vI v12, vU]) (dA D_X0_holds 49 rfl) rfl (by decide) rfl ?_
            refine x_goto (tgt := 282) (dA D_X0_holds 50 rfl) (by decide) ?_
            refine x_iinc (xs' := [vA 22, vA x1, vI x2, vI x3, vI (x4 + 1), vI x5, vI (x6 + 1), vI v11, vI v12, vU]) (dA D_X0_holds 156 rfl) rfl (by decide) rfl ?_
            refine x_goto (tgt := 9) (dA D_X0_holds 157 rfl) (by decide) ?_
            refine X.weak (xs' := [vA 22, vA x1, vI x2, vI x3, vI (x4 + 1), vI x5, vI (x6 + 1), vU, vU, vU]) ⟨Or.inl rfl, Or.inl rfl, Or.inl rfl, Or.inl rfl, Or.inl rfl, Or.inl rfl, Or.inl rfl, Or.inr rfl, Or.inr rfl, Or.inl rfl, trivial⟩ ?_
            exact h
        · have h := h.2 c
          refine x_iconst (dA D_X0_holds 33 rfl) ?_
          exact x_zreturn (dA D_X0_holds 34 rfl) rfl (by decide) h
    · have h := h.2 c
      refine x_goto (tgt := 282) (dA D_X0_holds 12 rfl) (by decide) ?_
      refine x_iinc (xs' := [vA 22, vA x1, vI x2, vI x3, vI x4, vI x5, vI (x6 + 1), vU, vU, vU]) (dA D_X0_holds 156 rfl) rfl (by decide) rfl ?_
      refine x_goto (tgt := 9) (dA D_X0_holds 157 rfl) (by decide) ?_
      exact h
set_option maxRecDepth 100000 in
theorem B_X0_holds_215 {G : GG} {d : Nat} {k n : Nat} {x1 x2 x3 x4 x5 x6 x7 x8 : Int} {M : MM} {Q : PV → MM → Prop} (hd : 2 ≤ d) (hS : Sh M) (h : 0 ≤ ((x4 + (-1)) - 1) ∧ ((x4 + (-1)) - 1) < 64 ∧ 0 ≤ (x4 + (-1)) ∧ (x4 + (-1)) < 64 ∧ inR x7 ∧ inL (rd M 24 ((x4 + (-1)) - 1)) ∧ inL (rd M 24 (x4 + (-1))) ∧ ∀ M8, M8 = wr M 24 ((x4 + (-1)) - 1) (rckV (x7 + 18) (rd M 24 ((x4 + (-1)) - 1)) (rd M 24 (x4 + (-1)))) → Sh M8 → inL (rd M8 24 ((x4 + (-1)) - 1)) ∧ ((1000000000 < (rd M8 24 ((x4 + (-1)) - 1)) → Q (vI 0) M8) ∧ ((rd M8 24 ((x4 + (-1)) - 1)) ≤ 1000000000 → (((-1000000000) ≤ (rd M8 24 ((x4 + (-1)) - 1)) → X G Y_X0_holds d k n 9 [vA 22, vA x1, vI x2, vI x3, vI (x4 + (-1)), vI x5, vI (x6 + 1), vU, vU, vU] [] M8 Q) ∧ ((rd M8 24 ((x4 + (-1)) - 1)) < (-1000000000) → Q (vI 0) M8))))) : X G Y_X0_holds d k n 215 [vA 22, vA x1, vI x2, vI x3, vI x4, vI x5, vI x6, vI x7, vI x8, vU] [] M Q := by
  have hd1 : 1 ≤ d := by omega
  refine x_iinc (xs' := [vA 22, vA x1, vI x2, vI x3, vI (x4 + (-1)), vI x5, vI x6, vI x7, vI x8, vU]) (dA D_X0_holds 117 rfl) rfl (by decide) rfl ?_
  refine x_aload_n (dA D_X0_holds 118 rfl) rfl ?_
  refine x_get (v := vA 24) (dA D_X0_holds 119 rfl) fw_RX0_15 (sO_22 hS) (congrArg (rfV G) (sR_22_2 hS)) ?_
  refine x_iload (dA D_X0_holds 120 rfl) rfl ?_
  refine x_iconst (dA D_X0_holds 121 rfl) ?_
  refine x_isub (dA D_X0_holds 122 rfl) ?_
  refine x_iload (dA D_X0_holds 123 rfl) rfl ?_
  refine x_aload_n (dA D_X0_holds 124 rfl) rfl ?_
  refine x_get (v := vA 24) (dA D_X0_holds 125 rfl) fw_RX0_15 (sO_22 hS) (congrArg (rfV G) (sR_22_2 hS)) ?_
  refine x_iload (dA D_X0_holds 126 rfl) rfl ?_
  refine x_iconst (dA D_X0_holds 127 rfl) ?_
  refine x_isub (dA D_X0_holds 128 rfl) ?_
  obtain ⟨h1, h⟩ := h
  obtain ⟨h2, h⟩ := h
  refine x_lald (dA D_X0_holds 129 rfl) (sA_24 hS h1 h2) ?_
  refine x_aload_n (dA D_X0_holds 130 rfl) rfl ?_
  refine x_get (v := vA 24) (dA D_X0_holds 131 rfl) fw_RX0_15 (sO_22 hS) (congrArg (rfV G) (sR_22_2 hS)) ?_
  refine x_iload (dA D_X0_holds 132 rfl) rfl ?_
  obtain ⟨h3, h⟩ := h
  obtain ⟨h4, h⟩ := h
  refine x_lald (dA D_X0_holds 133 rfl) (sA_24 hS h3 h4) ?_
  obtain ⟨h5, h⟩ := h
  obtain ⟨h6, h⟩ := h
  obtain ⟨h7, h⟩ := h
  refine x_callS [vI x7, vL (rd M 24 ((x4 + (-1)) - 1)), vL (rd M 24 (x4 + (-1)))] [vI ((x4 + (-1)) - 1), vA 24] (dA D_X0_holds 134 rfl) cw_RX0_57 rfl rfl (Nat.le_of_ble_eq_true rfl) hd1 (zk k) (zk n) (S_X0_joined h5 h6 h7 (by omega) ?_) (kL' (fun _ _ h => h))
  show X G Y_X0_holds d k n 247 [vA 22, vA x1, vI x2, vI x3, vI (x4 + (-1)), vI x5, vI x6, vI x7, vI x8, vU] [vL (rckV (x7 + 18) (rd M 24 ((x4 + (-1)) - 1)) (rd M 24 (x4 + (-1)))), vI ((x4 + (-1)) - 1), vA 24] M Q
  refine x_last (dA D_X0_holds 135 rfl) (sA_24 hS h1 h2) ?_
  refine x_nmM (fun M8 eM8 => ?_)
  have hM8 : Sh M8 := eM8 ▸ (sW_24 hS)
  have h := h M8 eM8 hM8
  refine x_aload_n (dA D_X0_holds 136 rfl) rfl ?_
  refine x_get (v := vA 24) (dA D_X0_holds 137 rfl) fw_RX0_15 (sO_22 hM8) (congrArg (rfV G) (sR_22_2 hM8)) ?_
  refine x_iload (dA D_X0_holds 138 rfl) rfl ?_
  refine x_iconst (dA D_X0_holds 139 rfl) ?_
  refine x_isub (dA D_X0_holds 140 rfl) ?_
  refine x_lald (dA D_X0_holds 141 rfl) (sA_24 hM8 h1 h2) ?_
  refine x_ldc2 (a := 1000000000) (dA D_X0_holds 142 rfl) kl_RX0_61 (by decide) ?_
  obtain ⟨h9, h⟩ := h
  refine x_lcmp_gtP (tgt := 280) (dA D_X0_holds 143 rfl) (dA D_X0_holds 144 rfl) (by decide) h9 ⟨by decide, by decide⟩ ⟨fun c => ?_, fun c => ?_⟩
  · have h := h.1 c
    refine x_iconst (dA D_X0_holds 154 rfl) ?_
    exact x_zreturn (dA D_X0_holds 155 rfl) rfl (by decide) h
  · have h := h.2 c
    refine x_aload_n (dA D_X0_holds 145 rfl) rfl ?_
    refine x_get (v := vA 24) (dA D_X0_holds 146 rfl) fw_RX0_15 (sO_22 hM8) (congrArg (rfV G) (sR_22_2 hM8)) ?_
    refine x_iload (dA D_X0_holds 147 rfl) rfl ?_
    refine x_iconst (dA D_X0_holds 148 rfl) ?_
    refine x_isub (dA D_X0_holds 149 rfl) ?_
    refine x_lald (dA D_X0_holds 150 rfl) (sA_24 hM8 h1 h2) ?_
    refine x_ldc2 (a := (-1000000000)) (dA D_X0_holds 151 rfl) kl_RX0_63 (by decide) ?_
    refine x_lcmp_geP (tgt := 282) (dA D_X0_holds 152 rfl) (dA D_X0_holds 153 rfl) (by decide) h9 ⟨by decide, by decide⟩ ⟨fun c => ?_, fun c => ?_⟩
    · have h := h.1 c
      refine x_iinc (xs' := [vA 22, vA x1, vI x2, vI x3, vI (x4 + (-1)), vI x5, vI (x6 + 1), vI x7, vI x8, vU]) (dA D_X0_holds 156 rfl) rfl (by decide) rfl ?_
      refine x_goto (tgt := 9) (dA D_X0_holds 157 rfl) (by decide) ?_
      refine X.weak (xs' := [vA 22, vA x1, vI x2, vI x3, vI (x4 + (-1)), vI x5, vI (x6 + 1), vU, vU, vU]) ⟨Or.inl rfl, Or.inl rfl, Or.inl rfl, Or.inl rfl, Or.inl rfl, Or.inl rfl, Or.inl rfl, Or.inr rfl, Or.inr rfl, Or.inl rfl, trivial⟩ ?_
      exact h
    · have h := h.2 c
      refine x_iconst (dA D_X0_holds 154 rfl) ?_
      exact x_zreturn (dA D_X0_holds 155 rfl) rfl (by decide) h
set_option maxRecDepth 100000 in
theorem B_X0_tells_0 {G : GG} {d : Nat} {k n : Nat} {x1 : Int} {M : MM} {Q : PV → MM → Prop} (hd : 2 ≤ d) (hS : Sh M) (h : C G Y_X4_lawInForce (d - 1) 0 0 [vA 1] M (rA (fun r2 M1 => Sh M1 ∧ inR x1 ∧ ∀ v8, v8 = (if x1 ≠ 0 then 99 else 100) → ((r2 = -1 → Q (vI (if x1 ≠ 0 then 0 else 100)) M1) ∧ (¬ r2 = -1 → okO M1 r2 4 ∧ ∀ v14, v14 = (rd M1 r2 0) - 1 → X G Y_X0_tells d k n 32 [vA 22, vI x1, vA r2, vI v8, vI v14] [] M1 Q))))) : X G Y_X0_tells d k n 0 [vA 22, vI x1, vU, vU, vU] [] M Q := by
  have hd1 : 1 ≤ d := by omega
  refine x_aload_n (dA D_X0_tells 0 rfl) rfl ?_
  refine x_get (v := vA 1) (dA D_X0_tells 1 rfl) fw_RX0_19 (sO_22 hS) (congrArg (rfV G) (sR_22_0 hS)) ?_
  refine x_callV 3 [] [] (dA D_X0_tells 2 rfl) cw_RX0_23 rfl rfl (Nat.le_of_ble_eq_true rfl) (by decide) rfl hd1 (zk k) (zk n) (sO_1 hS) h (kA (fun r2 M1 h => ?_))
  obtain ⟨hM1, h⟩ := h
  refine x_astore_n (xs' := [vA 22, vI x1, vA r2, vU, vU]) (dA D_X0_tells 3 rfl) (by decide) rfl ?_
  refine x_iload_n (dA D_X0_tells 4 rfl) rfl ?_
  obtain ⟨h4, h⟩ := h
  have hJ : X G Y_X0_tells d k n 19 [vA 22, vI x1, vA r2, vU, vU] [vI (if x1 ≠ 0 then 99 else 100)] M1 Q := by
    refine x_nmI (fun v8 ev8 => ?_)
    have h := h v8 ev8
    refine x_istore_n (xs' := [vA 22, vI x1, vA r2, vI v8, vU]) (dA D_X0_tells 9 rfl) (by decide) rfl ?_
    refine x_aload_n (dA D_X0_tells 10 rfl) rfl ?_
    refine x_ifnull (tgt := 98) (dA D_X0_tells 11 rfl) (by decide) ⟨fun c => ?_, fun c => ?_⟩
    · have h := h.1 c
      refine x_iload_n (dA D_X0_tells 53 rfl) rfl ?_
      have hJ : X G Y_X0_tells d k n 108 [vA 22, vI x1, vA r2, vI v8, vU] [vI (if x1 ≠ 0 then 0 else 100)] M1 Q := by
        exact x_ireturn (dA D_X0_tells 58 rfl) rfl h
      refine x_if_neP (tgt := 107) (dA D_X0_tells 54 rfl) (by decide) h4 ⟨fun c9 => ?_, fun c9 => ?_⟩
      · refine x_iconst (dA D_X0_tells 57 rfl) ?_
        rw [if_pos c9] at hJ
        exact hJ
      · refine x_bipush (dA D_X0_tells 55 rfl) (by decide) (by decide) ?_
        refine x_goto (tgt := 108) (dA D_X0_tells 56 rfl) (by decide) ?_
        rw [if_neg (by first | omega | grind)] at hJ
        exact hJ
    · have h := h.2 c
      refine x_aload_n (dA D_X0_tells 12 rfl) rfl ?_
      obtain ⟨h13, h⟩ := h
      refine x_get (v := vI (rd M1 r2 0)) (dA D_X0_tells 13 rfl) fw_RX0_29 h13 rfl ?_
      refine x_iconst (dA D_X0_tells 14 rfl) ?_
      refine x_isub (dA D_X0_tells 15 rfl) ?_
      refine x_nmI (fun v14 ev14 => ?_)
      have h := h v14 ev14
      refine x_istore (xs' := [vA 22, vI x1, vA r2, vI v8, vI v14]) (dA D_X0_tells 16 rfl) (by decide) rfl ?_
      exact h
  refine x_if_neP (tgt := 17) (dA D_X0_tells 5 rfl) (by decide) h4 ⟨fun c3 => ?_, fun c3 => ?_⟩
  · refine x_bipush (dA D_X0_tells 8 rfl) (by decide) (by decide) ?_
    rw [if_pos c3] at hJ
    exact hJ
  · refine x_bipush (dA D_X0_tells 6 rfl) (by decide) (by decide) ?_
    refine x_goto (tgt := 19) (dA D_X0_tells 7 rfl) (by decide) ?_
    rw [if_neg (by first | omega | grind)] at hJ
    exact hJ
theorem C_X0_tells {G : GG} {d : Nat} {x1 : Int} {M : MM} {Q : PV → MM → Prop} (h : X G Y_X0_tells d 0 0 0 [vA 22, vI x1, vU, vU, vU] [] M Q) : C G Y_X0_tells d 0 0 [vA 22, vI x1] M Q := X.entry (by decide) (Nat.le_of_ble_eq_true rfl) rfl rfl rfl h
set_option maxRecDepth 100000 in
theorem B_X0_tells_32 {G : GG} {d : Nat} {k n : Nat} {x1 x2 x3 x4 : Int} {M : MM} {Q : PV → MM → Prop} (hd : 2 ≤ d) (hS : Sh M) (h : inR x4 ∧ ((x4 < 0 → inR x1 ∧ Q (vI (if x1 ≠ 0 then 0 else 100)) M) ∧ (0 ≤ x4 → okO M x2 4 ∧ okA M (rd M x2 1) 20 x4 ∧ inR (rd M (rd M x2 1) x4) ∧ inR x1 ∧ (((rd M (rd M x2 1) x4) ≠ x1 → X G Y_X0_tells d k n 32 [vA 22, vI x1, vA x2, vI x3, vI (x4 + (-1))] [] M Q) ∧ ((rd M (rd M x2 1) x4) = x1 → okA M (rd M x2 2) 20 x4 ∧ okA M (rd M x2 2) 20 (x4 + 1) ∧ C G Y_X0_holds (d - 1) 0 0 [vA 22, vA (rd M x2 3), vI (rd M (rd M x2 2) x4), vI (rd M (rd M x2 2) (x4 + 1))] M (rI (fun r14 M13 => Sh M13 ∧ inR r14 ∧ ((r14 = 0 → X G Y_X0_tells d k n 32 [vA 22, vI x1, vA x2, vI x3, vI (x4 + (-1))] [] M13 Q) ∧ (r14 ≠ 0 → inR x3 ∧ inL (rd M13 24 0) ∧ inL (if (rd M13 24 0) < x3 then (rd M13 24 0) else x3) ∧ Q (vI (if (if (rd M13 24 0) < x3 then (rd M13 24 0) else x3) < 0 then 0 else (if (rd M13 24 0) < x3 then (rd M13 24 0) else x3))) M13))))))))) : X G Y_X0_tells d k n 32 [vA 22, vI x1, vA x2, vI x3, vI x4] [] M Q := by
  have hd1 : 1 ≤ d := by omega
  refine x_iload (dA D_X0_tells 17 rfl) rfl ?_
  obtain ⟨h1, h⟩ := h
  refine x_if_ltP (tgt := 98) (dA D_X0_tells 18 rfl) (by decide) h1 ⟨fun c => ?_, fun c => ?_⟩
  · have h := h.1 c
    refine x_iload_n (dA D_X0_tells 53 rfl) rfl ?_
    obtain ⟨h3, h⟩ := h
    have hJ : X G Y_X0_tells d k n 108 [vA 22, vI x1, vA x2, vI x3, vI x4] [vI (if x1 ≠ 0 then 0 else 100)] M Q := by
      exact x_ireturn (dA D_X0_tells 58 rfl) rfl h
    refine x_if_neP (tgt := 107) (dA D_X0_tells 54 rfl) (by decide) h3 ⟨fun c2 => ?_, fun c2 => ?_⟩
    · refine x_iconst (dA D_X0_tells 57 rfl) ?_
      rw [if_pos c2] at hJ
      exact hJ
    · refine x_bipush (dA D_X0_tells 55 rfl) (by decide) (by decide) ?_
      refine x_goto (tgt := 108) (dA D_X0_tells 56 rfl) (by decide) ?_
      rw [if_neg (by first | omega | grind)] at hJ
      exact hJ
  · have h := h.2 c
    refine x_aload_n (dA D_X0_tells 19 rfl) rfl ?_
    obtain ⟨h7, h⟩ := h
    refine x_get (v := vA (rd M x2 1)) (dA D_X0_tells 20 rfl) fw_RX0_35 h7 rfl ?_
    refine x_iload (dA D_X0_tells 21 rfl) rfl ?_
    obtain ⟨h8, h⟩ := h
    refine x_iald (dA D_X0_tells 22 rfl) h8 ?_
    refine x_iload_n (dA D_X0_tells 23 rfl) rfl ?_
    obtain ⟨h9, h⟩ := h
    obtain ⟨h10, h⟩ := h
    refine x_icmp_neP (tgt := 92) (dA D_X0_tells 24 rfl) (by decide) h9 h10 ⟨fun c => ?_, fun c => ?_⟩
    · have h := h.1 c
      refine x_iinc (xs' := [vA 22, vI x1, vA x2, vI x3, vI (x4 + (-1))]) (dA D_X0_tells 51 rfl) rfl (by decide) rfl ?_
      refine x_goto (tgt := 32) (dA D_X0_tells 52 rfl) (by decide) ?_
      exact h
    · have h := h.2 c
      refine x_aload_n (dA D_X0_tells 25 rfl) rfl ?_
      refine x_aload_n (dA D_X0_tells 26 rfl) rfl ?_
      refine x_get (v := vA (rd M x2 3)) (dA D_X0_tells 27 rfl) fw_RX0_38 h7 rfl ?_
      refine x_aload_n (dA D_X0_tells 28 rfl) rfl ?_
      refine x_get (v := vA (rd M x2 2)) (dA D_X0_tells 29 rfl) fw_RX0_41 h7 rfl ?_
      refine x_iload (dA D_X0_tells 30 rfl) rfl ?_
      obtain ⟨h11, h⟩ := h
      refine x_iald (dA D_X0_tells 31 rfl) h11 ?_
      refine x_aload_n (dA D_X0_tells 32 rfl) rfl ?_
      refine x_get (v := vA (rd M x2 2)) (dA D_X0_tells 33 rfl) fw_RX0_41 h7 rfl ?_
      refine x_iload (dA D_X0_tells 34 rfl) rfl ?_
      refine x_iconst (dA D_X0_tells 35 rfl) ?_
      refine x_iadd (dA D_X0_tells 36 rfl) ?_
      obtain ⟨h12, h⟩ := h
      refine x_iald (dA D_X0_tells 37 rfl) h12 ?_
      refine x_callV 0 [vA (rd M x2 3), vI (rd M (rd M x2 2) x4), vI (rd M (rd M x2 2) (x4 + 1))] [] (dA D_X0_tells 38 rfl) cw_RX0_44 rfl rfl (Nat.le_of_ble_eq_true rfl) (by decide) rfl hd1 (zk k) (zk n) (sO_22 hS) h (kI (fun r14 M13 h => ?_))
      obtain ⟨hM13, h⟩ := h
      obtain ⟨h15, h⟩ := h
      refine x_if_eqP (tgt := 92) (dA D_X0_tells 39 rfl) (by decide) h15 ⟨fun c => ?_, fun c => ?_⟩
      · have h := h.1 c
        refine x_iinc (xs' := [vA 22, vI x1, vA x2, vI x3, vI (x4 + (-1))]) (dA D_X0_tells 51 rfl) rfl (by decide) rfl ?_
        refine x_goto (tgt := 32) (dA D_X0_tells 52 rfl) (by decide) ?_
        exact h
      · have h := h.2 c
        refine x_lconst (a := 0) (dA D_X0_tells 40 rfl) (by decide) ?_
        refine x_iload_n (dA D_X0_tells 41 rfl) rfl ?_
        obtain ⟨h16, h⟩ := h
        refine x_i2l (dA D_X0_tells 42 rfl) h16 ?_
        refine x_aload_n (dA D_X0_tells 43 rfl) rfl ?_
        refine x_get (v := vA 24) (dA D_X0_tells 44 rfl) fw_RX0_15 (sO_22 hM13) (congrArg (rfV G) (sR_22_2 hM13)) ?_
        refine x_iconst (dA D_X0_tells 45 rfl) ?_
        refine x_lald (dA D_X0_tells 46 rfl) (sA_24 hM13 (by decide) (by decide)) ?_
        obtain ⟨h17, h⟩ := h
        refine x_mminL [vL 0] (dA D_X0_tells 47 rfl) ml_RX0_48 (Nat.le_of_ble_eq_true rfl) hd1 (inR_L h16) h17 ?_
        obtain ⟨h18, h⟩ := h
        refine x_mmaxL [] (dA D_X0_tells 48 rfl) ml_RX0_54 (Nat.le_of_ble_eq_true rfl) hd1 ⟨by decide, by decide⟩ h18 ?_
        refine x_l2i (dA D_X0_tells 49 rfl) ?_
        exact x_ireturn (dA D_X0_tells 50 rfl) rfl h
