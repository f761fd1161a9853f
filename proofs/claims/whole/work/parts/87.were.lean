set_option maxRecDepth 100000 in
theorem B_X1_isWay_0 {G : GG} {d : Nat} {k n : Nat} {x0 x1 : Int} {M : MM} {Q : PV → MM → Prop} (hd : 1 ≤ d) (h : inR x0 ∧ inR x1 ∧ inR (x1 - x0) ∧ Q (vI (if (x0 ≤ x1) ∧ ((x1 - x0) ≤ 5) then 1 else 0)) M) : X G Y_X1_isWay d k n 0 [vI x0, vI x1] [] M Q := by
  have hd1 : 1 ≤ d := by omega
  refine x_iload_n (dA D_X1_isWay 0 rfl) rfl ?_
  refine x_iload_n (dA D_X1_isWay 1 rfl) rfl ?_
  obtain ⟨h2, h⟩ := h
  obtain ⟨h3, h⟩ := h
  obtain ⟨h10, h⟩ := h
  have hJ : X G Y_X1_isWay d k n 17 [vI x0, vI x1] [vI (if (x0 ≤ x1) ∧ ((x1 - x0) ≤ 5) then 1 else 0)] M Q := by
    exact x_zreturn (dA D_X1_isWay 11 rfl) rfl (by split <;> decide) h
  refine x_icmp_gtP (tgt := 16) (dA D_X1_isWay 2 rfl) (by decide) h2 h3 ⟨fun c1 => ?_, fun c1 => ?_⟩
  · refine x_iconst (dA D_X1_isWay 10 rfl) ?_
    have e0 : (if (x0 ≤ x1) ∧ ((x1 - x0) ≤ 5) then (1 : Int) else 0) = 0 := if_neg (by first | omega | grind)
    rw [e0] at hJ
    exact hJ
  · refine x_iload_n (dA D_X1_isWay 3 rfl) rfl ?_
    refine x_iload_n (dA D_X1_isWay 4 rfl) rfl ?_
    refine x_isub (dA D_X1_isWay 5 rfl) ?_
    refine x_iconst (dA D_X1_isWay 6 rfl) ?_
    refine x_icmp_gtP (tgt := 16) (dA D_X1_isWay 7 rfl) (by decide) h10 ⟨by decide, by decide⟩ ⟨fun c9 => ?_, fun c9 => ?_⟩
    · refine x_iconst (dA D_X1_isWay 10 rfl) ?_
      have e0 : (if (x0 ≤ x1) ∧ ((x1 - x0) ≤ 5) then (1 : Int) else 0) = 0 := if_neg (by first | omega | grind)
      rw [e0] at hJ
      exact hJ
    · refine x_iconst (dA D_X1_isWay 8 rfl) ?_
      refine x_goto (tgt := 17) (dA D_X1_isWay 9 rfl) (by decide) ?_
      have e0 : (if (x0 ≤ x1) ∧ ((x1 - x0) ≤ 5) then (1 : Int) else 0) = 1 := if_pos (by first | omega | grind)
      rw [e0] at hJ
      exact hJ
theorem C_X1_isWay {G : GG} {d : Nat} {x0 x1 : Int} {M : MM} {Q : PV → MM → Prop} (h : X G Y_X1_isWay d 0 0 0 [vI x0, vI x1] [] M Q) : C G Y_X1_isWay d 0 0 [vI x0, vI x1] M Q := X.entry (by decide) (Nat.le_of_ble_eq_true rfl) rfl rfl rfl h
theorem S_X1_isWay {G : GG} {d : Nat} {x0 x1 : Int} {M : MM} {Q : PV → MM → Prop} (h0 : inR x0) (h1 : inR x1) (h2 : inR (x1 - x0)) (hd : 1 ≤ d) (h : Q (vI (if (x0 ≤ x1) ∧ ((x1 - x0) ≤ 5) then 1 else 0)) M) : C G Y_X1_isWay d 0 0 [vI x0, vI x1] M Q := C_X1_isWay (B_X1_isWay_0 hd ⟨h0, h1, h2, h⟩)
set_option maxRecDepth 100000 in
theorem B_X1_begin_0 {G : GG} {d : Nat} {k n : Nat} {x1 : Int} {M : MM} {Q : PV → MM → Prop} (hd : 2 ≤ d) (hS : Sh M) (h : fill1 M (52 : Int) 21 ∧ ∀ M2, (∃ len : Int, (mT M (52 : Int)).2 = len ∧ Ch M M2 (52 : Int) 0 len.toNat ∧ ∀ i : Int, 0 ≤ i → i < len → rd M2 (52 : Int) i = (0 : Int)) → Sh M2 → X G Y_X1_begin d k n 10 [vA 51, vI x1, vI 0] [] M2 Q) : X G Y_X1_begin d k n 0 [vA 51, vI x1, vU] [] M Q := by
  have hd1 : 1 ≤ d := by omega
  refine x_aload_n (dA D_X1_begin 0 rfl) rfl ?_
  refine x_get (v := vA 52) (dA D_X1_begin 1 rfl) fw_RX1_13 (sO_51 hS) (congrArg (rfV G) (sR_51_2 hS)) ?_
  refine x_lconst (a := 0) (dA D_X1_begin 2 rfl) (by decide) ?_
  obtain ⟨h1, h⟩ := h
  refine x_callS [vA 52, vL 0] [] (dA D_X1_begin 3 rfl) cw_RX1_66 rfl rfl (Nat.le_of_ble_eq_true rfl) hd1 (zk k) (zk n) (T_fillL hS h1 (by omega) (fun M2 p4 hM2 => ?_)) (kU (fun _ h => h))
  have h := h M2 p4 hM2
  show X G Y_X1_begin d k n 8 [vA 51, vI x1, vU] [] M2 Q
  refine x_iconst (dA D_X1_begin 4 rfl) ?_
  refine x_istore_n (xs' := [vA 51, vI x1, vI 0]) (dA D_X1_begin 5 rfl) (by decide) rfl ?_
  exact h
theorem C_X1_begin {G : GG} {d : Nat} {x1 : Int} {M : MM} {Q : PV → MM → Prop} (h : X G Y_X1_begin d 0 0 0 [vA 51, vI x1, vU] [] M Q) : C G Y_X1_begin d 0 0 [vA 51, vI x1] M Q := X.entry (by decide) (Nat.le_of_ble_eq_true rfl) rfl rfl rfl h
set_option maxRecDepth 100000 in
theorem B_X1_begin_10 {G : GG} {d : Nat} {k n : Nat} {x1 x2 : Int} {M : MM} {Q : PV → MM → Prop} (hd : 2 ≤ d) (hS : Sh M) (h : inR x2 ∧ ((6 ≤ x2 → Q vU M) ∧ (x2 < 6 → inR x1 ∧ inR (x1 - x2) ∧ ((¬ ((x2 ≤ x1) ∧ ((x1 - x2) ≤ 5)) → X G Y_X1_begin d k n 10 [vA 51, vI x1, vI (x2 + 1)] [] M Q) ∧ ((x2 ≤ x1) ∧ ((x1 - x2) ≤ 5) → 0 ≤ (x2 * 14) ∧ (x2 * 14) < 84 ∧ ∀ M6, M6 = wr M 52 (x2 * 14) 1 → Sh M6 → X G Y_X1_begin d k n 10 [vA 51, vI x1, vI (x2 + 1)] [] M6 Q))))) : X G Y_X1_begin d k n 10 [vA 51, vI x1, vI x2] [] M Q := by
  have hd1 : 1 ≤ d := by omega
  refine x_iload_n (dA D_X1_begin 6 rfl) rfl ?_
  refine x_bipush (dA D_X1_begin 7 rfl) (by decide) (by decide) ?_
  obtain ⟨h1, h⟩ := h
  refine x_icmp_geP (tgt := 40) (dA D_X1_begin 8 rfl) (by decide) h1 ⟨by decide, by decide⟩ ⟨fun c => ?_, fun c => ?_⟩
  · have h := h.1 c
    exact x_return (dA D_X1_begin 22 rfl) rfl h
  · have h := h.2 c
    refine x_iload_n (dA D_X1_begin 9 rfl) rfl ?_
    refine x_iload_n (dA D_X1_begin 10 rfl) rfl ?_
    obtain ⟨h2, h⟩ := h
    obtain ⟨h3, h⟩ := h
    refine x_callS [vI x2, vI x1] [] (dA D_X1_begin 11 rfl) cw_RX1_88 rfl rfl (Nat.le_of_ble_eq_true rfl) hd1 (zk k) (zk n) (S_X1_isWay h1 h2 h3 (by omega) ?_) (kI (fun _ _ h => h))
    show X G Y_X1_begin d k n 21 [vA 51, vI x1, vI x2] [vI (if (x2 ≤ x1) ∧ ((x1 - x2) ≤ 5) then 1 else 0)] M Q
    refine x_if_eqB (tgt := 34) (dA D_X1_begin 12 rfl) (by decide) ⟨fun c => ?_, fun c => ?_⟩
    · have h := h.1 c
      refine x_iinc (xs' := [vA 51, vI x1, vI (x2 + 1)]) (dA D_X1_begin 20 rfl) rfl (by decide) rfl ?_
      refine x_goto (tgt := 10) (dA D_X1_begin 21 rfl) (by decide) ?_
      exact h
    · have h := h.2 c
      refine x_aload_n (dA D_X1_begin 13 rfl) rfl ?_
      refine x_get (v := vA 52) (dA D_X1_begin 14 rfl) fw_RX1_13 (sO_51 hS) (congrArg (rfV G) (sR_51_2 hS)) ?_
      refine x_iload_n (dA D_X1_begin 15 rfl) rfl ?_
      refine x_bipush (dA D_X1_begin 16 rfl) (by decide) (by decide) ?_
      refine x_imul (dA D_X1_begin 17 rfl) ?_
      refine x_lconst (a := 1) (dA D_X1_begin 18 rfl) (by decide) ?_
      obtain ⟨h4, h⟩ := h
      obtain ⟨h5, h⟩ := h
      refine x_last (dA D_X1_begin 19 rfl) (sA_52 hS h4 h5) ?_
      refine x_nmM (fun M6 eM6 => ?_)
      have hM6 : Sh M6 := eM6 ▸ (sW_52 hS)
      have h := h M6 eM6 hM6
      refine x_iinc (xs' := [vA 51, vI x1, vI (x2 + 1)]) (dA D_X1_begin 20 rfl) rfl (by decide) rfl ?_
      refine x_goto (tgt := 10) (dA D_X1_begin 21 rfl) (by decide) ?_
      exact h
set_option maxRecDepth 100000 in
theorem B_X1_addWays_0 {G : GG} {d : Nat} {k n : Nat} {x1 x2 x3 : Int} {M : MM} {Q : PV → MM → Prop} (hd : 2 ≤ d) (hS : Sh M) (h : fill1 M (54 : Int) 21 ∧ ∀ M2, (∃ len : Int, (mT M (54 : Int)).2 = len ∧ Ch M M2 (54 : Int) 0 len.toNat ∧ ∀ i : Int, 0 ≤ i → i < len → rd M2 (54 : Int) i = (0 : Int)) → Sh M2 → X G Y_X1_addWays d k n 11 [vA 51, vI x1, vI x2, vI x3, vI 0, vU] [] M2 Q) : X G Y_X1_addWays d k n 0 [vA 51, vI x1, vI x2, vI x3, vU, vU] [] M Q := by
  have hd1 : 1 ≤ d := by omega
  refine x_aload_n (dA D_X1_addWays 0 rfl) rfl ?_
  refine x_get (v := vA 54) (dA D_X1_addWays 1 rfl) fw_RX1_20 (sO_51 hS) (congrArg (rfV G) (sR_51_4 hS)) ?_
  refine x_lconst (a := 0) (dA D_X1_addWays 2 rfl) (by decide) ?_
  obtain ⟨h1, h⟩ := h
  refine x_callS [vA 54, vL 0] [] (dA D_X1_addWays 3 rfl) cw_RX1_66 rfl rfl (Nat.le_of_ble_eq_true rfl) hd1 (zk k) (zk n) (T_fillL hS h1 (by omega) (fun M2 p4 hM2 => ?_)) (kU (fun _ h => h))
  have h := h M2 p4 hM2
  show X G Y_X1_addWays d k n 8 [vA 51, vI x1, vI x2, vI x3, vU, vU] [] M2 Q
  refine x_iconst (dA D_X1_addWays 4 rfl) ?_
  refine x_istore (xs' := [vA 51, vI x1, vI x2, vI x3, vI 0, vU]) (dA D_X1_addWays 5 rfl) (by decide) rfl ?_
  exact h
theorem C_X1_addWays {G : GG} {d : Nat} {x1 x2 x3 : Int} {M : MM} {Q : PV → MM → Prop} (h : X G Y_X1_addWays d 0 0 0 [vA 51, vI x1, vI x2, vI x3, vU, vU] [] M Q) : C G Y_X1_addWays d 0 0 [vA 51, vI x1, vI x2, vI x3] M Q := X.entry (by decide) (Nat.le_of_ble_eq_true rfl) rfl rfl rfl h
set_option maxRecDepth 100000 in
theorem B_X1_addWays_11 {G : GG} {d : Nat} {k n : Nat} {x1 x2 x3 x4 : Int} {M : MM} {Q : PV → MM → Prop} (hd : 2 ≤ d) (hS : Sh M) (h : inR x4 ∧ inR x1 ∧ ((x1 < x4 → Ar M (54 : Int) 0 14 ∧ ((∀ i : Int, 0 ≤ i → i < 14 → 0 ≤ rd M (54 : Int) i ∧ rd M (54 : Int) i ≤ 4000000000000000000)) ∧ vl (rd M (54 : Int)) 0 14 < Bp 14 ∧ ∀ M6, (Ch M M6 (54 : Int) 0 14 ∧ nrm (rd M6 (54 : Int)) 0 14 ∧ vl (rd M6 (54 : Int)) 0 14 = vl (rd M (54 : Int)) 0 14) → Sh M6 → Q vU M6) ∧ (x4 ≤ x1 → ∀ v9, v9 = x3 - x4 → inR v9 ∧ inR x2 ∧ ((((v9 < 0) ∨ (x2 < v9)) → X G Y_X1_addWays d k n 11 [vA 51, vI x1, vI x2, vI x3, vI (x4 + 1), vU] [] M Q) ∧ (¬ ((v9 < 0) ∨ (x2 < v9)) → fill1 M (55 : Int) 21 ∧ ∀ M22, (∃ len : Int, (mT M (55 : Int)).2 = len ∧ Ch M M22 (55 : Int) 0 len.toNat ∧ ∀ i : Int, 0 ≤ i → i < len → rd M22 (55 : Int) i = (0 : Int)) → Sh M22 → 0 ≤ v9 ∧ v9 < 6 ∧ (0 ≤ (14 : Int) ∧ (14 : Int) ≤ 14) ∧ Ar M22 (55 : Int) 0 ((14 : Int)).toNat ∧ Ar M22 (53 : Int) (x4 * 14) ((14 : Int)).toNat ∧ (55 : Int) ≠ (53 : Int) ∧ ∀ M31, (Ch M22 M31 (55 : Int) 0 ((14 : Int)).toNat ∧ ∀ i : Int, 0 ≤ i → i < (14 : Int) → rd M31 (55 : Int) i = rd M22 (55 : Int) i + rd M22 (53 : Int) ((x4 * 14) + i) * (rd M22 58 v9)) → Sh M31 → Ar M31 (55 : Int) 0 14 ∧ ((∀ i : Int, 0 ≤ i → i < 14 → 0 ≤ rd M31 (55 : Int) i ∧ rd M31 (55 : Int) i ≤ 4000000000000000000)) ∧ vl (rd M31 (55 : Int)) 0 14 < Bp 14 ∧ ∀ M37, (Ch M31 M37 (55 : Int) 0 14 ∧ nrm (rd M37 (55 : Int)) 0 14 ∧ vl (rd M37 (55 : Int)) 0 14 = vl (rd M31 (55 : Int)) 0 14) → Sh M37 → 0 ≤ x4 ∧ x4 < 6 ∧ Ar M37 (54 : Int) 0 ((14 : Int)).toNat ∧ Ar M37 (55 : Int) (0 : Int) ((14 : Int)).toNat ∧ (54 : Int) ≠ (55 : Int) ∧ ∀ M45, (Ch M37 M45 (54 : Int) 0 ((14 : Int)).toNat ∧ ∀ i : Int, 0 ≤ i → i < (14 : Int) → rd M45 (54 : Int) i = rd M37 (54 : Int) i + rd M37 (55 : Int) ((0 : Int) + i) * (rd M37 57 x4)) → Sh M45 → X G Y_X1_addWays d k n 11 [vA 51, vI x1, vI x2, vI x3, vI (x4 + 1), vU] [] M45 Q))))) : X G Y_X1_addWays d k n 11 [vA 51, vI x1, vI x2, vI x3, vI x4, vU] [] M Q := by
  have hd1 : 1 ≤ d := by omega
  refine x_iload (dA D_X1_addWays 6 rfl) rfl ?_
  refine x_iload_n (dA D_X1_addWays 7 rfl) rfl ?_
  obtain ⟨h1, h⟩ := h
  obtain ⟨h2, h⟩ := h
  refine x_icmp_gtP (tgt := 104) (dA D_X1_addWays 8 rfl) (by decide) h1 h2 ⟨fun c => ?_, fun c => ?_⟩
  · have h := h.1 c
    refine x_aload_n (dA D_X1_addWays 52 rfl) rfl ?_
    refine x_get (v := vA 54) (dA D_X1_addWays 53 rfl) fw_RX1_20 (sO_51 hS) (congrArg (rfV G) (sR_51_4 hS)) ?_
    obtain ⟨h3, h⟩ := h
    obtain ⟨h4, h⟩ := h
    obtain ⟨h5, h⟩ := h
    refine x_callS [vA 54] [] (dA D_X1_addWays 54 rfl) cw_RX1_76 rfl rfl (Nat.le_of_ble_eq_true rfl) hd1 (zk k) (zk n) (T_X2_carry hS h3 h4 h5 (by omega) (fun M6 p8 hM6 => ?_)) (kU (fun _ h => h))
    have h := h M6 p8 hM6
    show X G Y_X1_addWays d k n 111 [vA 51, vI x1, vI x2, vI x3, vI x4, vU] [] M6 Q
    exact x_return (dA D_X1_addWays 55 rfl) rfl h
  · have h := h.2 c
    refine x_iload_n (dA D_X1_addWays 9 rfl) rfl ?_
    refine x_iload (dA D_X1_addWays 10 rfl) rfl ?_
    refine x_isub (dA D_X1_addWays 11 rfl) ?_
    refine x_nmI (fun v9 ev9 => ?_)
    have h := h v9 ev9
    refine x_istore (xs' := [vA 51, vI x1, vI x2, vI x3, vI x4, vI v9]) (dA D_X1_addWays 12 rfl) (by decide) rfl ?_
    refine x_iload (dA D_X1_addWays 13 rfl) rfl ?_
    obtain ⟨h11, h⟩ := h
    obtain ⟨h15, h⟩ := h
    have hA : ((v9 < 0) ∨ (x2 < v9)) → X G Y_X1_addWays d k n 98 [vA 51, vI x1, vI x2, vI x3, vI x4, vI v9] [] M Q := by
      intro c48
      have h := h.1 c48
      refine x_iinc (xs' := [vA 51, vI x1, vI x2, vI x3, vI (x4 + 1), vI v9]) (dA D_X1_addWays 50 rfl) rfl (by decide) rfl ?_
      refine x_goto (tgt := 11) (dA D_X1_addWays 51 rfl) (by decide) ?_
      refine X.weak (xs' := [vA 51, vI x1, vI x2, vI x3, vI (x4 + 1), vU]) ⟨Or.inl rfl, Or.inl rfl, Or.inl rfl, Or.inl rfl, Or.inl rfl, Or.inr rfl, trivial⟩ ?_
      exact h
    have hB : ¬ ((v9 < 0) ∨ (x2 < v9)) → X G Y_X1_addWays d k n 37 [vA 51, vI x1, vI x2, vI x3, vI x4, vI v9] [] M Q := by
      intro c48
      have h := h.2 c48
      refine x_aload_n (dA D_X1_addWays 19 rfl) rfl ?_
      refine x_get (v := vA 55) (dA D_X1_addWays 20 rfl) fw_RX1_23 (sO_51 hS) (congrArg (rfV G) (sR_51_5 hS)) ?_
      refine x_lconst (a := 0) (dA D_X1_addWays 21 rfl) (by decide) ?_
      obtain ⟨h21, h⟩ := h
      refine x_callS [vA 55, vL 0] [] (dA D_X1_addWays 22 rfl) cw_RX1_66 rfl rfl (Nat.le_of_ble_eq_true rfl) hd1 (zk k) (zk n) (T_fillL hS h21 (by omega) (fun M22 p24 hM22 => ?_)) (kU (fun _ h => h))
      have h := h M22 p24 hM22
      show X G Y_X1_addWays d k n 45 [vA 51, vI x1, vI x2, vI x3, vI x4, vI v9] [] M22 Q
      refine x_aload_n (dA D_X1_addWays 23 rfl) rfl ?_
      refine x_get (v := vA 55) (dA D_X1_addWays 24 rfl) fw_RX1_23 (sO_51 hM22) (congrArg (rfV G) (sR_51_5 hM22)) ?_
      refine x_aload_n (dA D_X1_addWays 25 rfl) rfl ?_
      refine x_get (v := vA 53) (dA D_X1_addWays 26 rfl) fw_RX1_17 (sO_51 hM22) (congrArg (rfV G) (sR_51_3 hM22)) ?_
      refine x_iload (dA D_X1_addWays 27 rfl) rfl ?_
      refine x_bipush (dA D_X1_addWays 28 rfl) (by decide) (by decide) ?_
      refine x_imul (dA D_X1_addWays 29 rfl) ?_
      refine x_bipush (dA D_X1_addWays 30 rfl) (by decide) (by decide) ?_
      refine x_aload_n (dA D_X1_addWays 31 rfl) rfl ?_
      refine x_get (v := vA 58) (dA D_X1_addWays 32 rfl) fw_RX1_32 (sO_51 hM22) (congrArg (rfV G) (sR_51_8 hM22)) ?_
      refine x_iload (dA D_X1_addWays 33 rfl) rfl ?_
      obtain ⟨h25, h⟩ := h
      obtain ⟨h26, h⟩ := h
      refine x_lald (dA D_X1_addWays 34 rfl) (sA_58 hM22 h25 h26) ?_
      obtain ⟨h27, h⟩ := h
      obtain ⟨h28, h⟩ := h
      obtain ⟨h29, h⟩ := h
      obtain ⟨h30, h⟩ := h
      refine x_callS [vA 55, vA 53, vI (x4 * 14), vI 14, vL (rd M22 58 v9)] [] (dA D_X1_addWays 35 rfl) cw_RX1_72 rfl rfl (Nat.le_of_ble_eq_true rfl) hd1 (zk k) (zk n) (T_X2_addTimes hM22 h27 h28 h29 h30 (by omega) (fun M31 p33 hM31 => ?_)) (kU (fun _ h => h))
      have h := h M31 p33 hM31
      show X G Y_X1_addWays d k n 70 [vA 51, vI x1, vI x2, vI x3, vI x4, vI v9] [] M31 Q
      refine x_aload_n (dA D_X1_addWays 36 rfl) rfl ?_
      refine x_get (v := vA 55) (dA D_X1_addWays 37 rfl) fw_RX1_23 (sO_51 hM31) (congrArg (rfV G) (sR_51_5 hM31)) ?_
      obtain ⟨h34, h⟩ := h
      obtain ⟨h35, h⟩ := h
      obtain ⟨h36, h⟩ := h
      refine x_callS [vA 55] [] (dA D_X1_addWays 38 rfl) cw_RX1_76 rfl rfl (Nat.le_of_ble_eq_true rfl) hd1 (zk k) (zk n) (T_X2_carry hM31 h34 h35 h36 (by omega) (fun M37 p39 hM37 => ?_)) (kU (fun _ h => h))
      have h := h M37 p39 hM37
      show X G Y_X1_addWays d k n 77 [vA 51, vI x1, vI x2, vI x3, vI x4, vI v9] [] M37 Q
      refine x_aload_n (dA D_X1_addWays 39 rfl) rfl ?_
      refine x_get (v := vA 54) (dA D_X1_addWays 40 rfl) fw_RX1_20 (sO_51 hM37) (congrArg (rfV G) (sR_51_4 hM37)) ?_
      refine x_aload_n (dA D_X1_addWays 41 rfl) rfl ?_
      refine x_get (v := vA 55) (dA D_X1_addWays 42 rfl) fw_RX1_23 (sO_51 hM37) (congrArg (rfV G) (sR_51_5 hM37)) ?_
      refine x_iconst (dA D_X1_addWays 43 rfl) ?_
      refine x_bipush (dA D_X1_addWays 44 rfl) (by decide) (by decide) ?_
      refine x_aload_n (dA D_X1_addWays 45 rfl) rfl ?_
      refine x_get (v := vA 57) (dA D_X1_addWays 46 rfl) fw_RX1_29 (sO_51 hM37) (congrArg (rfV G) (sR_51_7 hM37)) ?_
      refine x_iload (dA D_X1_addWays 47 rfl) rfl ?_
      obtain ⟨h40, h⟩ := h
      obtain ⟨h41, h⟩ := h
      refine x_lald (dA D_X1_addWays 48 rfl) (sA_57 hM37 h40 h41) ?_
      obtain ⟨h42, h⟩ := h
      obtain ⟨h43, h⟩ := h
      obtain ⟨h44, h⟩ := h
      refine x_callS [vA 54, vA 55, vI 0, vI 14, vL (rd M37 57 x4)] [] (dA D_X1_addWays 49 rfl) cw_RX1_72 rfl rfl (Nat.le_of_ble_eq_true rfl) hd1 (zk k) (zk n) (T_X2_addTimes hM37 h27 h42 h43 h44 (by omega) (fun M45 p47 hM45 => ?_)) (kU (fun _ h => h))
      have h := h M45 p47 hM45
      show X G Y_X1_addWays d k n 98 [vA 51, vI x1, vI x2, vI x3, vI x4, vI v9] [] M45 Q
      refine x_iinc (xs' := [vA 51, vI x1, vI x2, vI x3, vI (x4 + 1), vI v9]) (dA D_X1_addWays 50 rfl) rfl (by decide) rfl ?_
      refine x_goto (tgt := 11) (dA D_X1_addWays 51 rfl) (by decide) ?_
      refine X.weak (xs' := [vA 51, vI x1, vI x2, vI x3, vI (x4 + 1), vU]) ⟨Or.inl rfl, Or.inl rfl, Or.inl rfl, Or.inl rfl, Or.inl rfl, Or.inr rfl, trivial⟩ ?_
      exact h
    refine x_if_ltP (tgt := 98) (dA D_X1_addWays 14 rfl) (by decide) h11 ⟨fun c10 => ?_, fun c10 => ?_⟩
    · exact hA (by first | omega | grind)
    · refine x_iload (dA D_X1_addWays 15 rfl) rfl ?_
      refine x_iload_n (dA D_X1_addWays 16 rfl) rfl ?_
      refine x_icmp_leP (tgt := 37) (dA D_X1_addWays 17 rfl) (by decide) h11 h15 ⟨fun c14 => ?_, fun c14 => ?_⟩
      · exact hB (by first | omega | grind)
      · refine x_goto (tgt := 98) (dA D_X1_addWays 18 rfl) (by decide) ?_
        exact hA (by first | omega | grind)
set_option maxRecDepth 100000 in
theorem B_X1_stepBack_0 {G : GG} {d : Nat} {k n : Nat} {x1 : Int} {M : MM} {Q : PV → MM → Prop} (hd : 1 ≤ d) (hS : Sh M) (h : inR x1 ∧ ((x1 ≠ 0 → 0 ≤ (x1 - 1) ∧ (x1 - 1) < 5 ∧ ∀ v4, v4 = rd M 12 (x1 - 1) → X G Y_X1_stepBack d k n 25 [vA 51, vI x1, vI v4, vI 0, vI 0, vU] [] M Q) ∧ (x1 = 0 → X G Y_X1_stepBack d k n 25 [vA 51, vI x1, vI (-1), vI 0, vI 0, vU] [] M Q))) : X G Y_X1_stepBack d k n 0 [vA 51, vI x1, vU, vU, vU, vU] [] M Q := by
  have hd1 : 1 ≤ d := by omega
  refine x_iload_n (dA D_X1_stepBack 0 rfl) rfl ?_
  obtain ⟨h1, h⟩ := h
  refine x_if_neP (tgt := 8) (dA D_X1_stepBack 1 rfl) (by decide) h1 ⟨fun c => ?_, fun c => ?_⟩
  · have h := h.1 c
    refine x_aload_n (dA D_X1_stepBack 4 rfl) rfl ?_
    refine x_get (v := vA 1) (dA D_X1_stepBack 5 rfl) fw_RX1_35 (sO_51 hS) (congrArg (rfV G) (sR_51_0 hS)) ?_
    refine x_get (v := vA 12) (dA D_X1_stepBack 6 rfl) fw_RX1_92 (sO_1 hS) (congrArg (rfV G) (sR_1_15 hS)) ?_
    refine x_iload_n (dA D_X1_stepBack 7 rfl) rfl ?_
    refine x_iconst (dA D_X1_stepBack 8 rfl) ?_
    refine x_isub (dA D_X1_stepBack 9 rfl) ?_
    obtain ⟨h2, h⟩ := h
    obtain ⟨h3, h⟩ := h
    refine x_iald (dA D_X1_stepBack 10 rfl) (sA_12 hS h2 h3) ?_
    refine x_nmI (fun v4 ev4 => ?_)
    have h := h v4 ev4
    refine x_istore_n (xs' := [vA 51, vI x1, vI v4, vU, vU, vU]) (dA D_X1_stepBack 11 rfl) (by decide) rfl ?_
    refine x_iconst (dA D_X1_stepBack 12 rfl) ?_
    refine x_istore_n (xs' := [vA 51, vI x1, vI v4, vI 0, vU, vU]) (dA D_X1_stepBack 13 rfl) (by decide) rfl ?_
    refine x_iconst (dA D_X1_stepBack 14 rfl) ?_
    refine x_istore (xs' := [vA 51, vI x1, vI v4, vI 0, vI 0, vU]) (dA D_X1_stepBack 15 rfl) (by decide) rfl ?_
    exact h
  · have h := h.2 c
    refine x_iconst (dA D_X1_stepBack 2 rfl) ?_
    refine x_goto (tgt := 19) (dA D_X1_stepBack 3 rfl) (by decide) ?_
    refine x_istore_n (xs' := [vA 51, vI x1, vI (-1), vU, vU, vU]) (dA D_X1_stepBack 11 rfl) (by decide) rfl ?_
    refine x_iconst (dA D_X1_stepBack 12 rfl) ?_
    refine x_istore_n (xs' := [vA 51, vI x1, vI (-1), vI 0, vU, vU]) (dA D_X1_stepBack 13 rfl) (by decide) rfl ?_
    refine x_iconst (dA D_X1_stepBack 14 rfl) ?_
    refine x_istore (xs' := [vA 51, vI x1, vI (-1), vI 0, vI 0, vU]) (dA D_X1_stepBack 15 rfl) (by decide) rfl ?_
    exact h
theorem C_X1_stepBack {G : GG} {d : Nat} {x1 : Int} {M : MM} {Q : PV → MM → Prop} (h : X G Y_X1_stepBack d 0 0 0 [vA 51, vI x1, vU, vU, vU, vU] [] M Q) : C G Y_X1_stepBack d 0 0 [vA 51, vI x1] M Q := X.entry (by decide) (Nat.le_of_ble_eq_true rfl) rfl rfl rfl h
set_option maxRecDepth 100000 in
theorem B_X1_stepBack_25 {G : GG} {d : Nat} {k n : Nat} {x1 x2 x3 x4 : Int} {M : MM} {Q : PV → MM → Prop} (hd : 2 ≤ d) (hS : Sh M) (h : inR x4 ∧ inR x1 ∧ ((x1 ≤ x4 → fill1 M (52 : Int) 21 ∧ ∀ M4, (∃ len : Int, (mT M (52 : Int)).2 = len ∧ Ch M M4 (52 : Int) 0 len.toNat ∧ ∀ i : Int, 0 ≤ i → i < len → rd M4 (52 : Int) i = (0 : Int)) → Sh M4 → X G Y_X1_stepBack d k n 69 [vA 51, vI x1, vI x2, vI x3, vI 0, vU] [] M4 Q) ∧ (x4 < x1 → 0 ≤ x4 ∧ x4 < 5 ∧ 0 ≤ (rd M 12 x4) ∧ (rd M 12 x4) < 5 ∧ ∀ v11, v11 = x3 + (rd M 2 (rd M 12 x4)) → X G Y_X1_stepBack d k n 25 [vA 51, vI x1, vI x2, vI v11, vI (x4 + 1), vU] [] M Q))) : X G Y_X1_stepBack d k n 25 [vA 51, vI x1, vI x2, vI x3, vI x4, vU] [] M Q := by
  have hd1 : 1 ≤ d := by omega
  refine x_iload (dA D_X1_stepBack 16 rfl) rfl ?_
  refine x_iload_n (dA D_X1_stepBack 17 rfl) rfl ?_
  obtain ⟨h1, h⟩ := h
  obtain ⟨h2, h⟩ := h
  refine x_icmp_geP (tgt := 58) (dA D_X1_stepBack 18 rfl) (by decide) h1 h2 ⟨fun c => ?_, fun c => ?_⟩
  · have h := h.1 c
    refine x_aload_n (dA D_X1_stepBack 33 rfl) rfl ?_
    refine x_get (v := vA 52) (dA D_X1_stepBack 34 rfl) fw_RX1_13 (sO_51 hS) (congrArg (rfV G) (sR_51_2 hS)) ?_
    refine x_lconst (a := 0) (dA D_X1_stepBack 35 rfl) (by decide) ?_
    obtain ⟨h3, h⟩ := h
    refine x_callS [vA 52, vL 0] [] (dA D_X1_stepBack 36 rfl) cw_RX1_66 rfl rfl (Nat.le_of_ble_eq_true rfl) hd1 (zk k) (zk n) (T_fillL hS h3 (by omega) (fun M4 p6 hM4 => ?_)) (kU (fun _ h => h))
    have h := h M4 p6 hM4
    show X G Y_X1_stepBack d k n 66 [vA 51, vI x1, vI x2, vI x3, vI x4, vU] [] M4 Q
    refine x_iconst (dA D_X1_stepBack 37 rfl) ?_
    refine x_istore (xs' := [vA 51, vI x1, vI x2, vI x3, vI 0, vU]) (dA D_X1_stepBack 38 rfl) (by decide) rfl ?_
    exact h
  · have h := h.2 c
    refine x_iload_n (dA D_X1_stepBack 19 rfl) rfl ?_
    refine x_aload_n (dA D_X1_stepBack 20 rfl) rfl ?_
    refine x_get (v := vA 1) (dA D_X1_stepBack 21 rfl) fw_RX1_35 (sO_51 hS) (congrArg (rfV G) (sR_51_0 hS)) ?_
    refine x_get (v := vA 2) (dA D_X1_stepBack 22 rfl) fw_RX1_95 (sO_1 hS) (congrArg (rfV G) (sR_1_1 hS)) ?_
    refine x_aload_n (dA D_X1_stepBack 23 rfl) rfl ?_
    refine x_get (v := vA 1) (dA D_X1_stepBack 24 rfl) fw_RX1_35 (sO_51 hS) (congrArg (rfV G) (sR_51_0 hS)) ?_
    refine x_get (v := vA 12) (dA D_X1_stepBack 25 rfl) fw_RX1_92 (sO_1 hS) (congrArg (rfV G) (sR_1_15 hS)) ?_
    refine x_iload (dA D_X1_stepBack 26 rfl) rfl ?_
    obtain ⟨h7, h⟩ := h
    obtain ⟨h8, h⟩ := h
    refine x_iald (dA D_X1_stepBack 27 rfl) (sA_12 hS h7 h8) ?_
    obtain ⟨h9, h⟩ := h
    obtain ⟨h10, h⟩ := h
    refine x_iald (dA D_X1_stepBack 28 rfl) (sA_2 hS h9 h10) ?_
    refine x_iadd (dA D_X1_stepBack 29 rfl) ?_
    refine x_nmI (fun v11 ev11 => ?_)
    have h := h v11 ev11
    refine x_istore_n (xs' := [vA 51, vI x1, vI x2, vI v11, vI x4, vU]) (dA D_X1_stepBack 30 rfl) (by decide) rfl ?_
    refine x_iinc (xs' := [vA 51, vI x1, vI x2, vI v11, vI (x4 + 1), vU]) (dA D_X1_stepBack 31 rfl) rfl (by decide) rfl ?_
    refine x_goto (tgt := 25) (dA D_X1_stepBack 32 rfl) (by decide) ?_
    exact h
set_option maxRecDepth 100000 in
theorem B_X1_stepBack_69 {G : GG} {d : Nat} {k n : Nat} {x1 x2 x3 x4 : Int} {r : Int → Int} {sm : Int → LSm} {M : MM} {Q : PV → MM → Prop} (hd : 5 ≤ d) (hS : Sh M) (h : inR x4 ∧ ((6 ≤ x4 → Q vU M) ∧ (x4 < 6 → 0 ≤ x1 ∧ x1 < 6 ∧ inR (rd M 11 x1) ∧ inR ((rd M 11 x1) - x4) ∧ (((x4 ≤ (rd M 11 x1)) ∧ (((rd M 11 x1) - x4) ≤ 5) → ∀ v6, v6 = (rd M 11 x1) - x4 → x1 < 5 ∧ ∀ M8, (Fr KC M M8 ∧ Fc0 M8 = fcts (0 : Int) (rd M 12 x1) x2 (x4 + v6) (if (0 : Int) = 0 then x4 else v6) x3 x1) → Sh M8 → COK M8 r sm ∧ FR (Fc0 M8) ∧ (((0 : Int) = 0 ∨ (0 : Int) = 1)) ∧ ∀ r15 M14, (Fr KB M8 M14 ∧ r15 = askV r sm (Fc0 M8) (0 : Int)) → Sh M14 → Ar M14 (57 : Int) 0 6 ∧ (0 ≤ x4 ∧ x4 < 6) ∧ (0 ≤ r15 ∧ r15 ≤ 100) ∧ ∀ M20, (Ch M14 M20 (57 : Int) 0 6 ∧ ∀ k : Int, 0 ≤ k → k ≤ x4 → rd M20 (57 : Int) k = stv x4 r15 k) → Sh M20 → ∀ M23, (Fr KC M20 M23 ∧ Fc0 M23 = fcts (1 : Int) (rd M20 12 x1) x2 (x4 + v6) (if (1 : Int) = 0 then x4 else v6) x3 x1) → Sh M23 → COK M23 r sm ∧ FR (Fc0 M23) ∧ ∀ r29 M28, (Fr KB M23 M28 ∧ r29 = askV r sm (Fc0 M23) (0 : Int)) → Sh M28 → Ar M28 (58 : Int) 0 6 ∧ (0 ≤ v6 ∧ v6 < 6) ∧ (0 ≤ r29 ∧ r29 ≤ 100) ∧ ∀ M34, (Ch M28 M34 (58 : Int) 0 6 ∧ ∀ k : Int, 0 ≤ k → k ≤ v6 → rd M34 (58 : Int) k = stv v6 r29 k) → Sh M34 → 0 ≤ (x1 + 1) ∧ (x1 + 1) < 6 ∧ C G Y_X1_addWays (d - 1) 0 0 [vA 51, vI x4, vI v6, vI (rd M34 11 (x1 + 1))] M34 (rU (fun M39 => Sh M39 ∧ okO M39 54 21 ∧ okO M39 52 21 ∧ 0 ≤ (x4 * 14) ∧ 0 + 14 ≤ (mT M39 54).2 ∧ (x4 * 14) + 14 ≤ (mT M39 52).2 ∧ ∀ M40, M40 = cpM M39 54 0 52 (x4 * 14) 14 → Sh M40 ∧ X G Y_X1_stepBack d k n 69 [vA 51, vI x1, vI x2, vI x3, vI (x4 + 1), vU] [] M40 Q))) ∧ (¬ ((x4 ≤ (rd M 11 x1)) ∧ (((rd M 11 x1) - x4) ≤ 5)) → X G Y_X1_stepBack d k n 69 [vA 51, vI x1, vI x2, vI x3, vI (x4 + 1), vU] [] M Q))))) : X G Y_X1_stepBack d k n 69 [vA 51, vI x1, vI x2, vI x3, vI x4, vU] [] M Q := by
  have hd1 : 1 ≤ d := by omega
  refine x_iload (dA D_X1_stepBack 39 rfl) rfl ?_
  refine x_bipush (dA D_X1_stepBack 40 rfl) (by decide) (by decide) ?_
  obtain ⟨h1, h⟩ := h
  refine x_icmp_geP (tgt := 236) (dA D_X1_stepBack 41 rfl) (by decide) h1 ⟨by decide, by decide⟩ ⟨fun c => ?_, fun c => ?_⟩
  · have h := h.1 c
    exact x_return (dA D_X1_stepBack 126 rfl) rfl h
  · have h := h.2 c
    refine x_iload (dA D_X1_stepBack 42 rfl) rfl ?_
    refine x_aload_n (dA D_X1_stepBack 43 rfl) rfl ?_
    refine x_get (v := vA 1) (dA D_X1_stepBack 44 rfl) fw_RX1_35 (sO_51 hS) (congrArg (rfV G) (sR_51_0 hS)) ?_
    refine x_get (v := vA 11) (dA D_X1_stepBack 45 rfl) fw_RX1_43 (sO_1 hS) (congrArg (rfV G) (sR_1_14 hS)) ?_
    refine x_iload_n (dA D_X1_stepBack 46 rfl) rfl ?_
    obtain ⟨h2, h⟩ := h
    obtain ⟨h3, h⟩ := h
    refine x_iald (dA D_X1_stepBack 47 rfl) (sA_11 hS h2 h3) ?_
    obtain ⟨h4, h⟩ := h
    obtain ⟨h5, h⟩ := h
    refine x_callS [vI x4, vI (rd M 11 x1)] [] (dA D_X1_stepBack 48 rfl) cw_RX1_88 rfl rfl (Nat.le_of_ble_eq_true rfl) hd1 (zk k) (zk n) (S_X1_isWay h1 h4 h5 (by omega) ?_) (kI (fun _ _ h => h))
    show X G Y_X1_stepBack d k n 90 [vA 51, vI x1, vI x2, vI x3, vI x4, vU] [vI (if (x4 ≤ (rd M 11 x1)) ∧ (((rd M 11 x1) - x4) ≤ 5) then 1 else 0)] M Q
    refine x_if_neB (tgt := 96) (dA D_X1_stepBack 49 rfl) (by decide) ⟨fun c => ?_, fun c => ?_⟩
    · have h := h.1 c
      refine x_aload_n (dA D_X1_stepBack 51 rfl) rfl ?_
      refine x_get (v := vA 1) (dA D_X1_stepBack 52 rfl) fw_RX1_35 (sO_51 hS) (congrArg (rfV G) (sR_51_0 hS)) ?_
      refine x_get (v := vA 11) (dA D_X1_stepBack 53 rfl) fw_RX1_43 (sO_1 hS) (congrArg (rfV G) (sR_1_14 hS)) ?_
      refine x_iload_n (dA D_X1_stepBack 54 rfl) rfl ?_
      refine x_iald (dA D_X1_stepBack 55 rfl) (sA_11 hS h2 h3) ?_
      refine x_iload (dA D_X1_stepBack 56 rfl) rfl ?_
      refine x_isub (dA D_X1_stepBack 57 rfl) ?_
      refine x_nmI (fun v6 ev6 => ?_)
      have h := h v6 ev6
      refine x_istore (xs' := [vA 51, vI x1, vI x2, vI x3, vI x4, vI v6]) (dA D_X1_stepBack 58 rfl) (by decide) rfl ?_
      refine x_aload_n (dA D_X1_stepBack 59 rfl) rfl ?_
      refine x_get (v := vA 22) (dA D_X1_stepBack 60 rfl) fw_RX1_39 (sO_51 hS) (congrArg (rfV G) (sR_51_1 hS)) ?_
      refine x_iconst (dA D_X1_stepBack 61 rfl) ?_
      refine x_aload_n (dA D_X1_stepBack 62 rfl) rfl ?_
      refine x_get (v := vA 1) (dA D_X1_stepBack 63 rfl) fw_RX1_35 (sO_51 hS) (congrArg (rfV G) (sR_51_0 hS)) ?_
      refine x_get (v := vA 12) (dA D_X1_stepBack 64 rfl) fw_RX1_92 (sO_1 hS) (congrArg (rfV G) (sR_1_15 hS)) ?_
      refine x_iload_n (dA D_X1_stepBack 65 rfl) rfl ?_
      obtain ⟨h7, h⟩ := h
      refine x_iald (dA D_X1_stepBack 66 rfl) (sA_12 hS h2 h7) ?_
      refine x_iload_n (dA D_X1_stepBack 67 rfl) rfl ?_
      refine x_iload (dA D_X1_stepBack 68 rfl) rfl ?_
      refine x_iload (dA D_X1_stepBack 69 rfl) rfl ?_
      refine x_iload_n (dA D_X1_stepBack 70 rfl) rfl ?_
      refine x_iload_n (dA D_X1_stepBack 71 rfl) rfl ?_
      refine x_callV 0 [vI 0, vI (rd M 12 x1), vI x2, vI x4, vI v6, vI x3, vI x1] [] (dA D_X1_stepBack 72 rfl) cw_RX1_98 rfl rfl (Nat.le_of_ble_eq_true rfl) (by decide) rfl hd1 (zk k) (zk n) (sO_22 hS) (T_X0_about hS ⟨by decide, by decide⟩ (by omega) (fun M8 p10 hM8 => ?_)) (kU (fun _ h => h))
      have h := h M8 p10 hM8
      show X G Y_X1_stepBack d k n 134 [vA 51, vI x1, vI x2, vI x3, vI x4, vI v6] [] M8 Q
      refine x_aload_n (dA D_X1_stepBack 73 rfl) rfl ?_
      refine x_get (v := vA 57) (dA D_X1_stepBack 74 rfl) fw_RX1_29 (sO_51 hM8) (congrArg (rfV G) (sR_51_7 hM8)) ?_
      refine x_iload (dA D_X1_stepBack 75 rfl) rfl ?_
      refine x_aload_n (dA D_X1_stepBack 76 rfl) rfl ?_
      refine x_get (v := vA 22) (dA D_X1_stepBack 77 rfl) fw_RX1_39 (sO_51 hM8) (congrArg (rfV G) (sR_51_1 hM8)) ?_
      refine x_iconst (dA D_X1_stepBack 78 rfl) ?_
      obtain ⟨h11, h⟩ := h
      obtain ⟨h12, h⟩ := h
      obtain ⟨h13, h⟩ := h
      refine x_callV 0 [vI 0] [vI x4, vA 57] (dA D_X1_stepBack 79 rfl) cw_RX1_104 rfl rfl (Nat.le_of_ble_eq_true rfl) (by decide) rfl hd1 (zk k) (zk n) (sO_22 hM8) (T_X0_tells hM8 h11 h12 h13 (by omega) (fun r15 M14 p16 hM14 => ?_)) (kI (fun _ _ h => h))
      have h := h r15 M14 p16 hM14
      show X G Y_X1_stepBack d k n 148 [vA 51, vI x1, vI x2, vI x3, vI x4, vI v6] [vI r15, vI x4, vA 57] M14 Q
      obtain ⟨h17, h⟩ := h
      obtain ⟨h18, h⟩ := h
      obtain ⟨h19, h⟩ := h
      refine x_callS [vA 57, vI x4, vI r15] [] (dA D_X1_stepBack 80 rfl) cw_RX1_108 rfl rfl (Nat.le_of_ble_eq_true rfl) hd1 (zk k) (zk n) (T_X2_spread hM14 h17 h18 h19 (by omega) (fun M20 p22 hM20 => ?_)) (kU (fun _ h => h))
      have h := h M20 p22 hM20
      show X G Y_X1_stepBack d k n 151 [vA 51, vI x1, vI x2, vI x3, vI x4, vI v6] [] M20 Q
      refine x_aload_n (dA D_X1_stepBack 81 rfl) rfl ?_
      refine x_get (v := vA 22) (dA D_X1_stepBack 82 rfl) fw_RX1_39 (sO_51 hM20) (congrArg (rfV G) (sR_51_1 hM20)) ?_
      refine x_iconst (dA D_X1_stepBack 83 rfl) ?_
      refine x_aload_n (dA D_X1_stepBack 84 rfl) rfl ?_
      refine x_get (v := vA 1) (dA D_X1_stepBack 85 rfl) fw_RX1_35 (sO_51 hM20) (congrArg (rfV G) (sR_51_0 hM20)) ?_
      refine x_get (v := vA 12) (dA D_X1_stepBack 86 rfl) fw_RX1_92 (sO_1 hM20) (congrArg (rfV G) (sR_1_15 hM20)) ?_
      refine x_iload_n (dA D_X1_stepBack 87 rfl) rfl ?_
      refine x_iald (dA D_X1_stepBack 88 rfl) (sA_12 hM20 h2 h7) ?_
      refine x_iload_n (dA D_X1_stepBack 89 rfl) rfl ?_
      refine x_iload (dA D_X1_stepBack 90 rfl) rfl ?_
      refine x_iload (dA D_X1_stepBack 91 rfl) rfl ?_
      refine x_iload_n (dA D_X1_stepBack 92 rfl) rfl ?_
      refine x_iload_n (dA D_X1_stepBack 93 rfl) rfl ?_
      refine x_callV 0 [vI 1, vI (rd M20 12 x1), vI x2, vI x4, vI v6, vI x3, vI x1] [] (dA D_X1_stepBack 94 rfl) cw_RX1_98 rfl rfl (Nat.le_of_ble_eq_true rfl) (by decide) rfl hd1 (zk k) (zk n) (sO_22 hM20) (T_X0_about hM20 ⟨by decide, by decide⟩ (by omega) (fun M23 p25 hM23 => ?_)) (kU (fun _ h => h))
      have h := h M23 p25 hM23
      show X G Y_X1_stepBack d k n 175 [vA 51, vI x1, vI x2, vI x3, vI x4, vI v6] [] M23 Q
      refine x_aload_n (dA D_X1_stepBack 95 rfl) rfl ?_
      refine x_get (v := vA 58) (dA D_X1_stepBack 96 rfl) fw_RX1_32 (sO_51 hM23) (congrArg (rfV G) (sR_51_8 hM23)) ?_
      refine x_iload (dA D_X1_stepBack 97 rfl) rfl ?_
      refine x_aload_n (dA D_X1_stepBack 98 rfl) rfl ?_
      refine x_get (v := vA 22) (dA D_X1_stepBack 99 rfl) fw_RX1_39 (sO_51 hM23) (congrArg (rfV G) (sR_51_1 hM23)) ?_
      refine x_iconst (dA D_X1_stepBack 100 rfl) ?_
      obtain ⟨h26, h⟩ := h
      obtain ⟨h27, h⟩ := h
      refine x_callV 0 [vI 0] [vI v6, vA 58] (dA D_X1_stepBack 101 rfl) cw_RX1_104 rfl rfl (Nat.le_of_ble_eq_true rfl) (by decide) rfl hd1 (zk k) (zk n) (sO_22 hM23) (T_X0_tells hM23 h26 h27 h13 (by omega) (fun r29 M28 p30 hM28 => ?_)) (kI (fun _ _ h => h))
      have h := h r29 M28 p30 hM28
      show X G Y_X1_stepBack d k n 189 [vA 51, vI x1, vI x2, vI x3, vI x4, vI v6] [vI r29, vI v6, vA 58] M28 Q
      obtain ⟨h31, h⟩ := h
      obtain ⟨h32, h⟩ := h
      obtain ⟨h33, h⟩ := h
      refine x_callS [vA 58, vI v6, vI r29] [] (dA D_X1_stepBack 102 rfl) cw_RX1_108 rfl rfl (Nat.le_of_ble_eq_true rfl) hd1 (zk k) (zk n) (T_X2_spread hM28 h31 h32 h33 (by omega) (fun M34 p36 hM34 => ?_)) (kU (fun _ h => h))
      have h := h M34 p36 hM34
      show X G Y_X1_stepBack d k n 192 [vA 51, vI x1, vI x2, vI x3, vI x4, vI v6] [] M34 Q
      refine x_aload_n (dA D_X1_stepBack 103 rfl) rfl ?_
      refine x_iload (dA D_X1_stepBack 104 rfl) rfl ?_
      refine x_iload (dA D_X1_stepBack 105 rfl) rfl ?_
      refine x_aload_n (dA D_X1_stepBack 106 rfl) rfl ?_
      refine x_get (v := vA 1) (dA D_X1_stepBack 107 rfl) fw_RX1_35 (sO_51 hM34) (congrArg (rfV G) (sR_51_0 hM34)) ?_
      refine x_get (v := vA 11) (dA D_X1_stepBack 108 rfl) fw_RX1_43 (sO_1 hM34) (congrArg (rfV G) (sR_1_14 hM34)) ?_
      refine x_iload_n (dA D_X1_stepBack 109 rfl) rfl ?_
      refine x_iconst (dA D_X1_stepBack 110 rfl) ?_
      refine x_iadd (dA D_X1_stepBack 111 rfl) ?_
      obtain ⟨h37, h⟩ := h
      obtain ⟨h38, h⟩ := h
      refine x_iald (dA D_X1_stepBack 112 rfl) (sA_11 hM34 h37 h38) ?_
      refine x_callV 1 [vI x4, vI v6, vI (rd M34 11 (x1 + 1))] [] (dA D_X1_stepBack 113 rfl) cw_RX1_112 rfl rfl (Nat.le_of_ble_eq_true rfl) (by decide) rfl hd1 (zk k) (zk n) (sO_51 hM34) h (kU (fun M39 h => ?_))
      obtain ⟨hM39, h⟩ := h
      refine x_aload_n (dA D_X1_stepBack 114 rfl) rfl ?_
      refine x_get (v := vA 54) (dA D_X1_stepBack 115 rfl) fw_RX1_20 (sO_51 hM39) (congrArg (rfV G) (sR_51_4 hM39)) ?_
      refine x_iconst (dA D_X1_stepBack 116 rfl) ?_
      refine x_aload_n (dA D_X1_stepBack 117 rfl) rfl ?_
      refine x_get (v := vA 52) (dA D_X1_stepBack 118 rfl) fw_RX1_13 (sO_51 hM39) (congrArg (rfV G) (sR_51_2 hM39)) ?_
      refine x_iload (dA D_X1_stepBack 119 rfl) rfl ?_
      refine x_bipush (dA D_X1_stepBack 120 rfl) (by decide) (by decide) ?_
      refine x_imul (dA D_X1_stepBack 121 rfl) ?_
      refine x_bipush (dA D_X1_stepBack 122 rfl) (by decide) (by decide) ?_
      obtain ⟨h41, h⟩ := h
      obtain ⟨h42, h⟩ := h
      obtain ⟨h43, h⟩ := h
      obtain ⟨h44, h⟩ := h
      obtain ⟨h45, h⟩ := h
      refine x_copy 21 [] (by decide) (dA D_X1_stepBack 123 rfl) ⟨ml_RX1_57, w_an, w_as, w_ai⟩ (by decide) hd1 h41 h42 (by decide) h43 (by decide) h44 h45 (fun e => absurd e (by decide)) ?_
      refine x_nmM (fun M40 eM40 => ?_)
      obtain ⟨hM40, h⟩ := h M40 eM40
      refine x_iinc (xs' := [vA 51, vI x1, vI x2, vI x3, vI (x4 + 1), vI v6]) (dA D_X1_stepBack 124 rfl) rfl (by decide) rfl ?_
      refine x_goto (tgt := 69) (dA D_X1_stepBack 125 rfl) (by decide) ?_
      refine X.weak (xs' := [vA 51, vI x1, vI x2, vI x3, vI (x4 + 1), vU]) ⟨Or.inl rfl, Or.inl rfl, Or.inl rfl, Or.inl rfl, Or.inl rfl, Or.inr rfl, trivial⟩ ?_
      exact h
    · have h := h.2 c
      refine x_goto (tgt := 230) (dA D_X1_stepBack 50 rfl) (by decide) ?_
      refine x_iinc (xs' := [vA 51, vI x1, vI x2, vI x3, vI (x4 + 1), vU]) (dA D_X1_stepBack 124 rfl) rfl (by decide) rfl ?_
      refine x_goto (tgt := 69) (dA D_X1_stepBack 125 rfl) (by decide) ?_
      exact h
set_option maxRecDepth 100000 in
theorem B_X1_millionths_0 {G : GG} {d : Nat} {k n : Nat} {M : MM} {Q : PV → MM → Prop} (hd : 1 ≤ d) (hS : Sh M) (h : X G Y_X1_millionths d k n 4 [vA 51, vI 0, vI 0, vU, vU] [] M Q) : X G Y_X1_millionths d k n 0 [vA 51, vU, vU, vU, vU] [] M Q := by
  have hd1 : 1 ≤ d := by omega
  refine x_iconst (dA D_X1_millionths 0 rfl) ?_
  refine x_istore_n (xs' := [vA 51, vI 0, vU, vU, vU]) (dA D_X1_millionths 1 rfl) (by decide) rfl ?_
  refine x_iconst (dA D_X1_millionths 2 rfl) ?_
  refine x_istore_n (xs' := [vA 51, vI 0, vI 0, vU, vU]) (dA D_X1_millionths 3 rfl) (by decide) rfl ?_
  exact h
theorem C_X1_millionths {G : GG} {d : Nat} {M : MM} {Q : PV → MM → Prop} (h : X G Y_X1_millionths d 0 0 0 [vA 51, vU, vU, vU, vU] [] M Q) : C G Y_X1_millionths d 0 0 [vA 51] M Q := X.entry (by decide) (Nat.le_of_ble_eq_true rfl) rfl rfl rfl h
set_option maxRecDepth 100000 in
theorem B_X1_millionths_4 {G : GG} {d : Nat} {k n : Nat} {x1 x2 : Int} {M : MM} {Q : PV → MM → Prop} (hd : 1 ≤ d) (hS : Sh M) (h : inR x2 ∧ ((6 < x2 → Q (vI x1) M) ∧ (x2 ≤ 6 → X G Y_X1_millionths d k n 15 [vA 51, vI x1, vI x2, vI 0, vI 0] [] M Q))) : X G Y_X1_millionths d k n 4 [vA 51, vI x1, vI x2, vU, vU] [] M Q := by
  have hd1 : 1 ≤ d := by omega
  refine x_iload_n (dA D_X1_millionths 4 rfl) rfl ?_
  refine x_bipush (dA D_X1_millionths 5 rfl) (by decide) (by decide) ?_
  obtain ⟨h1, h⟩ := h
  refine x_icmp_gtP (tgt := 108) (dA D_X1_millionths 6 rfl) (by decide) h1 ⟨by decide, by decide⟩ ⟨fun c => ?_, fun c => ?_⟩
  · have h := h.1 c
    refine x_iload_n (dA D_X1_millionths 56 rfl) rfl ?_
    exact x_ireturn (dA D_X1_millionths 57 rfl) rfl h
  · have h := h.2 c
    refine x_iconst (dA D_X1_millionths 7 rfl) ?_
    refine x_istore_n (xs' := [vA 51, vI x1, vI x2, vI 0, vU]) (dA D_X1_millionths 8 rfl) (by decide) rfl ?_
    refine x_iconst (dA D_X1_millionths 9 rfl) ?_
    refine x_istore (xs' := [vA 51, vI x1, vI x2, vI 0, vI 0]) (dA D_X1_millionths 10 rfl) (by decide) rfl ?_
    exact h
set_option maxRecDepth 100000 in
theorem B_X1_millionths_15 {G : GG} {d : Nat} {k n : Nat} {x1 x2 x3 x4 : Int} {M : MM} {Q : PV → MM → Prop} (hd : 2 ≤ d) (hS : Sh M) (h : inR x4 ∧ ((9 ≤ x4 → ∀ v2, v2 = (x1 * 10) + x3 → X G Y_X1_millionths d k n 69 [vA 51, vI v2, vI x2, vI x3, vI 0] [] M Q) ∧ (x4 < 9 → (0 ≤ (14 : Int) ∧ (14 : Int) ≤ 14) ∧ Ar M (55 : Int) 0 ((14 : Int)).toNat ∧ Ar M (56 : Int) (0 : Int) ((14 : Int)).toNat ∧ nrm (rd M (55 : Int)) 0 ((14 : Int)).toNat ∧ nrm (rd M (56 : Int)) (0 : Int) ((14 : Int)).toNat ∧ inR (cmpI (vl (rd M (55 : Int)) 0 ((14 : Int)).toNat) (vl (rd M (56 : Int)) (0 : Int) ((14 : Int)).toNat)) ∧ (((cmpI (vl (rd M (55 : Int)) 0 ((14 : Int)).toNat) (vl (rd M (56 : Int)) (0 : Int) ((14 : Int)).toNat)) < 0 → ∀ v9, v9 = (x1 * 10) + x3 → X G Y_X1_millionths d k n 69 [vA 51, vI v9, vI x2, vI x3, vI 0] [] M Q) ∧ (0 ≤ (cmpI (vl (rd M (55 : Int)) 0 ((14 : Int)).toNat) (vl (rd M (56 : Int)) (0 : Int) ((14 : Int)).toNat)) → Ar M (55 : Int) 0 14 ∧ Ar M (56 : Int) 0 14 ∧ (55 : Int) ≠ (56 : Int) ∧ nrm (rd M (55 : Int)) 0 14 ∧ nrm (rd M (56 : Int)) 0 14 ∧ vl (rd M (56 : Int)) 0 14 ≤ vl (rd M (55 : Int)) 0 14 ∧ ∀ M16, (Ch M M16 (55 : Int) 0 14 ∧ nrm (rd M16 (55 : Int)) 0 14 ∧ vl (rd M16 (55 : Int)) 0 14 = vl (rd M (55 : Int)) 0 14 - vl (rd M (56 : Int)) 0 14) → Sh M16 → X G Y_X1_millionths d k n 15 [vA 51, vI x1, vI x2, vI (x3 + 1), vI (x4 + 1)] [] M16 Q))))) : X G Y_X1_millionths d k n 15 [vA 51, vI x1, vI x2, vI x3, vI x4] [] M Q := by
  have hd1 : 1 ≤ d := by omega
  refine x_iload (dA D_X1_millionths 11 rfl) rfl ?_
  refine x_bipush (dA D_X1_millionths 12 rfl) (by decide) (by decide) ?_
  obtain ⟨h1, h⟩ := h
  refine x_icmp_geP (tgt := 59) (dA D_X1_millionths 13 rfl) (by decide) h1 ⟨by decide, by decide⟩ ⟨fun c => ?_, fun c => ?_⟩
  · have h := h.1 c
    refine x_iload_n (dA D_X1_millionths 30 rfl) rfl ?_
    refine x_bipush (dA D_X1_millionths 31 rfl) (by decide) (by decide) ?_
    refine x_imul (dA D_X1_millionths 32 rfl) ?_
    refine x_iload_n (dA D_X1_millionths 33 rfl) rfl ?_
    refine x_iadd (dA D_X1_millionths 34 rfl) ?_
    refine x_nmI (fun v2 ev2 => ?_)
    have h := h v2 ev2
    refine x_istore_n (xs' := [vA 51, vI v2, vI x2, vI x3, vI x4]) (dA D_X1_millionths 35 rfl) (by decide) rfl ?_
    refine x_iconst (dA D_X1_millionths 36 rfl) ?_
    refine x_istore (xs' := [vA 51, vI v2, vI x2, vI x3, vI 0]) (dA D_X1_millionths 37 rfl) (by decide) rfl ?_
    exact h
  · have h := h.2 c
    refine x_aload_n (dA D_X1_millionths 14 rfl) rfl ?_
    refine x_get (v := vA 55) (dA D_X1_millionths 15 rfl) fw_RX1_23 (sO_51 hS) (congrArg (rfV G) (sR_51_5 hS)) ?_
    refine x_aload_n (dA D_X1_millionths 16 rfl) rfl ?_
    refine x_get (v := vA 56) (dA D_X1_millionths 17 rfl) fw_RX1_26 (sO_51 hS) (congrArg (rfV G) (sR_51_6 hS)) ?_
    refine x_iconst (dA D_X1_millionths 18 rfl) ?_
    refine x_bipush (dA D_X1_millionths 19 rfl) (by decide) (by decide) ?_
    obtain ⟨h3, h⟩ := h
    obtain ⟨h4, h⟩ := h
    obtain ⟨h5, h⟩ := h
    obtain ⟨h6, h⟩ := h
    obtain ⟨h7, h⟩ := h
    refine x_callS [vA 55, vA 56, vI 0, vI 14] [] (dA D_X1_millionths 20 rfl) cw_RX1_80 rfl rfl (Nat.le_of_ble_eq_true rfl) hd1 (zk k) (zk n) (T_X2_compare h3 h4 h5 h6 h7 (by omega) ?_) (kI (fun _ _ h => h))
    show X G Y_X1_millionths d k n 36 [vA 51, vI x1, vI x2, vI x3, vI x4] [vI (cmpI (vl (rd M (55 : Int)) 0 ((14 : Int)).toNat) (vl (rd M (56 : Int)) (0 : Int) ((14 : Int)).toNat))] M Q
    obtain ⟨h8, h⟩ := h
    refine x_if_ltP (tgt := 59) (dA D_X1_millionths 21 rfl) (by decide) h8 ⟨fun c => ?_, fun c => ?_⟩
    · have h := h.1 c
      refine x_iload_n (dA D_X1_millionths 30 rfl) rfl ?_
      refine x_bipush (dA D_X1_millionths 31 rfl) (by decide) (by decide) ?_
      refine x_imul (dA D_X1_millionths 32 rfl) ?_
      refine x_iload_n (dA D_X1_millionths 33 rfl) rfl ?_
      refine x_iadd (dA D_X1_millionths 34 rfl) ?_
      refine x_nmI (fun v9 ev9 => ?_)
      have h := h v9 ev9
      refine x_istore_n (xs' := [vA 51, vI v9, vI x2, vI x3, vI x4]) (dA D_X1_millionths 35 rfl) (by decide) rfl ?_
      refine x_iconst (dA D_X1_millionths 36 rfl) ?_
      refine x_istore (xs' := [vA 51, vI v9, vI x2, vI x3, vI 0]) (dA D_X1_millionths 37 rfl) (by decide) rfl ?_
      exact h
    · have h := h.2 c
      refine x_aload_n (dA D_X1_millionths 22 rfl) rfl ?_
      refine x_get (v := vA 55) (dA D_X1_millionths 23 rfl) fw_RX1_23 (sO_51 hS) (congrArg (rfV G) (sR_51_5 hS)) ?_
      refine x_aload_n (dA D_X1_millionths 24 rfl) rfl ?_
      refine x_get (v := vA 56) (dA D_X1_millionths 25 rfl) fw_RX1_26 (sO_51 hS) (congrArg (rfV G) (sR_51_6 hS)) ?_
      obtain ⟨h10, h⟩ := h
      obtain ⟨h11, h⟩ := h
      obtain ⟨h12, h⟩ := h
      obtain ⟨h13, h⟩ := h
      obtain ⟨h14, h⟩ := h
      obtain ⟨h15, h⟩ := h
      refine x_callS [vA 55, vA 56] [] (dA D_X1_millionths 26 rfl) cw_RX1_116 rfl rfl (Nat.le_of_ble_eq_true rfl) hd1 (zk k) (zk n) (T_X2_subtract hS h10 h11 h12 h13 h14 h15 (by omega) (fun M16 p18 hM16 => ?_)) (kU (fun _ h => h))
      have h := h M16 p18 hM16
      show X G Y_X1_millionths d k n 50 [vA 51, vI x1, vI x2, vI x3, vI x4] [] M16 Q
      refine x_iinc (xs' := [vA 51, vI x1, vI x2, vI (x3 + 1), vI x4]) (dA D_X1_millionths 27 rfl) rfl (by decide) rfl ?_
      refine x_iinc (xs' := [vA 51, vI x1, vI x2, vI (x3 + 1), vI (x4 + 1)]) (dA D_X1_millionths 28 rfl) rfl (by decide) rfl ?_
      refine x_goto (tgt := 15) (dA D_X1_millionths 29 rfl) (by decide) ?_
      exact h
set_option maxRecDepth 100000 in
theorem B_X1_millionths_69 {G : GG} {d : Nat} {k n : Nat} {x1 x2 x3 x4 : Int} {M : MM} {Q : PV → MM → Prop} (hd : 2 ≤ d) (hS : Sh M) (h : inR x4 ∧ ((14 ≤ x4 → Ar M (55 : Int) 0 14 ∧ ((∀ i : Int, 0 ≤ i → i < 14 → 0 ≤ rd M (55 : Int) i ∧ rd M (55 : Int) i ≤ 4000000000000000000)) ∧ vl (rd M (55 : Int)) 0 14 < Bp 14 ∧ ∀ M5, (Ch M M5 (55 : Int) 0 14 ∧ nrm (rd M5 (55 : Int)) 0 14 ∧ vl (rd M5 (55 : Int)) 0 14 = vl (rd M (55 : Int)) 0 14) → Sh M5 → X G Y_X1_millionths d k n 4 [vA 51, vI x1, vI (x2 + 1), vU, vU] [] M5 Q) ∧ (x4 < 14 → 0 ≤ x4 ∧ x4 < 14 ∧ ∀ M10, M10 = wr M 55 x4 ((rd M 55 x4) * 10) → Sh M10 → X G Y_X1_millionths d k n 69 [vA 51, vI x1, vI x2, vI x3, vI (x4 + 1)] [] M10 Q))) : X G Y_X1_millionths d k n 69 [vA 51, vI x1, vI x2, vI x3, vI x4] [] M Q := by
  have hd1 : 1 ≤ d := by omega
  refine x_iload (dA D_X1_millionths 38 rfl) rfl ?_
  refine x_bipush (dA D_X1_millionths 39 rfl) (by decide) (by decide) ?_
  obtain ⟨h1, h⟩ := h
  refine x_icmp_geP (tgt := 95) (dA D_X1_millionths 40 rfl) (by decide) h1 ⟨by decide, by decide⟩ ⟨fun c => ?_, fun c => ?_⟩
  · have h := h.1 c
    refine x_aload_n (dA D_X1_millionths 51 rfl) rfl ?_
    refine x_get (v := vA 55) (dA D_X1_millionths 52 rfl) fw_RX1_23 (sO_51 hS) (congrArg (rfV G) (sR_51_5 hS)) ?_
    obtain ⟨h2, h⟩ := h
    obtain ⟨h3, h⟩ := h
    obtain ⟨h4, h⟩ := h
    refine x_callS [vA 55] [] (dA D_X1_millionths 53 rfl) cw_RX1_76 rfl rfl (Nat.le_of_ble_eq_true rfl) hd1 (zk k) (zk n) (T_X2_carry hS h2 h3 h4 (by omega) (fun M5 p7 hM5 => ?_)) (kU (fun _ h => h))
    have h := h M5 p7 hM5
    show X G Y_X1_millionths d k n 102 [vA 51, vI x1, vI x2, vI x3, vI x4] [] M5 Q
    refine x_iinc (xs' := [vA 51, vI x1, vI (x2 + 1), vI x3, vI x4]) (dA D_X1_millionths 54 rfl) rfl (by decide) rfl ?_
    refine x_goto (tgt := 4) (dA D_X1_millionths 55 rfl) (by decide) ?_
    refine X.weak (xs' := [vA 51, vI x1, vI (x2 + 1), vU, vU]) ⟨Or.inl rfl, Or.inl rfl, Or.inl rfl, Or.inr rfl, Or.inr rfl, trivial⟩ ?_
    exact h
  · have h := h.2 c
    refine x_aload_n (dA D_X1_millionths 41 rfl) rfl ?_
    refine x_get (v := vA 55) (dA D_X1_millionths 42 rfl) fw_RX1_23 (sO_51 hS) (congrArg (rfV G) (sR_51_5 hS)) ?_
    refine x_iload (dA D_X1_millionths 43 rfl) rfl ?_
    refine x_dup2 (dA D_X1_millionths 44 rfl) rfl rfl ?_
    obtain ⟨h8, h⟩ := h
    obtain ⟨h9, h⟩ := h
    refine x_lald (dA D_X1_millionths 45 rfl) (sA_55 hS h8 h9) ?_
    refine x_ldc2 (a := 10) (dA D_X1_millionths 46 rfl) kl_RX1_120 (by decide) ?_
    refine x_lmul (dA D_X1_millionths 47 rfl) ?_
    refine x_last (dA D_X1_millionths 48 rfl) (sA_55 hS h8 h9) ?_
    refine x_nmM (fun M10 eM10 => ?_)
    have hM10 : Sh M10 := eM10 ▸ (sW_55 hS)
    have h := h M10 eM10 hM10
    refine x_iinc (xs' := [vA 51, vI x1, vI x2, vI x3, vI (x4 + 1)]) (dA D_X1_millionths 49 rfl) rfl (by decide) rfl ?_
    refine x_goto (tgt := 69) (dA D_X1_millionths 50 rfl) (by decide) ?_
    exact h
set_option maxRecDepth 100000 in
theorem B_X1_likely_0 {G : GG} {d : Nat} {k n : Nat} {x1 : Int} {M : MM} {Q : PV → MM → Prop} (hd : 2 ≤ d) (hS : Sh M) (h : 0 ≤ (rd M 1 16) ∧ (rd M 1 16) < 6 ∧ C G Y_X1_begin (d - 1) 0 0 [vA 51, vI (rd M 11 (rd M 1 16))] M (rU (fun M3 => Sh M3 ∧ ∀ v4, v4 = (rd M3 1 16) - 1 → X G Y_X1_likely d k n 29 [vA 51, vI x1, vI v4] [] M3 Q))) : X G Y_X1_likely d k n 0 [vA 51, vI x1, vU] [] M Q := by
  have hd1 : 1 ≤ d := by omega
  refine x_aload_n (dA D_X1_likely 0 rfl) rfl ?_
  refine x_aload_n (dA D_X1_likely 1 rfl) rfl ?_
  refine x_get (v := vA 1) (dA D_X1_likely 2 rfl) fw_RX1_35 (sO_51 hS) (congrArg (rfV G) (sR_51_0 hS)) ?_
  refine x_get (v := vA 11) (dA D_X1_likely 3 rfl) fw_RX1_43 (sO_1 hS) (congrArg (rfV G) (sR_1_14 hS)) ?_
  refine x_aload_n (dA D_X1_likely 4 rfl) rfl ?_
  refine x_get (v := vA 1) (dA D_X1_likely 5 rfl) fw_RX1_35 (sO_51 hS) (congrArg (rfV G) (sR_51_0 hS)) ?_
  refine x_get (v := vI (rd M 1 16)) (dA D_X1_likely 6 rfl) fw_RX1_49 (sO_1 hS) rfl ?_
  obtain ⟨h1, h⟩ := h
  obtain ⟨h2, h⟩ := h
  refine x_iald (dA D_X1_likely 7 rfl) (sA_11 hS h1 h2) ?_
  refine x_callV 1 [vI (rd M 11 (rd M 1 16))] [] (dA D_X1_likely 8 rfl) cw_RX1_53 rfl rfl (Nat.le_of_ble_eq_true rfl) (by decide) rfl hd1 (zk k) (zk n) (sO_51 hS) h (kU (fun M3 h => ?_))
  obtain ⟨hM3, h⟩ := h
  refine x_aload_n (dA D_X1_likely 9 rfl) rfl ?_
  refine x_get (v := vA 1) (dA D_X1_likely 10 rfl) fw_RX1_35 (sO_51 hM3) (congrArg (rfV G) (sR_51_0 hM3)) ?_
  refine x_get (v := vI (rd M3 1 16)) (dA D_X1_likely 11 rfl) fw_RX1_49 (sO_1 hM3) rfl ?_
  refine x_iconst (dA D_X1_likely 12 rfl) ?_
  refine x_isub (dA D_X1_likely 13 rfl) ?_
  refine x_nmI (fun v4 ev4 => ?_)
  have h := h v4 ev4
  refine x_istore_n (xs' := [vA 51, vI x1, vI v4]) (dA D_X1_likely 14 rfl) (by decide) rfl ?_
  exact h
theorem C_X1_likely {G : GG} {d : Nat} {x1 : Int} {M : MM} {Q : PV → MM → Prop} (h : X G Y_X1_likely d 0 0 0 [vA 51, vI x1, vU] [] M Q) : C G Y_X1_likely d 0 0 [vA 51, vI x1] M Q := X.entry (by decide) (Nat.le_of_ble_eq_true rfl) rfl rfl rfl h
set_option maxRecDepth 100000 in
theorem B_X1_likely_29 {G : GG} {d : Nat} {k n : Nat} {x1 x2 : Int} {M : MM} {Q : PV → MM → Prop} (hd : 2 ≤ d) (hS : Sh M) (h : inR x2 ∧ ((x2 < 0 → fill1 M (56 : Int) 21 ∧ ∀ M3, (∃ len : Int, (mT M (56 : Int)).2 = len ∧ Ch M M3 (56 : Int) 0 len.toNat ∧ ∀ i : Int, 0 ≤ i → i < len → rd M3 (56 : Int) i = (0 : Int)) → Sh M3 → X G Y_X1_likely d k n 72 [vA 51, vI x1, vI 0] [] M3 Q) ∧ (0 ≤ x2 → okO M 52 21 ∧ okO M 53 21 ∧ 0 + 84 ≤ (mT M 52).2 ∧ 0 + 84 ≤ (mT M 53).2 ∧ ∀ M6, M6 = cpM M 52 0 53 0 84 → Sh M6 ∧ C G Y_X1_stepBack (d - 1) 0 0 [vA 51, vI x2] M6 (rU (fun M11 => Sh M11 ∧ X G Y_X1_likely d k n 29 [vA 51, vI x1, vI (x2 + (-1))] [] M11 Q))))) : X G Y_X1_likely d k n 29 [vA 51, vI x1, vI x2] [] M Q := by
  have hd1 : 1 ≤ d := by omega
  refine x_iload_n (dA D_X1_likely 15 rfl) rfl ?_
  obtain ⟨h1, h⟩ := h
  refine x_if_ltP (tgt := 62) (dA D_X1_likely 16 rfl) (by decide) h1 ⟨fun c => ?_, fun c => ?_⟩
  · have h := h.1 c
    refine x_aload_n (dA D_X1_likely 32 rfl) rfl ?_
    refine x_get (v := vA 56) (dA D_X1_likely 33 rfl) fw_RX1_26 (sO_51 hS) (congrArg (rfV G) (sR_51_6 hS)) ?_
    refine x_lconst (a := 0) (dA D_X1_likely 34 rfl) (by decide) ?_
    obtain ⟨h2, h⟩ := h
    refine x_callS [vA 56, vL 0] [] (dA D_X1_likely 35 rfl) cw_RX1_66 rfl rfl (Nat.le_of_ble_eq_true rfl) hd1 (zk k) (zk n) (T_fillL hS h2 (by omega) (fun M3 p5 hM3 => ?_)) (kU (fun _ h => h))
    have h := h M3 p5 hM3
    show X G Y_X1_likely d k n 70 [vA 51, vI x1, vI x2] [] M3 Q
    refine x_iconst (dA D_X1_likely 36 rfl) ?_
    refine x_istore_n (xs' := [vA 51, vI x1, vI 0]) (dA D_X1_likely 37 rfl) (by decide) rfl ?_
    exact h
  · have h := h.2 c
    refine x_aload_n (dA D_X1_likely 17 rfl) rfl ?_
    refine x_get (v := vA 52) (dA D_X1_likely 18 rfl) fw_RX1_13 (sO_51 hS) (congrArg (rfV G) (sR_51_2 hS)) ?_
    refine x_iconst (dA D_X1_likely 19 rfl) ?_
    refine x_aload_n (dA D_X1_likely 20 rfl) rfl ?_
    refine x_get (v := vA 53) (dA D_X1_likely 21 rfl) fw_RX1_17 (sO_51 hS) (congrArg (rfV G) (sR_51_3 hS)) ?_
    refine x_iconst (dA D_X1_likely 22 rfl) ?_
    refine x_aload_n (dA D_X1_likely 23 rfl) rfl ?_
    refine x_get (v := vA 52) (dA D_X1_likely 24 rfl) fw_RX1_13 (sO_51 hS) (congrArg (rfV G) (sR_51_2 hS)) ?_
    refine x_alenC (len := 84) (by decide) (by decide) (dA D_X1_likely 25 rfl) (sO_52 hS) (sL_52 hS) ?_
    obtain ⟨h7, h⟩ := h
    obtain ⟨h8, h⟩ := h
    obtain ⟨h9, h⟩ := h
    obtain ⟨h10, h⟩ := h
    refine x_copy 21 [] (by decide) (dA D_X1_likely 26 rfl) ⟨ml_RX1_57, w_an, w_as, w_ai⟩ (by decide) hd1 h7 h8 (by decide) (by decide) (by decide) h9 h10 (fun e => absurd e (by decide)) ?_
    refine x_nmM (fun M6 eM6 => ?_)
    obtain ⟨hM6, h⟩ := h M6 eM6
    refine x_aload_n (dA D_X1_likely 27 rfl) rfl ?_
    refine x_iload_n (dA D_X1_likely 28 rfl) rfl ?_
    refine x_callV 1 [vI x2] [] (dA D_X1_likely 29 rfl) cw_RX1_63 rfl rfl (Nat.le_of_ble_eq_true rfl) (by decide) rfl hd1 (zk k) (zk n) (sO_51 hM6) h (kU (fun M11 h => ?_))
    obtain ⟨hM11, h⟩ := h
    refine x_iinc (xs' := [vA 51, vI x1, vI (x2 + (-1))]) (dA D_X1_likely 30 rfl) rfl (by decide) rfl ?_
    refine x_goto (tgt := 29) (dA D_X1_likely 31 rfl) (by decide) ?_
    exact h
set_option maxRecDepth 100000 in
theorem B_X1_likely_72 {G : GG} {d : Nat} {k n : Nat} {x1 x2 : Int} {M : MM} {Q : PV → MM → Prop} (hd : 2 ≤ d) (hS : Sh M) (h : inR x2 ∧ ((6 ≤ x2 → Ar M (56 : Int) 0 14 ∧ ((∀ i : Int, 0 ≤ i → i < 14 → 0 ≤ rd M (56 : Int) i ∧ rd M (56 : Int) i ≤ 4000000000000000000)) ∧ vl (rd M (56 : Int)) 0 14 < Bp 14 ∧ ∀ M5, (Ch M M5 (56 : Int) 0 14 ∧ nrm (rd M5 (56 : Int)) 0 14 ∧ vl (rd M5 (56 : Int)) 0 14 = vl (rd M (56 : Int)) 0 14) → Sh M5 → okO M5 52 21 ∧ okO M5 55 21 ∧ 0 ≤ (x1 * 14) ∧ (x1 * 14) + 14 ≤ (mT M5 52).2 ∧ 0 + 14 ≤ (mT M5 55).2 ∧ ∀ M8, M8 = cpM M5 52 (x1 * 14) 55 0 14 → Sh M8 ∧ fill1 M8 (54 : Int) 21 ∧ ∀ M15, (∃ len : Int, (mT M8 (54 : Int)).2 = len ∧ Ch M8 M15 (54 : Int) 0 len.toNat ∧ ∀ i : Int, 0 ≤ i → i < len → rd M15 (54 : Int) i = (0 : Int)) → Sh M15 → (0 ≤ (14 : Int) ∧ (14 : Int) ≤ 14) ∧ Ar M15 (56 : Int) 0 ((14 : Int)).toNat ∧ Ar M15 (54 : Int) (0 : Int) ((14 : Int)).toNat ∧ nrm (rd M15 (56 : Int)) 0 ((14 : Int)).toNat ∧ nrm (rd M15 (54 : Int)) (0 : Int) ((14 : Int)).toNat ∧ inR (cmpI (vl (rd M15 (56 : Int)) 0 ((14 : Int)).toNat) (vl (rd M15 (54 : Int)) (0 : Int) ((14 : Int)).toNat)) ∧ (((cmpI (vl (rd M15 (56 : Int)) 0 ((14 : Int)).toNat) (vl (rd M15 (54 : Int)) (0 : Int) ((14 : Int)).toNat)) ≠ 0 → C G Y_X1_millionths (d - 1) 0 0 [vA 51] M15 (rI (fun r25 M24 => Sh M24 ∧ Q (vI r25) M24))) ∧ ((cmpI (vl (rd M15 (56 : Int)) 0 ((14 : Int)).toNat) (vl (rd M15 (54 : Int)) (0 : Int) ((14 : Int)).toNat)) = 0 → Q (vI (-1)) M15))) ∧ (x2 < 6 → (0 ≤ (14 : Int) ∧ (14 : Int) ≤ 14) ∧ Ar M (56 : Int) 0 ((14 : Int)).toNat ∧ Ar M (52 : Int) (x2 * 14) ((14 : Int)).toNat ∧ (56 : Int) ≠ (52 : Int) ∧ ∀ M30, (Ch M M30 (56 : Int) 0 ((14 : Int)).toNat ∧ ∀ i : Int, 0 ≤ i → i < (14 : Int) → rd M30 (56 : Int) i = rd M (56 : Int) i + rd M (52 : Int) ((x2 * 14) + i) * (1 : Int)) → Sh M30 → X G Y_X1_likely d k n 72 [vA 51, vI x1, vI (x2 + 1)] [] M30 Q))) : X G Y_X1_likely d k n 72 [vA 51, vI x1, vI x2] [] M Q := by
  have hd1 : 1 ≤ d := by omega
  refine x_iload_n (dA D_X1_likely 38 rfl) rfl ?_
  refine x_bipush (dA D_X1_likely 39 rfl) (by decide) (by decide) ?_
  obtain ⟨h1, h⟩ := h
  refine x_icmp_geP (tgt := 102) (dA D_X1_likely 40 rfl) (by decide) h1 ⟨by decide, by decide⟩ ⟨fun c => ?_, fun c => ?_⟩
  · have h := h.1 c
    refine x_aload_n (dA D_X1_likely 53 rfl) rfl ?_
    refine x_get (v := vA 56) (dA D_X1_likely 54 rfl) fw_RX1_26 (sO_51 hS) (congrArg (rfV G) (sR_51_6 hS)) ?_
    obtain ⟨h2, h⟩ := h
    obtain ⟨h3, h⟩ := h
    obtain ⟨h4, h⟩ := h
    refine x_callS [vA 56] [] (dA D_X1_likely 55 rfl) cw_RX1_76 rfl rfl (Nat.le_of_ble_eq_true rfl) hd1 (zk k) (zk n) (T_X2_carry hS h2 h3 h4 (by omega) (fun M5 p7 hM5 => ?_)) (kU (fun _ h => h))
    have h := h M5 p7 hM5
    show X G Y_X1_likely d k n 109 [vA 51, vI x1, vI x2] [] M5 Q
    refine x_aload_n (dA D_X1_likely 56 rfl) rfl ?_
    refine x_get (v := vA 52) (dA D_X1_likely 57 rfl) fw_RX1_13 (sO_51 hM5) (congrArg (rfV G) (sR_51_2 hM5)) ?_
    refine x_iload_n (dA D_X1_likely 58 rfl) rfl ?_
    refine x_bipush (dA D_X1_likely 59 rfl) (by decide) (by decide) ?_
    refine x_imul (dA D_X1_likely 60 rfl) ?_
    refine x_aload_n (dA D_X1_likely 61 rfl) rfl ?_
    refine x_get (v := vA 55) (dA D_X1_likely 62 rfl) fw_RX1_23 (sO_51 hM5) (congrArg (rfV G) (sR_51_5 hM5)) ?_
    refine x_iconst (dA D_X1_likely 63 rfl) ?_
    refine x_bipush (dA D_X1_likely 64 rfl) (by decide) (by decide) ?_
    obtain ⟨h9, h⟩ := h
    obtain ⟨h10, h⟩ := h
    obtain ⟨h11, h⟩ := h
    obtain ⟨h12, h⟩ := h
    obtain ⟨h13, h⟩ := h
    refine x_copy 21 [] (by decide) (dA D_X1_likely 65 rfl) ⟨ml_RX1_57, w_an, w_as, w_ai⟩ (by decide) hd1 h9 h10 h11 (by decide) (by decide) h12 h13 (fun e => absurd e (by decide)) ?_
    refine x_nmM (fun M8 eM8 => ?_)
    obtain ⟨hM8, h⟩ := h M8 eM8
    refine x_aload_n (dA D_X1_likely 66 rfl) rfl ?_
    refine x_get (v := vA 54) (dA D_X1_likely 67 rfl) fw_RX1_20 (sO_51 hM8) (congrArg (rfV G) (sR_51_4 hM8)) ?_
    refine x_lconst (a := 0) (dA D_X1_likely 68 rfl) (by decide) ?_
    obtain ⟨h14, h⟩ := h
    refine x_callS [vA 54, vL 0] [] (dA D_X1_likely 69 rfl) cw_RX1_66 rfl rfl (Nat.le_of_ble_eq_true rfl) hd1 (zk k) (zk n) (T_fillL hM8 h14 (by omega) (fun M15 p17 hM15 => ?_)) (kU (fun _ h => h))
    have h := h M15 p17 hM15
    show X G Y_X1_likely d k n 135 [vA 51, vI x1, vI x2] [] M15 Q
    refine x_aload_n (dA D_X1_likely 70 rfl) rfl ?_
    refine x_get (v := vA 56) (dA D_X1_likely 71 rfl) fw_RX1_26 (sO_51 hM15) (congrArg (rfV G) (sR_51_6 hM15)) ?_
    refine x_aload_n (dA D_X1_likely 72 rfl) rfl ?_
    refine x_get (v := vA 54) (dA D_X1_likely 73 rfl) fw_RX1_20 (sO_51 hM15) (congrArg (rfV G) (sR_51_4 hM15)) ?_
    refine x_iconst (dA D_X1_likely 74 rfl) ?_
    refine x_bipush (dA D_X1_likely 75 rfl) (by decide) (by decide) ?_
    obtain ⟨h18, h⟩ := h
    obtain ⟨h19, h⟩ := h
    obtain ⟨h20, h⟩ := h
    obtain ⟨h21, h⟩ := h
    obtain ⟨h22, h⟩ := h
    refine x_callS [vA 56, vA 54, vI 0, vI 14] [] (dA D_X1_likely 76 rfl) cw_RX1_80 rfl rfl (Nat.le_of_ble_eq_true rfl) hd1 (zk k) (zk n) (T_X2_compare h18 h19 h20 h21 h22 (by omega) ?_) (kI (fun _ _ h => h))
    show X G Y_X1_likely d k n 149 [vA 51, vI x1, vI x2] [vI (cmpI (vl (rd M15 (56 : Int)) 0 ((14 : Int)).toNat) (vl (rd M15 (54 : Int)) (0 : Int) ((14 : Int)).toNat))] M15 Q
    obtain ⟨h23, h⟩ := h
    refine x_if_neP (tgt := 156) (dA D_X1_likely 77 rfl) (by decide) h23 ⟨fun c => ?_, fun c => ?_⟩
    · have h := h.1 c
      refine x_aload_n (dA D_X1_likely 80 rfl) rfl ?_
      refine x_callV 1 [] [] (dA D_X1_likely 81 rfl) cw_RX1_84 rfl rfl (Nat.le_of_ble_eq_true rfl) (by decide) rfl hd1 (zk k) (zk n) (sO_51 hM15) h (kI (fun r25 M24 h => ?_))
      obtain ⟨hM24, h⟩ := h
      exact x_ireturn (dA D_X1_likely 82 rfl) rfl h
    · have h := h.2 c
      refine x_iconst (dA D_X1_likely 78 rfl) ?_
      refine x_goto (tgt := 160) (dA D_X1_likely 79 rfl) (by decide) ?_
      exact x_ireturn (dA D_X1_likely 82 rfl) rfl h
  · have h := h.2 c
    refine x_aload_n (dA D_X1_likely 41 rfl) rfl ?_
    refine x_get (v := vA 56) (dA D_X1_likely 42 rfl) fw_RX1_26 (sO_51 hS) (congrArg (rfV G) (sR_51_6 hS)) ?_
    refine x_aload_n (dA D_X1_likely 43 rfl) rfl ?_
    refine x_get (v := vA 52) (dA D_X1_likely 44 rfl) fw_RX1_13 (sO_51 hS) (congrArg (rfV G) (sR_51_2 hS)) ?_
    refine x_iload_n (dA D_X1_likely 45 rfl) rfl ?_
    refine x_bipush (dA D_X1_likely 46 rfl) (by decide) (by decide) ?_
    refine x_imul (dA D_X1_likely 47 rfl) ?_
    refine x_bipush (dA D_X1_likely 48 rfl) (by decide) (by decide) ?_
    refine x_lconst (a := 1) (dA D_X1_likely 49 rfl) (by decide) ?_
    obtain ⟨h26, h⟩ := h
    obtain ⟨h27, h⟩ := h
    obtain ⟨h28, h⟩ := h
    obtain ⟨h29, h⟩ := h
    refine x_callS [vA 56, vA 52, vI (x2 * 14), vI 14, vL 1] [] (dA D_X1_likely 50 rfl) cw_RX1_72 rfl rfl (Nat.le_of_ble_eq_true rfl) hd1 (zk k) (zk n) (T_X2_addTimes hS h26 h27 h28 h29 (by omega) (fun M30 p32 hM30 => ?_)) (kU (fun _ h => h))
    have h := h M30 p32 hM30
    show X G Y_X1_likely d k n 96 [vA 51, vI x1, vI x2] [] M30 Q
    refine x_iinc (xs' := [vA 51, vI x1, vI (x2 + 1)]) (dA D_X1_likely 51 rfl) rfl (by decide) rfl ?_
    refine x_goto (tgt := 72) (dA D_X1_likely 52 rfl) (by decide) ?_
    exact h
set_option maxRecDepth 100000 in
theorem B_X12_pass_0 {G : GG} {d : Nat} {k n : Nat} {x1 x2 x3 x4 : Int} {M : MM} {Q : PV → MM → Prop} (hd : 1 ≤ d) (hS : Sh M) (h : X G Y_X12_pass d k n 3 [vA 67, vI x1, vI x2, vI x3, vI x4, vI 0, vU, vU, vU, vU] [] M Q) : X G Y_X12_pass d k n 0 [vA 67, vI x1, vI x2, vI x3, vI x4, vU, vU, vU, vU, vU] [] M Q := by
  have hd1 : 1 ≤ d := by omega
  refine x_iconst (dA D_X12_pass 0 rfl) ?_
  refine x_istore (xs' := [vA 67, vI x1, vI x2, vI x3, vI x4, vI 0, vU, vU, vU, vU]) (dA D_X12_pass 1 rfl) (by decide) rfl ?_
  exact h
theorem C_X12_pass {G : GG} {d : Nat} {x1 x2 x3 x4 : Int} {M : MM} {Q : PV → MM → Prop} (h : X G Y_X12_pass d 0 0 0 [vA 67, vI x1, vI x2, vI x3, vI x4, vU, vU, vU, vU, vU] [] M Q) : C G Y_X12_pass d 0 0 [vA 67, vI x1, vI x2, vI x3, vI x4] M Q := X.entry (by decide) (Nat.le_of_ble_eq_true rfl) rfl rfl rfl h
set_option maxRecDepth 100000 in
theorem B_X12_pass_3 {G : GG} {d : Nat} {k n : Nat} {x1 x2 x3 x4 x5 : Int} {M : MM} {Q : PV → MM → Prop} (hd : 1 ≤ d) (hS : Sh M) (h : inR x5 ∧ ((504 ≤ x5 → X G Y_X12_pass d k n 28 [vA 67, vI x1, vI x2, vI x3, vI x4, vI 0, vU, vU, vU, vU] [] M Q) ∧ (x5 < 504 → 0 ≤ x5 ∧ x5 < 504 ∧ ∀ M4, M4 = wr M 91 x5 0 → Sh M4 → X G Y_X12_pass d k n 3 [vA 67, vI x1, vI x2, vI x3, vI x4, vI (x5 + 1), vU, vU, vU, vU] [] M4 Q))) : X G Y_X12_pass d k n 3 [vA 67, vI x1, vI x2, vI x3, vI x4, vI x5, vU, vU, vU, vU] [] M Q := by
  have hd1 : 1 ≤ d := by omega
  refine x_iload (dA D_X12_pass 2 rfl) rfl ?_
  refine x_sipush (dA D_X12_pass 3 rfl) (by decide) (by decide) ?_
  obtain ⟨h1, h⟩ := h
  refine x_icmp_geP (tgt := 25) (dA D_X12_pass 4 rfl) (by decide) h1 ⟨by decide, by decide⟩ ⟨fun c => ?_, fun c => ?_⟩
  · have h := h.1 c
    refine x_iconst (dA D_X12_pass 12 rfl) ?_
    refine x_istore (xs' := [vA 67, vI x1, vI x2, vI x3, vI x4, vI 0, vU, vU, vU, vU]) (dA D_X12_pass 13 rfl) (by decide) rfl ?_
    exact h
  · have h := h.2 c
    refine x_aload_n (dA D_X12_pass 5 rfl) rfl ?_
    refine x_get (v := vA 91) (dA D_X12_pass 6 rfl) fw_RX12_103 (sO_67 hS) (congrArg (rfV G) (sR_67_46 hS)) ?_
    refine x_iload (dA D_X12_pass 7 rfl) rfl ?_
    refine x_lconst (a := 0) (dA D_X12_pass 8 rfl) (by decide) ?_
    obtain ⟨h2, h⟩ := h
    obtain ⟨h3, h⟩ := h
    refine x_last (dA D_X12_pass 9 rfl) (sA_91 hS h2 h3) ?_
    refine x_nmM (fun M4 eM4 => ?_)
    have hM4 : Sh M4 := eM4 ▸ (sW_91 hS)
    have h := h M4 eM4 hM4
    refine x_iinc (xs' := [vA 67, vI x1, vI x2, vI x3, vI x4, vI (x5 + 1), vU, vU, vU, vU]) (dA D_X12_pass 10 rfl) rfl (by decide) rfl ?_
    refine x_goto (tgt := 3) (dA D_X12_pass 11 rfl) (by decide) ?_
    exact h
set_option maxRecDepth 100000 in
theorem B_X12_pass_28 {G : GG} {d : Nat} {k n : Nat} {x1 x2 x3 x4 x5 : Int} {sm : Int → LSm} {M : MM} {Q : PV → MM → Prop} (hd : 7 ≤ d) (hS : Sh M) (h : inR x5 ∧ ((36 ≤ x5 → X G Y_X12_pass d k n 208 [vA 67, vI x1, vI x2, vI x3, vI x4, vI 0, vU, vU, vU, vU] [] M Q) ∧ (x5 < 36 → ∀ v2, v2 = Int.tdiv x5 6 → ∀ v3, v3 = Int.tmod x5 6 → MOK M sm ∧ (((0 : Int) = 0 ∨ (0 : Int) = 1)) ∧ rngS x1 x2 x3 v2 v3 ∧ ∀ r8 M7, (Fr KA M M7 ∧ r8 = chn (rd M 69) sm (0 : Int) x1 x2 x3 v2 v3) → Sh M7 → (0 ≤ (0 : Int) ∧ (0 : Int) ≤ 1) ∧ (0 ≤ v2 ∧ v2 < 6) ∧ (0 ≤ r8 ∧ r8 ≤ 100) ∧ ∀ M13, (Ch M7 M13 87 (36 * (0 : Int) + 6 * v2) 6 ∧ ∀ k : Int, 0 ≤ k → k ≤ v2 → rd M13 87 (36 * (0 : Int) + 6 * v2 + k) = stv v2 r8 k) → Sh M13 → MOK M13 sm ∧ (((1 : Int) = 0 ∨ (1 : Int) = 1)) ∧ ∀ r19 M18, (Fr KA M13 M18 ∧ r19 = chn (rd M13 69) sm (1 : Int) x1 x2 x3 v2 v3) → Sh M18 → (0 ≤ (1 : Int) ∧ (1 : Int) ≤ 1) ∧ (0 ≤ v3 ∧ v3 < 6) ∧ (0 ≤ r19 ∧ r19 ≤ 100) ∧ ∀ M24, (Ch M18 M24 87 (36 * (1 : Int) + 6 * v3) 6 ∧ ∀ k : Int, 0 ≤ k → k ≤ v3 → rd M24 87 (36 * (1 : Int) + 6 * v3 + k) = stv v3 r19 k) → Sh M24 → X G Y_X12_pass d k n 90 [vA 67, vI x1, vI x2, vI x3, vI x4, vI x5, vI v2, vI v3, vI 0, vU] [] M24 Q))) : X G Y_X12_pass d k n 28 [vA 67, vI x1, vI x2, vI x3, vI x4, vI x5, vU, vU, vU, vU] [] M Q := by
  have hd1 : 1 ≤ d := by omega
  refine x_iload (dA D_X12_pass 14 rfl) rfl ?_
  refine x_bipush (dA D_X12_pass 15 rfl) (by decide) (by decide) ?_
  obtain ⟨h1, h⟩ := h
  refine x_icmp_geP (tgt := 205) (dA D_X12_pass 16 rfl) (by decide) h1 ⟨by decide, by decide⟩ ⟨fun c => ?_, fun c => ?_⟩
  · have h := h.1 c
    refine x_iconst (dA D_X12_pass 111 rfl) ?_
    refine x_istore (xs' := [vA 67, vI x1, vI x2, vI x3, vI x4, vI 0, vU, vU, vU, vU]) (dA D_X12_pass 112 rfl) (by decide) rfl ?_
    exact h
  · have h := h.2 c
    refine x_iload (dA D_X12_pass 17 rfl) rfl ?_
    refine x_bipush (dA D_X12_pass 18 rfl) (by decide) (by decide) ?_
    refine x_idiv (dA D_X12_pass 19 rfl) h1 ⟨by decide, by decide⟩ (by decide) ?_
    refine x_nmI (fun v2 ev2 => ?_)
    have h := h v2 ev2
    refine x_istore (xs' := [vA 67, vI x1, vI x2, vI x3, vI x4, vI x5, vI v2, vU, vU, vU]) (dA D_X12_pass 20 rfl) (by decide) rfl ?_
    refine x_iload (dA D_X12_pass 21 rfl) rfl ?_
    refine x_bipush (dA D_X12_pass 22 rfl) (by decide) (by decide) ?_
    refine x_irem (dA D_X12_pass 23 rfl) h1 ⟨by decide, by decide⟩ (by decide) ?_
    refine x_nmI (fun v3 ev3 => ?_)
    have h := h v3 ev3
    refine x_istore (xs' := [vA 67, vI x1, vI x2, vI x3, vI x4, vI x5, vI v2, vI v3, vU, vU]) (dA D_X12_pass 24 rfl) (by decide) rfl ?_
    refine x_aload_n (dA D_X12_pass 25 rfl) rfl ?_
    refine x_iconst (dA D_X12_pass 26 rfl) ?_
    refine x_iload (dA D_X12_pass 27 rfl) rfl ?_
    refine x_aload_n (dA D_X12_pass 28 rfl) rfl ?_
    refine x_iconst (dA D_X12_pass 29 rfl) ?_
    refine x_iload_n (dA D_X12_pass 30 rfl) rfl ?_
    refine x_iload_n (dA D_X12_pass 31 rfl) rfl ?_
    refine x_iload_n (dA D_X12_pass 32 rfl) rfl ?_
    refine x_iload (dA D_X12_pass 33 rfl) rfl ?_
    refine x_iload (dA D_X12_pass 34 rfl) rfl ?_
    obtain ⟨h4, h⟩ := h
    obtain ⟨h5, h⟩ := h
    obtain ⟨h6, h⟩ := h
    refine x_callV 11 [vI 0, vI x1, vI x2, vI x3, vI v2, vI v3] [vI v2, vI 0, vA 67] (dA D_X12_pass 35 rfl) cw_RX12_388 rfl rfl (Nat.le_of_ble_eq_true rfl) (by decide) rfl hd1 (zk k) (zk n) (sO_67 hS) (T_X12_chance hS h4 h5 h6 (by omega) (fun r8 M7 p9 hM7 => ?_)) (kI (fun _ _ h => h))
    have h := h r8 M7 p9 hM7
    show X G Y_X12_pass d k n 65 [vA 67, vI x1, vI x2, vI x3, vI x4, vI x5, vI v2, vI v3, vU, vU] [vI r8, vI v2, vI 0, vA 67] M7 Q
    obtain ⟨h10, h⟩ := h
    obtain ⟨h11, h⟩ := h
    obtain ⟨h12, h⟩ := h
    refine x_callV 11 [vI 0, vI v2, vI r8] [] (dA D_X12_pass 36 rfl) cw_RX12_392 rfl rfl (Nat.le_of_ble_eq_true rfl) (by decide) rfl hd1 (zk k) (zk n) (sO_67 hM7) (T_X12_findStays hM7 h10 h11 h12 (by omega) (fun M13 p15 hM13 => ?_)) (kU (fun _ h => h))
    have h := h M13 p15 hM13
    show X G Y_X12_pass d k n 68 [vA 67, vI x1, vI x2, vI x3, vI x4, vI x5, vI v2, vI v3, vU, vU] [] M13 Q
    refine x_aload_n (dA D_X12_pass 37 rfl) rfl ?_
    refine x_iconst (dA D_X12_pass 38 rfl) ?_
    refine x_iload (dA D_X12_pass 39 rfl) rfl ?_
    refine x_aload_n (dA D_X12_pass 40 rfl) rfl ?_
    refine x_iconst (dA D_X12_pass 41 rfl) ?_
    refine x_iload_n (dA D_X12_pass 42 rfl) rfl ?_
    refine x_iload_n (dA D_X12_pass 43 rfl) rfl ?_
    refine x_iload_n (dA D_X12_pass 44 rfl) rfl ?_
    refine x_iload (dA D_X12_pass 45 rfl) rfl ?_
    refine x_iload (dA D_X12_pass 46 rfl) rfl ?_
    obtain ⟨h16, h⟩ := h
    obtain ⟨h17, h⟩ := h
    refine x_callV 11 [vI 1, vI x1, vI x2, vI x3, vI v2, vI v3] [vI v3, vI 1, vA 67] (dA D_X12_pass 47 rfl) cw_RX12_388 rfl rfl (Nat.le_of_ble_eq_true rfl) (by decide) rfl hd1 (zk k) (zk n) (sO_67 hM13) (T_X12_chance hM13 h16 h17 h6 (by omega) (fun r19 M18 p20 hM18 => ?_)) (kI (fun _ _ h => h))
    have h := h r19 M18 p20 hM18
    show X G Y_X12_pass d k n 84 [vA 67, vI x1, vI x2, vI x3, vI x4, vI x5, vI v2, vI v3, vU, vU] [vI r19, vI v3, vI 1, vA 67] M18 Q
    obtain ⟨h21, h⟩ := h
    obtain ⟨h22, h⟩ := h
    obtain ⟨h23, h⟩ := h
    refine x_callV 11 [vI 1, vI v3, vI r19] [] (dA D_X12_pass 48 rfl) cw_RX12_392 rfl rfl (Nat.le_of_ble_eq_true rfl) (by decide) rfl hd1 (zk k) (zk n) (sO_67 hM18) (T_X12_findStays hM18 h21 h22 h23 (by omega) (fun M24 p26 hM24 => ?_)) (kU (fun _ h => h))
    have h := h M24 p26 hM24
    show X G Y_X12_pass d k n 87 [vA 67, vI x1, vI x2, vI x3, vI x4, vI x5, vI v2, vI v3, vU, vU] [] M24 Q
    refine x_iconst (dA D_X12_pass 49 rfl) ?_
    refine x_istore (xs' := [vA 67, vI x1, vI x2, vI x3, vI x4, vI x5, vI v2, vI v3, vI 0, vU]) (dA D_X12_pass 50 rfl) (by decide) rfl ?_
    exact h
set_option maxRecDepth 100000 in
theorem B_X12_pass_90 {G : GG} {d : Nat} {k n : Nat} {x1 x2 x3 x4 x5 x6 x7 x8 : Int} {M : MM} {Q : PV → MM → Prop} (hd : 2 ≤ d) (hS : Sh M) (h : inR x8 ∧ inR x6 ∧ ((x6 < x8 → X G Y_X12_pass d k n 28 [vA 67, vI x1, vI x2, vI x3, vI x4, vI (x5 + 1), vU, vU, vU, vU] [] M Q) ∧ (x8 ≤ x6 → ∀ v3, v3 = x4 - x8 → inR v3 ∧ inR x7 ∧ ((((v3 < 0) ∨ (x7 < v3)) → X G Y_X12_pass d k n 90 [vA 67, vI x1, vI x2, vI x3, vI x4, vI x5, vI x6, vI x7, vI (x8 + 1), vU] [] M Q) ∧ (¬ ((v3 < 0) ∨ (x7 < v3)) → Ar M (84 : Int) (0 : Int) 14 ∧ ∀ M15, (Ch M M15 (84 : Int) (0 : Int) 14 ∧ ∀ i : Int, 0 ≤ i → i < 14 → rd M15 (84 : Int) ((0 : Int) + i) = 0) → Sh M15 → 0 ≤ ((36 + (6 * x7)) + v3) ∧ ((36 + (6 * x7)) + v3) < 72 ∧ Ar M15 (84 : Int) (0 : Int) 14 ∧ Ar M15 (90 : Int) (14 * x5) 14 ∧ (84 : Int) ≠ (90 : Int) ∧ nrm (rd M15 (84 : Int)) (0 : Int) 14 ∧ nrm (rd M15 (90 : Int)) (14 * x5) 14 ∧ (0 ≤ (rd M15 87 ((36 + (6 * x7)) + v3)) ∧ (rd M15 87 ((36 + (6 * x7)) + v3)) ≤ 10000000000) ∧ vl (rd M15 (84 : Int)) (0 : Int) 14 + vl (rd M15 (90 : Int)) (14 * x5) 14 * (rd M15 87 ((36 + (6 * x7)) + v3)) < Bp 14 ∧ ∀ M27, (Ch M15 M27 (84 : Int) (0 : Int) 14 ∧ nrm (rd M27 (84 : Int)) (0 : Int) 14 ∧ vl (rd M27 (84 : Int)) (0 : Int) 14 = vl (rd M15 (84 : Int)) (0 : Int) 14 + vl (rd M15 (90 : Int)) (14 * x5) 14 * (rd M15 87 ((36 + (6 * x7)) + v3))) → Sh M27 → 0 ≤ ((6 * x6) + x8) ∧ ((6 * x6) + x8) < 72 ∧ Ar M27 (91 : Int) (14 * ((6 * x8) + v3)) 14 ∧ Ar M27 (84 : Int) (0 : Int) 14 ∧ (91 : Int) ≠ (84 : Int) ∧ nrm (rd M27 (91 : Int)) (14 * ((6 * x8) + v3)) 14 ∧ nrm (rd M27 (84 : Int)) (0 : Int) 14 ∧ (0 ≤ (rd M27 87 ((6 * x6) + x8)) ∧ (rd M27 87 ((6 * x6) + x8)) ≤ 10000000000) ∧ vl (rd M27 (91 : Int)) (14 * ((6 * x8) + v3)) 14 + vl (rd M27 (84 : Int)) (0 : Int) 14 * (rd M27 87 ((6 * x6) + x8)) < Bp 14 ∧ ∀ M39, (Ch M27 M39 (91 : Int) (14 * ((6 * x8) + v3)) 14 ∧ nrm (rd M39 (91 : Int)) (14 * ((6 * x8) + v3)) 14 ∧ vl (rd M39 (91 : Int)) (14 * ((6 * x8) + v3)) 14 = vl (rd M27 (91 : Int)) (14 * ((6 * x8) + v3)) 14 + vl (rd M27 (84 : Int)) (0 : Int) 14 * (rd M27 87 ((6 * x6) + x8))) → Sh M39 → X G Y_X12_pass d k n 90 [vA 67, vI x1, vI x2, vI x3, vI x4, vI x5, vI x6, vI x7, vI (x8 + 1), vU] [] M39 Q))))) : X G Y_X12_pass d k n 90 [vA 67, vI x1, vI x2, vI x3, vI x4, vI x5, vI x6, vI x7, vI x8, vU] [] M Q := by
  have hd1 : 1 ≤ d := by omega
  refine x_iload (dA D_X12_pass 51 rfl) rfl ?_
  refine x_iload (dA D_X12_pass 52 rfl) rfl ?_
  obtain ⟨h1, h⟩ := h
  obtain ⟨h2, h⟩ := h
  refine x_icmp_gtP (tgt := 199) (dA D_X12_pass 53 rfl) (by decide) h1 h2 ⟨fun c => ?_, fun c => ?_⟩
  · have h := h.1 c
    refine x_iinc (xs' := [vA 67, vI x1, vI x2, vI x3, vI x4, vI (x5 + 1), vI x6, vI x7, vI x8, vU]) (dA D_X12_pass 109 rfl) rfl (by decide) rfl ?_
    refine x_goto (tgt := 28) (dA D_X12_pass 110 rfl) (by decide) ?_
    refine X.weak (xs' := [vA 67, vI x1, vI x2, vI x3, vI x4, vI (x5 + 1), vU, vU, vU, vU]) ⟨Or.inl rfl, Or.inl rfl, Or.inl rfl, Or.inl rfl, Or.inl rfl, Or.inl rfl, Or.inr rfl, Or.inr rfl, Or.inr rfl, Or.inl rfl, trivial⟩ ?_
    exact h
  · have h := h.2 c
    refine x_iload (dA D_X12_pass 54 rfl) rfl ?_
    refine x_iload (dA D_X12_pass 55 rfl) rfl ?_
    refine x_isub (dA D_X12_pass 56 rfl) ?_
    refine x_nmI (fun v3 ev3 => ?_)
    have h := h v3 ev3
    refine x_istore (xs' := [vA 67, vI x1, vI x2, vI x3, vI x4, vI x5, vI x6, vI x7, vI x8, vI v3]) (dA D_X12_pass 57 rfl) (by decide) rfl ?_
    refine x_iload (dA D_X12_pass 58 rfl) rfl ?_
    obtain ⟨h5, h⟩ := h
    obtain ⟨h9, h⟩ := h
    have hA : ((v3 < 0) ∨ (x7 < v3)) → X G Y_X12_pass d k n 193 [vA 67, vI x1, vI x2, vI x3, vI x4, vI x5, vI x6, vI x7, vI x8, vI v3] [] M Q := by
      intro c42
      have h := h.1 c42
      refine x_iinc (xs' := [vA 67, vI x1, vI x2, vI x3, vI x4, vI x5, vI x6, vI x7, vI (x8 + 1), vI v3]) (dA D_X12_pass 107 rfl) rfl (by decide) rfl ?_
      refine x_goto (tgt := 90) (dA D_X12_pass 108 rfl) (by decide) ?_
      refine X.weak (xs' := [vA 67, vI x1, vI x2, vI x3, vI x4, vI x5, vI x6, vI x7, vI (x8 + 1), vU]) ⟨Or.inl rfl, Or.inl rfl, Or.inl rfl, Or.inl rfl, Or.inl rfl, Or.inl rfl, Or.inl rfl, Or.inl rfl, Or.inl rfl, Or.inr rfl, trivial⟩ ?_
      exact h
    have hB : ¬ ((v3 < 0) ∨ (x7 < v3)) → X G Y_X12_pass d k n 116 [vA 67, vI x1, vI x2, vI x3, vI x4, vI x5, vI x6, vI x7, vI x8, vI v3] [] M Q := by
      intro c42
      have h := h.2 c42
      refine x_aload_n (dA D_X12_pass 63 rfl) rfl ?_
      refine x_get (v := vA 84) (dA D_X12_pass 64 rfl) fw_RX12_79 (sO_67 hS) (congrArg (rfV G) (sR_67_35 hS)) ?_
      refine x_iconst (dA D_X12_pass 65 rfl) ?_
      obtain ⟨h14, h⟩ := h
      refine x_callS [vA 84, vI 0] [] (dA D_X12_pass 66 rfl) cw_RX12_376 rfl rfl (Nat.le_of_ble_eq_true rfl) hd1 (zk k) (zk n) (T_X12_clear hS h14 (by omega) (fun M15 p17 hM15 => ?_)) (kU (fun _ h => h))
      have h := h M15 p17 hM15
      show X G Y_X12_pass d k n 124 [vA 67, vI x1, vI x2, vI x3, vI x4, vI x5, vI x6, vI x7, vI x8, vI v3] [] M15 Q
      refine x_aload_n (dA D_X12_pass 67 rfl) rfl ?_
      refine x_get (v := vA 84) (dA D_X12_pass 68 rfl) fw_RX12_79 (sO_67 hM15) (congrArg (rfV G) (sR_67_35 hM15)) ?_
      refine x_iconst (dA D_X12_pass 69 rfl) ?_
      refine x_aload_n (dA D_X12_pass 70 rfl) rfl ?_
      refine x_get (v := vA 90) (dA D_X12_pass 71 rfl) fw_RX12_100 (sO_67 hM15) (congrArg (rfV G) (sR_67_45 hM15)) ?_
      refine x_bipush (dA D_X12_pass 72 rfl) (by decide) (by decide) ?_
      refine x_iload (dA D_X12_pass 73 rfl) rfl ?_
      refine x_imul (dA D_X12_pass 74 rfl) ?_
      refine x_aload_n (dA D_X12_pass 75 rfl) rfl ?_
      refine x_get (v := vA 87) (dA D_X12_pass 76 rfl) fw_RX12_88 (sO_67 hM15) (congrArg (rfV G) (sR_67_38 hM15)) ?_
      refine x_bipush (dA D_X12_pass 77 rfl) (by decide) (by decide) ?_
      refine x_bipush (dA D_X12_pass 78 rfl) (by decide) (by decide) ?_
      refine x_iload (dA D_X12_pass 79 rfl) rfl ?_
      refine x_imul (dA D_X12_pass 80 rfl) ?_
      refine x_iadd (dA D_X12_pass 81 rfl) ?_
      refine x_iload (dA D_X12_pass 82 rfl) rfl ?_
      refine x_iadd (dA D_X12_pass 83 rfl) ?_
      obtain ⟨h18, h⟩ := h
      obtain ⟨h19, h⟩ := h
      refine x_lald (dA D_X12_pass 84 rfl) (sA_87 hM15 h18 h19) ?_
      obtain ⟨h20, h⟩ := h
      obtain ⟨h21, h⟩ := h
      obtain ⟨h22, h⟩ := h
      obtain ⟨h23, h⟩ := h
      obtain ⟨h24, h⟩ := h
      obtain ⟨h25, h⟩ := h
      obtain ⟨h26, h⟩ := h
      refine x_callS [vA 84, vI 0, vA 90, vI (14 * x5), vL (rd M15 87 ((36 + (6 * x7)) + v3))] [] (dA D_X12_pass 85 rfl) cw_RX12_399 rfl rfl (Nat.le_of_ble_eq_true rfl) hd1 (zk k) (zk n) (T_X12_add hM15 h20 h21 h22 h23 h24 h25 h26 (by omega) (fun M27 p29 hM27 => ?_)) (kU (fun _ h => h))
      have h := h M27 p29 hM27
      show X G Y_X12_pass d k n 157 [vA 67, vI x1, vI x2, vI x3, vI x4, vI x5, vI x6, vI x7, vI x8, vI v3] [] M27 Q
      refine x_aload_n (dA D_X12_pass 86 rfl) rfl ?_
      refine x_get (v := vA 91) (dA D_X12_pass 87 rfl) fw_RX12_103 (sO_67 hM27) (congrArg (rfV G) (sR_67_46 hM27)) ?_
      refine x_bipush (dA D_X12_pass 88 rfl) (by decide) (by decide) ?_
      refine x_bipush (dA D_X12_pass 89 rfl) (by decide) (by decide) ?_
      refine x_iload (dA D_X12_pass 90 rfl) rfl ?_
      refine x_imul (dA D_X12_pass 91 rfl) ?_
      refine x_iload (dA D_X12_pass 92 rfl) rfl ?_
      refine x_iadd (dA D_X12_pass 93 rfl) ?_
      refine x_imul (dA D_X12_pass 94 rfl) ?_
      refine x_aload_n (dA D_X12_pass 95 rfl) rfl ?_
      refine x_get (v := vA 84) (dA D_X12_pass 96 rfl) fw_RX12_79 (sO_67 hM27) (congrArg (rfV G) (sR_67_35 hM27)) ?_
      refine x_iconst (dA D_X12_pass 97 rfl) ?_
      refine x_aload_n (dA D_X12_pass 98 rfl) rfl ?_
      refine x_get (v := vA 87) (dA D_X12_pass 99 rfl) fw_RX12_88 (sO_67 hM27) (congrArg (rfV G) (sR_67_38 hM27)) ?_
      refine x_bipush (dA D_X12_pass 100 rfl) (by decide) (by decide) ?_
      refine x_iload (dA D_X12_pass 101 rfl) rfl ?_
      refine x_imul (dA D_X12_pass 102 rfl) ?_
      refine x_iload (dA D_X12_pass 103 rfl) rfl ?_
      refine x_iadd (dA D_X12_pass 104 rfl) ?_
      obtain ⟨h30, h⟩ := h
      obtain ⟨h31, h⟩ := h
      refine x_lald (dA D_X12_pass 105 rfl) (sA_87 hM27 h30 h31) ?_
      obtain ⟨h32, h⟩ := h
      obtain ⟨h33, h⟩ := h
      obtain ⟨h34, h⟩ := h
      obtain ⟨h35, h⟩ := h
      obtain ⟨h36, h⟩ := h
      obtain ⟨h37, h⟩ := h
      obtain ⟨h38, h⟩ := h
      refine x_callS [vA 91, vI (14 * ((6 * x8) + v3)), vA 84, vI 0, vL (rd M27 87 ((6 * x6) + x8))] [] (dA D_X12_pass 106 rfl) cw_RX12_399 rfl rfl (Nat.le_of_ble_eq_true rfl) hd1 (zk k) (zk n) (T_X12_add hM27 h32 h33 h34 h35 h36 h37 h38 (by omega) (fun M39 p41 hM39 => ?_)) (kU (fun _ h => h))
      have h := h M39 p41 hM39
      show X G Y_X12_pass d k n 193 [vA 67, vI x1, vI x2, vI x3, vI x4, vI x5, vI x6, vI x7, vI x8, vI v3] [] M39 Q
      refine x_iinc (xs' := [vA 67, vI x1, vI x2, vI x3, vI x4, vI x5, vI x6, vI x7, vI (x8 + 1), vI v3]) (dA D_X12_pass 107 rfl) rfl (by decide) rfl ?_
      refine x_goto (tgt := 90) (dA D_X12_pass 108 rfl) (by decide) ?_
      refine X.weak (xs' := [vA 67, vI x1, vI x2, vI x3, vI x4, vI x5, vI x6, vI x7, vI (x8 + 1), vU]) ⟨Or.inl rfl, Or.inl rfl, Or.inl rfl, Or.inl rfl, Or.inl rfl, Or.inl rfl, Or.inl rfl, Or.inl rfl, Or.inl rfl, Or.inr rfl, trivial⟩ ?_
      exact h
    refine x_if_ltP (tgt := 193) (dA D_X12_pass 59 rfl) (by decide) h5 ⟨fun c4 => ?_, fun c4 => ?_⟩
    · exact hA (by first | omega | grind)
    · refine x_iload (dA D_X12_pass 60 rfl) rfl ?_
      refine x_iload (dA D_X12_pass 61 rfl) rfl ?_
      refine x_icmp_gtP (tgt := 193) (dA D_X12_pass 62 rfl) (by decide) h5 h9 ⟨fun c8 => ?_, fun c8 => ?_⟩
      · exact hA (by first | omega | grind)
      · exact hB (by first | omega | grind)
set_option maxRecDepth 100000 in
theorem B_X12_pass_208 {G : GG} {d : Nat} {k n : Nat} {x1 x2 x3 x4 x5 : Int} {M : MM} {Q : PV → MM → Prop} (hd : 1 ≤ d) (hS : Sh M) (h : inR x5 ∧ ((504 ≤ x5 → Q vU M) ∧ (x5 < 504 → 0 ≤ x5 ∧ x5 < 504 ∧ ∀ M4, M4 = wr M 90 x5 (rd M 91 x5) → Sh M4 → X G Y_X12_pass d k n 208 [vA 67, vI x1, vI x2, vI x3, vI x4, vI (x5 + 1), vU, vU, vU, vU] [] M4 Q))) : X G Y_X12_pass d k n 208 [vA 67, vI x1, vI x2, vI x3, vI x4, vI x5, vU, vU, vU, vU] [] M Q := by
  have hd1 : 1 ≤ d := by omega
  refine x_iload (dA D_X12_pass 113 rfl) rfl ?_
  refine x_sipush (dA D_X12_pass 114 rfl) (by decide) (by decide) ?_
  obtain ⟨h1, h⟩ := h
  refine x_icmp_geP (tgt := 236) (dA D_X12_pass 115 rfl) (by decide) h1 ⟨by decide, by decide⟩ ⟨fun c => ?_, fun c => ?_⟩
  · have h := h.1 c
    exact x_return (dA D_X12_pass 126 rfl) rfl h
  · have h := h.2 c
    refine x_aload_n (dA D_X12_pass 116 rfl) rfl ?_
    refine x_get (v := vA 90) (dA D_X12_pass 117 rfl) fw_RX12_100 (sO_67 hS) (congrArg (rfV G) (sR_67_45 hS)) ?_
    refine x_iload (dA D_X12_pass 118 rfl) rfl ?_
    refine x_aload_n (dA D_X12_pass 119 rfl) rfl ?_
    refine x_get (v := vA 91) (dA D_X12_pass 120 rfl) fw_RX12_103 (sO_67 hS) (congrArg (rfV G) (sR_67_46 hS)) ?_
    refine x_iload (dA D_X12_pass 121 rfl) rfl ?_
    obtain ⟨h2, h⟩ := h
    obtain ⟨h3, h⟩ := h
    refine x_lald (dA D_X12_pass 122 rfl) (sA_91 hS h2 h3) ?_
    refine x_last (dA D_X12_pass 123 rfl) (sA_90 hS h2 h3) ?_
    refine x_nmM (fun M4 eM4 => ?_)
    have hM4 : Sh M4 := eM4 ▸ (sW_90 hS)
    have h := h M4 eM4 hM4
    refine x_iinc (xs' := [vA 67, vI x1, vI x2, vI x3, vI x4, vI (x5 + 1), vU, vU, vU, vU]) (dA D_X12_pass 124 rfl) rfl (by decide) rfl ?_
    refine x_goto (tgt := 208) (dA D_X12_pass 125 rfl) (by decide) ?_
    exact h
set_option maxRecDepth 100000 in
theorem B_X12_liken_0 {G : GG} {d : Nat} {k n : Nat} {x1 : Int} {M : MM} {Q : PV → MM → Prop} (hd : 2 ≤ d) (hS : Sh M) (h : ∀ v1, v1 = (rd M 69 5) - x1 → Ar M (83 : Int) (0 : Int) 14 ∧ ∀ M3, (Ch M M3 (83 : Int) (0 : Int) 14 ∧ ∀ i : Int, 0 ≤ i → i < 14 → rd M3 (83 : Int) ((0 : Int) + i) = 0) → Sh M3 → inR x1 ∧ ((¬ (((0 : Int) ≤ x1) ∧ (x1 ≤ (5 : Int))) → Q vU M3) ∧ (((0 : Int) ≤ x1) ∧ (x1 ≤ (5 : Int)) → inR v1 ∧ ((((0 : Int) ≤ v1) ∧ (v1 ≤ (5 : Int)) → X G Y_X12_liken d k n 44 [vA 67, vI x1, vI v1, vI 0, vU, vU, vU] [] M3 Q) ∧ (¬ (((0 : Int) ≤ v1) ∧ (v1 ≤ (5 : Int))) → Q vU M3))))) : X G Y_X12_liken d k n 0 [vA 67, vI x1, vU, vU, vU, vU, vU] [] M Q := by
  have hd1 : 1 ≤ d := by omega
  refine x_aload_n (dA D_X12_liken 0 rfl) rfl ?_
  refine x_get (v := vA 69) (dA D_X12_liken 1 rfl) fw_RX12_13 (sO_67 hS) (congrArg (rfV G) (sR_67_3 hS)) ?_
  refine x_iconst (dA D_X12_liken 2 rfl) ?_
  refine x_iald (dA D_X12_liken 3 rfl) (sA_69 hS (by decide) (by decide)) ?_
  refine x_iload_n (dA D_X12_liken 4 rfl) rfl ?_
  refine x_isub (dA D_X12_liken 5 rfl) ?_
  refine x_nmI (fun v1 ev1 => ?_)
  have h := h v1 ev1
  refine x_istore_n (xs' := [vA 67, vI x1, vI v1, vU, vU, vU, vU]) (dA D_X12_liken 6 rfl) (by decide) rfl ?_
  refine x_aload_n (dA D_X12_liken 7 rfl) rfl ?_
  refine x_get (v := vA 83) (dA D_X12_liken 8 rfl) fw_RX12_76 (sO_67 hS) (congrArg (rfV G) (sR_67_34 hS)) ?_
  refine x_iconst (dA D_X12_liken 9 rfl) ?_
  obtain ⟨h2, h⟩ := h
  refine x_callS [vA 83, vI 0] [] (dA D_X12_liken 10 rfl) cw_RX12_376 rfl rfl (Nat.le_of_ble_eq_true rfl) hd1 (zk k) (zk n) (T_X12_clear hS h2 (by omega) (fun M3 p5 hM3 => ?_)) (kU (fun _ h => h))
  have h := h M3 p5 hM3
  show X G Y_X12_liken d k n 17 [vA 67, vI x1, vI v1, vU, vU, vU, vU] [] M3 Q
  refine x_iload_n (dA D_X12_liken 11 rfl) rfl ?_
  obtain ⟨h6, h⟩ := h
  refine x_i2l (dA D_X12_liken 12 rfl) h6 ?_
  refine x_lconst (a := 0) (dA D_X12_liken 13 rfl) (by decide) ?_
  refine x_ldc2 (a := 5) (dA D_X12_liken 14 rfl) kl_RX12_162 (by decide) ?_
  refine x_callS [vL x1, vL 0, vL 5] [] (dA D_X12_liken 15 rfl) cw_RX12_125 rfl rfl (Nat.le_of_ble_eq_true rfl) hd1 (zk k) (zk n) (S_X12_in (inR_L h6) ⟨by decide, by decide⟩ ⟨by decide, by decide⟩ (by omega) ?_) (kI (fun _ _ h => h))
  show X G Y_X12_liken d k n 26 [vA 67, vI x1, vI v1, vU, vU, vU, vU] [vI (if ((0 : Int) ≤ x1) ∧ (x1 ≤ (5 : Int)) then 1 else 0)] M3 Q
  refine x_if_eqB (tgt := 41) (dA D_X12_liken 16 rfl) (by decide) ⟨fun c => ?_, fun c => ?_⟩
  · have h := h.1 c
    exact x_return (dA D_X12_liken 23 rfl) rfl h
  · have h := h.2 c
    refine x_iload_n (dA D_X12_liken 17 rfl) rfl ?_
    obtain ⟨h7, h⟩ := h
    refine x_i2l (dA D_X12_liken 18 rfl) h7 ?_
    refine x_lconst (a := 0) (dA D_X12_liken 19 rfl) (by decide) ?_
    refine x_ldc2 (a := 5) (dA D_X12_liken 20 rfl) kl_RX12_162 (by decide) ?_
    refine x_callS [vL v1, vL 0, vL 5] [] (dA D_X12_liken 21 rfl) cw_RX12_125 rfl rfl (Nat.le_of_ble_eq_true rfl) hd1 (zk k) (zk n) (S_X12_in (inR_L h7) ⟨by decide, by decide⟩ ⟨by decide, by decide⟩ (by omega) ?_) (kI (fun _ _ h => h))
    show X G Y_X12_liken d k n 38 [vA 67, vI x1, vI v1, vU, vU, vU, vU] [vI (if ((0 : Int) ≤ v1) ∧ (v1 ≤ (5 : Int)) then 1 else 0)] M3 Q
    refine x_if_neB (tgt := 42) (dA D_X12_liken 22 rfl) (by decide) ⟨fun c => ?_, fun c => ?_⟩
    · have h := h.1 c
      refine x_iconst (dA D_X12_liken 24 rfl) ?_
      refine x_istore_n (xs' := [vA 67, vI x1, vI v1, vI 0, vU, vU, vU]) (dA D_X12_liken 25 rfl) (by decide) rfl ?_
      exact h
    · have h := h.2 c
      exact x_return (dA D_X12_liken 23 rfl) rfl h
theorem C_X12_liken {G : GG} {d : Nat} {x1 : Int} {M : MM} {Q : PV → MM → Prop} (h : X G Y_X12_liken d 0 0 0 [vA 67, vI x1, vU, vU, vU, vU, vU] [] M Q) : C G Y_X12_liken d 0 0 [vA 67, vI x1] M Q := X.entry (by decide) (Nat.le_of_ble_eq_true rfl) rfl rfl rfl h
set_option maxRecDepth 100000 in
theorem B_X12_liken_44 {G : GG} {d : Nat} {k n : Nat} {x1 x2 x3 : Int} {M : MM} {Q : PV → MM → Prop} (hd : 1 ≤ d) (hS : Sh M) (h : inR x3 ∧ ((504 ≤ x3 → 0 ≤ (14 * ((6 * x1) + x2)) ∧ (14 * ((6 * x1) + x2)) < 504 ∧ ∀ M4, M4 = wr M 90 (14 * ((6 * x1) + x2)) 1 → Sh M4 → X G Y_X12_liken d k n 87 [vA 67, vI x1, vI x2, vI 0, vI (-1), vI 0, vU] [] M4 Q) ∧ (x3 < 504 → 0 ≤ x3 ∧ x3 < 504 ∧ ∀ M7, M7 = wr M 90 x3 0 → Sh M7 → X G Y_X12_liken d k n 44 [vA 67, vI x1, vI x2, vI (x3 + 1), vU, vU, vU] [] M7 Q))) : X G Y_X12_liken d k n 44 [vA 67, vI x1, vI x2, vI x3, vU, vU, vU] [] M Q := by
  have hd1 : 1 ≤ d := by omega
  refine x_iload_n (dA D_X12_liken 26 rfl) rfl ?_
  refine x_sipush (dA D_X12_liken 27 rfl) (by decide) (by decide) ?_
  obtain ⟨h1, h⟩ := h
  refine x_icmp_geP (tgt := 64) (dA D_X12_liken 28 rfl) (by decide) h1 ⟨by decide, by decide⟩ ⟨fun c => ?_, fun c => ?_⟩
  · have h := h.1 c
    refine x_aload_n (dA D_X12_liken 36 rfl) rfl ?_
    refine x_get (v := vA 90) (dA D_X12_liken 37 rfl) fw_RX12_100 (sO_67 hS) (congrArg (rfV G) (sR_67_45 hS)) ?_
    refine x_bipush (dA D_X12_liken 38 rfl) (by decide) (by decide) ?_
    refine x_bipush (dA D_X12_liken 39 rfl) (by decide) (by decide) ?_
    refine x_iload_n (dA D_X12_liken 40 rfl) rfl ?_
    refine x_imul (dA D_X12_liken 41 rfl) ?_
    refine x_iload_n (dA D_X12_liken 42 rfl) rfl ?_
    refine x_iadd (dA D_X12_liken 43 rfl) ?_
    refine x_imul (dA D_X12_liken 44 rfl) ?_
    refine x_lconst (a := 1) (dA D_X12_liken 45 rfl) (by decide) ?_
    obtain ⟨h2, h⟩ := h
    obtain ⟨h3, h⟩ := h
    refine x_last (dA D_X12_liken 46 rfl) (sA_90 hS h2 h3) ?_
    refine x_nmM (fun M4 eM4 => ?_)
    have hM4 : Sh M4 := eM4 ▸ (sW_90 hS)
    have h := h M4 eM4 hM4
    refine x_iconst (dA D_X12_liken 47 rfl) ?_
    refine x_istore_n (xs' := [vA 67, vI x1, vI x2, vI 0, vU, vU, vU]) (dA D_X12_liken 48 rfl) (by decide) rfl ?_
    refine x_iconst (dA D_X12_liken 49 rfl) ?_
    refine x_istore (xs' := [vA 67, vI x1, vI x2, vI 0, vI (-1), vU, vU]) (dA D_X12_liken 50 rfl) (by decide) rfl ?_
    refine x_iconst (dA D_X12_liken 51 rfl) ?_
    refine x_istore (xs' := [vA 67, vI x1, vI x2, vI 0, vI (-1), vI 0, vU]) (dA D_X12_liken 52 rfl) (by decide) rfl ?_
    exact h
  · have h := h.2 c
    refine x_aload_n (dA D_X12_liken 29 rfl) rfl ?_
    refine x_get (v := vA 90) (dA D_X12_liken 30 rfl) fw_RX12_100 (sO_67 hS) (congrArg (rfV G) (sR_67_45 hS)) ?_
    refine x_iload_n (dA D_X12_liken 31 rfl) rfl ?_
    refine x_lconst (a := 0) (dA D_X12_liken 32 rfl) (by decide) ?_
    obtain ⟨h5, h⟩ := h
    obtain ⟨h6, h⟩ := h
    refine x_last (dA D_X12_liken 33 rfl) (sA_90 hS h5 h6) ?_
    refine x_nmM (fun M7 eM7 => ?_)
    have hM7 : Sh M7 := eM7 ▸ (sW_90 hS)
    have h := h M7 eM7 hM7
    refine x_iinc (xs' := [vA 67, vI x1, vI x2, vI (x3 + 1), vU, vU, vU]) (dA D_X12_liken 34 rfl) rfl (by decide) rfl ?_
    refine x_goto (tgt := 44) (dA D_X12_liken 35 rfl) (by decide) ?_
    exact h
set_option maxRecDepth 100000 in
theorem B_X12_liken_87 {G : GG} {d : Nat} {k n : Nat} {x1 x2 x3 x4 x5 : Int} {M : MM} {Q : PV → MM → Prop} (hd : 2 ≤ d) (hS : Sh M) (h : inR x5 ∧ inR (rd M 69 4) ∧ (((rd M 69 4) ≤ x5 → X G Y_X12_liken d k n 149 [vA 67, vI x1, vI x2, vI x3, vI x4, vI 0, vU] [] M Q) ∧ (x5 < (rd M 69 4) → 0 ≤ (50 + x5) ∧ (50 + x5) < 5460 ∧ ∀ v5, v5 = rd M 69 (50 + x5) → 0 ≤ (55 + x5) ∧ (55 + x5) < 5460 ∧ C G Y_X12_pass (d - 1) 0 0 [vA 67, vI v5, vI x3, vI x4, vI (rd M 69 (55 + x5))] M (rU (fun M8 => Sh M8 ∧ ∀ v9, v9 = iOr x3 (iShl 1 v5) → X G Y_X12_liken d k n 87 [vA 67, vI x1, vI x2, vI v9, vI v5, vI (x5 + 1), vU] [] M8 Q))))) : X G Y_X12_liken d k n 87 [vA 67, vI x1, vI x2, vI x3, vI x4, vI x5, vU] [] M Q := by
  have hd1 : 1 ≤ d := by omega
  refine x_iload (dA D_X12_liken 53 rfl) rfl ?_
  refine x_aload_n (dA D_X12_liken 54 rfl) rfl ?_
  refine x_get (v := vA 69) (dA D_X12_liken 55 rfl) fw_RX12_13 (sO_67 hS) (congrArg (rfV G) (sR_67_3 hS)) ?_
  refine x_iconst (dA D_X12_liken 56 rfl) ?_
  refine x_iald (dA D_X12_liken 57 rfl) (sA_69 hS (by decide) (by decide)) ?_
  obtain ⟨h1, h⟩ := h
  obtain ⟨h2, h⟩ := h
  refine x_icmp_geP (tgt := 146) (dA D_X12_liken 58 rfl) (by decide) h1 h2 ⟨fun c => ?_, fun c => ?_⟩
  · have h := h.1 c
    refine x_iconst (dA D_X12_liken 87 rfl) ?_
    refine x_istore (xs' := [vA 67, vI x1, vI x2, vI x3, vI x4, vI 0, vU]) (dA D_X12_liken 88 rfl) (by decide) rfl ?_
    exact h
  · have h := h.2 c
    refine x_aload_n (dA D_X12_liken 59 rfl) rfl ?_
    refine x_get (v := vA 69) (dA D_X12_liken 60 rfl) fw_RX12_13 (sO_67 hS) (congrArg (rfV G) (sR_67_3 hS)) ?_
    refine x_bipush (dA D_X12_liken 61 rfl) (by decide) (by decide) ?_
    refine x_iload (dA D_X12_liken 62 rfl) rfl ?_
    refine x_iadd (dA D_X12_liken 63 rfl) ?_
    obtain ⟨h3, h⟩ := h
    obtain ⟨h4, h⟩ := h
    refine x_iald (dA D_X12_liken 64 rfl) (sA_69 hS h3 h4) ?_
    refine x_nmI (fun v5 ev5 => ?_)
    have h := h v5 ev5
    refine x_istore (xs' := [vA 67, vI x1, vI x2, vI x3, vI x4, vI x5, vI v5]) (dA D_X12_liken 65 rfl) (by decide) rfl ?_
    refine x_aload_n (dA D_X12_liken 66 rfl) rfl ?_
    refine x_iload (dA D_X12_liken 67 rfl) rfl ?_
    refine x_iload_n (dA D_X12_liken 68 rfl) rfl ?_
    refine x_iload (dA D_X12_liken 69 rfl) rfl ?_
    refine x_aload_n (dA D_X12_liken 70 rfl) rfl ?_
    refine x_get (v := vA 69) (dA D_X12_liken 71 rfl) fw_RX12_13 (sO_67 hS) (congrArg (rfV G) (sR_67_3 hS)) ?_
    refine x_bipush (dA D_X12_liken 72 rfl) (by decide) (by decide) ?_
    refine x_iload (dA D_X12_liken 73 rfl) rfl ?_
    refine x_iadd (dA D_X12_liken 74 rfl) ?_
    obtain ⟨h6, h⟩ := h
    obtain ⟨h7, h⟩ := h
    refine x_iald (dA D_X12_liken 75 rfl) (sA_69 hS h6 h7) ?_
    refine x_callV 11 [vI v5, vI x3, vI x4, vI (rd M 69 (55 + x5))] [] (dA D_X12_liken 76 rfl) cw_RX12_479 rfl rfl (Nat.le_of_ble_eq_true rfl) (by decide) rfl hd1 (zk k) (zk n) (sO_67 hS) h (kU (fun M8 h => ?_))
    obtain ⟨hM8, h⟩ := h
    refine x_iload_n (dA D_X12_liken 77 rfl) rfl ?_
    refine x_iconst (dA D_X12_liken 78 rfl) ?_
    refine x_iload (dA D_X12_liken 79 rfl) rfl ?_
    refine x_ishl (dA D_X12_liken 80 rfl) ?_
    refine x_ior (dA D_X12_liken 81 rfl) ?_
    refine x_nmI (fun v9 ev9 => ?_)
    have h := h v9 ev9
    refine x_istore_n (xs' := [vA 67, vI x1, vI x2, vI v9, vI x4, vI x5, vI v5]) (dA D_X12_liken 82 rfl) (by decide) rfl ?_
    refine x_iload (dA D_X12_liken 83 rfl) rfl ?_
    refine x_istore (xs' := [vA 67, vI x1, vI x2, vI v9, vI v5, vI x5, vI v5]) (dA D_X12_liken 84 rfl) (by decide) rfl ?_
    refine x_iinc (xs' := [vA 67, vI x1, vI x2, vI v9, vI v5, vI (x5 + 1), vI v5]) (dA D_X12_liken 85 rfl) rfl (by decide) rfl ?_
    refine x_goto (tgt := 87) (dA D_X12_liken 86 rfl) (by decide) ?_
    refine X.weak (xs' := [vA 67, vI x1, vI x2, vI v9, vI v5, vI (x5 + 1), vU]) ⟨Or.inl rfl, Or.inl rfl, Or.inl rfl, Or.inl rfl, Or.inl rfl, Or.inl rfl, Or.inr rfl, trivial⟩ ?_
    exact h
set_option maxRecDepth 100000 in
theorem B_X12_liken_149 {G : GG} {d : Nat} {k n : Nat} {x1 x2 x3 x4 x5 : Int} {M : MM} {Q : PV → MM → Prop} (hd : 2 ≤ d) (hS : Sh M) (h : inR x5 ∧ ((36 ≤ x5 → Q vU M) ∧ (x5 < 36 → Ar M (83 : Int) (0 : Int) 14 ∧ Ar M (90 : Int) (14 * x5) 14 ∧ (83 : Int) ≠ (90 : Int) ∧ nrm (rd M (83 : Int)) (0 : Int) 14 ∧ nrm (rd M (90 : Int)) (14 * x5) 14 ∧ (0 ≤ (1 : Int) ∧ (1 : Int) ≤ 10000000000) ∧ vl (rd M (83 : Int)) (0 : Int) 14 + vl (rd M (90 : Int)) (14 * x5) 14 * (1 : Int) < Bp 14 ∧ ∀ M9, (Ch M M9 (83 : Int) (0 : Int) 14 ∧ nrm (rd M9 (83 : Int)) (0 : Int) 14 ∧ vl (rd M9 (83 : Int)) (0 : Int) 14 = vl (rd M (83 : Int)) (0 : Int) 14 + vl (rd M (90 : Int)) (14 * x5) 14 * (1 : Int)) → Sh M9 → X G Y_X12_liken d k n 149 [vA 67, vI x1, vI x2, vI x3, vI x4, vI (x5 + 1), vU] [] M9 Q))) : X G Y_X12_liken d k n 149 [vA 67, vI x1, vI x2, vI x3, vI x4, vI x5, vU] [] M Q := by
  have hd1 : 1 ≤ d := by omega
  refine x_iload (dA D_X12_liken 89 rfl) rfl ?_
  refine x_bipush (dA D_X12_liken 90 rfl) (by decide) (by decide) ?_
  obtain ⟨h1, h⟩ := h
  refine x_icmp_geP (tgt := 180) (dA D_X12_liken 91 rfl) (by decide) h1 ⟨by decide, by decide⟩ ⟨fun c => ?_, fun c => ?_⟩
  · have h := h.1 c
    exact x_return (dA D_X12_liken 104 rfl) rfl h
  · have h := h.2 c
    refine x_aload_n (dA D_X12_liken 92 rfl) rfl ?_
    refine x_get (v := vA 83) (dA D_X12_liken 93 rfl) fw_RX12_76 (sO_67 hS) (congrArg (rfV G) (sR_67_34 hS)) ?_
    refine x_iconst (dA D_X12_liken 94 rfl) ?_
    refine x_aload_n (dA D_X12_liken 95 rfl) rfl ?_
    refine x_get (v := vA 90) (dA D_X12_liken 96 rfl) fw_RX12_100 (sO_67 hS) (congrArg (rfV G) (sR_67_45 hS)) ?_
    refine x_bipush (dA D_X12_liken 97 rfl) (by decide) (by decide) ?_
    refine x_iload (dA D_X12_liken 98 rfl) rfl ?_
    refine x_imul (dA D_X12_liken 99 rfl) ?_
    refine x_lconst (a := 1) (dA D_X12_liken 100 rfl) (by decide) ?_
    obtain ⟨h2, h⟩ := h
    obtain ⟨h3, h⟩ := h
    obtain ⟨h4, h⟩ := h
    obtain ⟨h5, h⟩ := h
    obtain ⟨h6, h⟩ := h
    obtain ⟨h7, h⟩ := h
    obtain ⟨h8, h⟩ := h
    refine x_callS [vA 83, vI 0, vA 90, vI (14 * x5), vL 1] [] (dA D_X12_liken 101 rfl) cw_RX12_399 rfl rfl (Nat.le_of_ble_eq_true rfl) hd1 (zk k) (zk n) (T_X12_add hS h2 h3 h4 h5 h6 h7 h8 (by omega) (fun M9 p11 hM9 => ?_)) (kU (fun _ h => h))
    have h := h M9 p11 hM9
    show X G Y_X12_liken d k n 174 [vA 67, vI x1, vI x2, vI x3, vI x4, vI x5, vU] [] M9 Q
    refine x_iinc (xs' := [vA 67, vI x1, vI x2, vI x3, vI x4, vI (x5 + 1), vU]) (dA D_X12_liken 102 rfl) rfl (by decide) rfl ?_
    refine x_goto (tgt := 149) (dA D_X12_liken 103 rfl) (by decide) ?_
    exact h
set_option maxRecDepth 100000 in
theorem B_X12_ratio_0 {G : GG} {d : Nat} {k n : Nat} {M : MM} {Q : PV → MM → Prop} (hd : 2 ≤ d) (hS : Sh M) (h : Ar M (84 : Int) (0 : Int) 14 ∧ ∀ M2, (Ch M M2 (84 : Int) (0 : Int) 14 ∧ ∀ i : Int, 0 ≤ i → i < 14 → rd M2 (84 : Int) ((0 : Int) + i) = 0) → Sh M2 → Ar M2 (84 : Int) (0 : Int) 14 ∧ Ar M2 (86 : Int) (0 : Int) 14 ∧ (84 : Int) ≠ (86 : Int) ∧ nrm (rd M2 (84 : Int)) (0 : Int) 14 ∧ nrm (rd M2 (86 : Int)) (0 : Int) 14 ∧ (0 ≤ (1000000 : Int) ∧ (1000000 : Int) ≤ 10000000000) ∧ vl (rd M2 (84 : Int)) (0 : Int) 14 + vl (rd M2 (86 : Int)) (0 : Int) 14 * (1000000 : Int) < Bp 14 ∧ ∀ M12, (Ch M2 M12 (84 : Int) (0 : Int) 14 ∧ nrm (rd M12 (84 : Int)) (0 : Int) 14 ∧ vl (rd M12 (84 : Int)) (0 : Int) 14 = vl (rd M2 (84 : Int)) (0 : Int) 14 + vl (rd M2 (86 : Int)) (0 : Int) 14 * (1000000 : Int)) → Sh M12 → X G Y_X12_ratio d k n 30 [vA 67, vI 0, vI 1000000, vU] [] M12 Q) : X G Y_X12_ratio d k n 0 [vA 67, vU, vU, vU] [] M Q := by
  have hd1 : 1 ≤ d := by omega
  refine x_aload_n (dA D_X12_ratio 0 rfl) rfl ?_
  refine x_get (v := vA 84) (dA D_X12_ratio 1 rfl) fw_RX12_79 (sO_67 hS) (congrArg (rfV G) (sR_67_35 hS)) ?_
  refine x_iconst (dA D_X12_ratio 2 rfl) ?_
  obtain ⟨h1, h⟩ := h
  refine x_callS [vA 84, vI 0] [] (dA D_X12_ratio 3 rfl) cw_RX12_376 rfl rfl (Nat.le_of_ble_eq_true rfl) hd1 (zk k) (zk n) (T_X12_clear hS h1 (by omega) (fun M2 p4 hM2 => ?_)) (kU (fun _ h => h))
  have h := h M2 p4 hM2
  show X G Y_X12_ratio d k n 8 [vA 67, vU, vU, vU] [] M2 Q
  refine x_aload_n (dA D_X12_ratio 4 rfl) rfl ?_
  refine x_get (v := vA 84) (dA D_X12_ratio 5 rfl) fw_RX12_79 (sO_67 hM2) (congrArg (rfV G) (sR_67_35 hM2)) ?_
  refine x_iconst (dA D_X12_ratio 6 rfl) ?_
  refine x_aload_n (dA D_X12_ratio 7 rfl) rfl ?_
  refine x_get (v := vA 86) (dA D_X12_ratio 8 rfl) fw_RX12_85 (sO_67 hM2) (congrArg (rfV G) (sR_67_37 hM2)) ?_
  refine x_iconst (dA D_X12_ratio 9 rfl) ?_
  refine x_ldc2 (a := 1000000) (dA D_X12_ratio 10 rfl) kl_RX12_210 (by decide) ?_
  obtain ⟨h5, h⟩ := h
  obtain ⟨h6, h⟩ := h
  obtain ⟨h7, h⟩ := h
  obtain ⟨h8, h⟩ := h
  obtain ⟨h9, h⟩ := h
  obtain ⟨h10, h⟩ := h
  obtain ⟨h11, h⟩ := h
  refine x_callS [vA 84, vI 0, vA 86, vI 0, vL 1000000] [] (dA D_X12_ratio 11 rfl) cw_RX12_399 rfl rfl (Nat.le_of_ble_eq_true rfl) hd1 (zk k) (zk n) (T_X12_add hM2 h5 h6 h7 h8 h9 h10 h11 (by omega) (fun M12 p14 hM12 => ?_)) (kU (fun _ h => h))
  have h := h M12 p14 hM12
  show X G Y_X12_ratio d k n 24 [vA 67, vU, vU, vU] [] M12 Q
  refine x_iconst (dA D_X12_ratio 12 rfl) ?_
  refine x_istore_n (xs' := [vA 67, vI 0, vU, vU]) (dA D_X12_ratio 13 rfl) (by decide) rfl ?_
  refine x_ldcw (a := 1000000) (dA D_X12_ratio 14 rfl) ki_RX12_489 (by decide) ?_
  refine x_istore_n (xs' := [vA 67, vI 0, vI 1000000, vU]) (dA D_X12_ratio 15 rfl) (by decide) rfl ?_
  exact h
theorem C_X12_ratio {G : GG} {d : Nat} {M : MM} {Q : PV → MM → Prop} (h : X G Y_X12_ratio d 0 0 0 [vA 67, vU, vU, vU] [] M Q) : C G Y_X12_ratio d 0 0 [vA 67] M Q := X.entry (by decide) (Nat.le_of_ble_eq_true rfl) rfl rfl rfl h
set_option maxRecDepth 100000 in
theorem B_X12_ratio_30 {G : GG} {d : Nat} {k n : Nat} {x1 x2 : Int} {M : MM} {Q : PV → MM → Prop} (hd : 2 ≤ d) (hS : Sh M) (h : inR x1 ∧ inR x2 ∧ ((x2 ≤ x1 → Q (vI x1) M) ∧ (x1 < x2 → inR ((x1 + x2) + 1) ∧ ∀ v4, v4 = Int.tdiv ((x1 + x2) + 1) 2 → Ar M (83 : Int) (0 : Int) 14 ∧ ∀ M6, (Ch M M6 (83 : Int) (0 : Int) 14 ∧ ∀ i : Int, 0 ≤ i → i < 14 → rd M6 (83 : Int) ((0 : Int) + i) = 0) → Sh M6 → inR v4 ∧ Ar M6 (83 : Int) (0 : Int) 14 ∧ Ar M6 (85 : Int) (0 : Int) 14 ∧ (83 : Int) ≠ (85 : Int) ∧ nrm (rd M6 (83 : Int)) (0 : Int) 14 ∧ nrm (rd M6 (85 : Int)) (0 : Int) 14 ∧ (0 ≤ v4 ∧ v4 ≤ 10000000000) ∧ vl (rd M6 (83 : Int)) (0 : Int) 14 + vl (rd M6 (85 : Int)) (0 : Int) 14 * v4 < Bp 14 ∧ ∀ M17, (Ch M6 M17 (83 : Int) (0 : Int) 14 ∧ nrm (rd M17 (83 : Int)) (0 : Int) 14 ∧ vl (rd M17 (83 : Int)) (0 : Int) 14 = vl (rd M6 (83 : Int)) (0 : Int) 14 + vl (rd M6 (85 : Int)) (0 : Int) 14 * v4) → Sh M17 → Ar M17 (83 : Int) (0 : Int) 14 ∧ Ar M17 (84 : Int) (0 : Int) 14 ∧ nrm (rd M17 (83 : Int)) (0 : Int) 14 ∧ nrm (rd M17 (84 : Int)) (0 : Int) 14 ∧ inR (cmpI (vl (rd M17 (83 : Int)) (0 : Int) 14) (vl (rd M17 (84 : Int)) (0 : Int) 14)) ∧ ((0 < (cmpI (vl (rd M17 (83 : Int)) (0 : Int) 14) (vl (rd M17 (84 : Int)) (0 : Int) 14)) → ∀ v25, v25 = v4 - 1 → X G Y_X12_ratio d k n 30 [vA 67, vI x1, vI v25, vU] [] M17 Q) ∧ ((cmpI (vl (rd M17 (83 : Int)) (0 : Int) 14) (vl (rd M17 (84 : Int)) (0 : Int) 14)) ≤ 0 → X G Y_X12_ratio d k n 30 [vA 67, vI v4, vI x2, vU] [] M17 Q))))) : X G Y_X12_ratio d k n 30 [vA 67, vI x1, vI x2, vU] [] M Q := by
  have hd1 : 1 ≤ d := by omega
  refine x_iload_n (dA D_X12_ratio 16 rfl) rfl ?_
  refine x_iload_n (dA D_X12_ratio 17 rfl) rfl ?_
  obtain ⟨h1, h⟩ := h
  obtain ⟨h2, h⟩ := h
  refine x_icmp_geP (tgt := 94) (dA D_X12_ratio 18 rfl) (by decide) h1 h2 ⟨fun c => ?_, fun c => ?_⟩
  · have h := h.1 c
    refine x_iload_n (dA D_X12_ratio 56 rfl) rfl ?_
    exact x_ireturn (dA D_X12_ratio 57 rfl) rfl h
  · have h := h.2 c
    refine x_iload_n (dA D_X12_ratio 19 rfl) rfl ?_
    refine x_iload_n (dA D_X12_ratio 20 rfl) rfl ?_
    refine x_iadd (dA D_X12_ratio 21 rfl) ?_
    refine x_iconst (dA D_X12_ratio 22 rfl) ?_
    refine x_iadd (dA D_X12_ratio 23 rfl) ?_
    refine x_iconst (dA D_X12_ratio 24 rfl) ?_
    obtain ⟨h3, h⟩ := h
    refine x_idiv (dA D_X12_ratio 25 rfl) h3 ⟨by decide, by decide⟩ (by decide) ?_
    refine x_nmI (fun v4 ev4 => ?_)
    have h := h v4 ev4
    refine x_istore_n (xs' := [vA 67, vI x1, vI x2, vI v4]) (dA D_X12_ratio 26 rfl) (by decide) rfl ?_
    refine x_aload_n (dA D_X12_ratio 27 rfl) rfl ?_
    refine x_get (v := vA 83) (dA D_X12_ratio 28 rfl) fw_RX12_76 (sO_67 hS) (congrArg (rfV G) (sR_67_34 hS)) ?_
    refine x_iconst (dA D_X12_ratio 29 rfl) ?_
    obtain ⟨h5, h⟩ := h
    refine x_callS [vA 83, vI 0] [] (dA D_X12_ratio 30 rfl) cw_RX12_376 rfl rfl (Nat.le_of_ble_eq_true rfl) hd1 (zk k) (zk n) (T_X12_clear hS h5 (by omega) (fun M6 p8 hM6 => ?_)) (kU (fun _ h => h))
    have h := h M6 p8 hM6
    show X G Y_X12_ratio d k n 51 [vA 67, vI x1, vI x2, vI v4] [] M6 Q
    refine x_aload_n (dA D_X12_ratio 31 rfl) rfl ?_
    refine x_get (v := vA 83) (dA D_X12_ratio 32 rfl) fw_RX12_76 (sO_67 hM6) (congrArg (rfV G) (sR_67_34 hM6)) ?_
    refine x_iconst (dA D_X12_ratio 33 rfl) ?_
    refine x_aload_n (dA D_X12_ratio 34 rfl) rfl ?_
    refine x_get (v := vA 85) (dA D_X12_ratio 35 rfl) fw_RX12_82 (sO_67 hM6) (congrArg (rfV G) (sR_67_36 hM6)) ?_
    refine x_iconst (dA D_X12_ratio 36 rfl) ?_
    refine x_iload_n (dA D_X12_ratio 37 rfl) rfl ?_
    obtain ⟨h9, h⟩ := h
    refine x_i2l (dA D_X12_ratio 38 rfl) h9 ?_
    obtain ⟨h10, h⟩ := h
    obtain ⟨h11, h⟩ := h
    obtain ⟨h12, h⟩ := h
    obtain ⟨h13, h⟩ := h
    obtain ⟨h14, h⟩ := h
    obtain ⟨h15, h⟩ := h
    obtain ⟨h16, h⟩ := h
    refine x_callS [vA 83, vI 0, vA 85, vI 0, vL v4] [] (dA D_X12_ratio 39 rfl) cw_RX12_399 rfl rfl (Nat.le_of_ble_eq_true rfl) hd1 (zk k) (zk n) (T_X12_add hM6 h10 h11 h12 h13 h14 h15 h16 (by omega) (fun M17 p19 hM17 => ?_)) (kU (fun _ h => h))
    have h := h M17 p19 hM17
    show X G Y_X12_ratio d k n 66 [vA 67, vI x1, vI x2, vI v4] [] M17 Q
    refine x_aload_n (dA D_X12_ratio 40 rfl) rfl ?_
    refine x_get (v := vA 83) (dA D_X12_ratio 41 rfl) fw_RX12_76 (sO_67 hM17) (congrArg (rfV G) (sR_67_34 hM17)) ?_
    refine x_iconst (dA D_X12_ratio 42 rfl) ?_
    refine x_aload_n (dA D_X12_ratio 43 rfl) rfl ?_
    refine x_get (v := vA 84) (dA D_X12_ratio 44 rfl) fw_RX12_79 (sO_67 hM17) (congrArg (rfV G) (sR_67_35 hM17)) ?_
    refine x_iconst (dA D_X12_ratio 45 rfl) ?_
    obtain ⟨h20, h⟩ := h
    obtain ⟨h21, h⟩ := h
    obtain ⟨h22, h⟩ := h
    obtain ⟨h23, h⟩ := h
    refine x_callS [vA 83, vI 0, vA 84, vI 0] [] (dA D_X12_ratio 46 rfl) cw_RX12_414 rfl rfl (Nat.le_of_ble_eq_true rfl) hd1 (zk k) (zk n) (T_X12_compare h20 h21 h22 h23 (by omega) ?_) (kI (fun _ _ h => h))
    show X G Y_X12_ratio d k n 79 [vA 67, vI x1, vI x2, vI v4] [vI (cmpI (vl (rd M17 (83 : Int)) (0 : Int) 14) (vl (rd M17 (84 : Int)) (0 : Int) 14))] M17 Q
    obtain ⟨h24, h⟩ := h
    refine x_if_gtP (tgt := 87) (dA D_X12_ratio 47 rfl) (by decide) h24 ⟨fun c => ?_, fun c => ?_⟩
    · have h := h.1 c
      refine x_iload_n (dA D_X12_ratio 51 rfl) rfl ?_
      refine x_iconst (dA D_X12_ratio 52 rfl) ?_
      refine x_isub (dA D_X12_ratio 53 rfl) ?_
      refine x_nmI (fun v25 ev25 => ?_)
      have h := h v25 ev25
      refine x_istore_n (xs' := [vA 67, vI x1, vI v25, vI v4]) (dA D_X12_ratio 54 rfl) (by decide) rfl ?_
      refine x_goto (tgt := 30) (dA D_X12_ratio 55 rfl) (by decide) ?_
      refine X.weak (xs' := [vA 67, vI x1, vI v25, vU]) ⟨Or.inl rfl, Or.inl rfl, Or.inl rfl, Or.inr rfl, trivial⟩ ?_
      exact h
    · have h := h.2 c
      refine x_iload_n (dA D_X12_ratio 48 rfl) rfl ?_
      refine x_istore_n (xs' := [vA 67, vI v4, vI x2, vI v4]) (dA D_X12_ratio 49 rfl) (by decide) rfl ?_
      refine x_goto (tgt := 91) (dA D_X12_ratio 50 rfl) (by decide) ?_
      refine x_goto (tgt := 30) (dA D_X12_ratio 55 rfl) (by decide) ?_
      refine X.weak (xs' := [vA 67, vI v4, vI x2, vU]) ⟨Or.inl rfl, Or.inl rfl, Or.inl rfl, Or.inr rfl, trivial⟩ ?_
      exact h
set_option maxRecDepth 100000 in
theorem B_X12_were_0 {G : GG} {d : Nat} {k n : Nat} {x1 : Int} {M : MM} {Q : PV → MM → Prop} (hd : 2 ≤ d) (hS : Sh M) (h : ∀ M1, M1 = wr M 67 0 0 → Sh M1 → inR x1 ∧ inR (rd M1 69 5) ∧ ((((¬ (((0 : Int) ≤ x1) ∧ (x1 ≤ (5 : Int)))) ∨ ((rd M1 69 5) = (-1))) → Q (vI (-1)) M1) ∧ (¬ ((¬ (((0 : Int) ≤ x1) ∧ (x1 ≤ (5 : Int)))) ∨ ((rd M1 69 5) = (-1))) → Ar M1 (85 : Int) (0 : Int) 14 ∧ ∀ M16, (Ch M1 M16 (85 : Int) (0 : Int) 14 ∧ ∀ i : Int, 0 ≤ i → i < 14 → rd M16 (85 : Int) ((0 : Int) + i) = 0) → Sh M16 → Ar M16 (86 : Int) (0 : Int) 14 ∧ ∀ M20, (Ch M16 M20 (86 : Int) (0 : Int) 14 ∧ ∀ i : Int, 0 ≤ i → i < 14 → rd M20 (86 : Int) ((0 : Int) + i) = 0) → Sh M20 → X G Y_X12_were d k n 49 [vA 67, vI x1, vI 0, vI 0, vU] [] M20 Q))) : X G Y_X12_were d k n 0 [vA 67, vI x1, vU, vU, vU] [] M Q := by
  have hd1 : 1 ≤ d := by omega
  refine x_aload_n (dA D_X12_were 0 rfl) rfl ?_
  refine x_iconst (dA D_X12_were 1 rfl) ?_
  refine x_put (x := 0) (dA D_X12_were 2 rfl) fw_RX12_115 (fun _ _ hc => by cases hc; exact Or.inl rfl) (sO_67 hS) rfl rfl rfl ?_
  refine x_nmM (fun M1 eM1 => ?_)
  have hM1 : Sh M1 := eM1 ▸ (sW_67_0 hS)
  have h := h M1 eM1 hM1
  refine x_iload_n (dA D_X12_were 3 rfl) rfl ?_
  obtain ⟨h2, h⟩ := h
  refine x_i2l (dA D_X12_were 4 rfl) h2 ?_
  refine x_lconst (a := 0) (dA D_X12_were 5 rfl) (by decide) ?_
  refine x_ldc2 (a := 5) (dA D_X12_were 6 rfl) kl_RX12_162 (by decide) ?_
  refine x_callS [vL x1, vL 0, vL 5] [] (dA D_X12_were 7 rfl) cw_RX12_125 rfl rfl (Nat.le_of_ble_eq_true rfl) hd1 (zk k) (zk n) (S_X12_in (inR_L h2) ⟨by decide, by decide⟩ ⟨by decide, by decide⟩ (by omega) ?_) (kI (fun _ _ h => h))
  show X G Y_X12_were d k n 14 [vA 67, vI x1, vU, vU, vU] [vI (if ((0 : Int) ≤ x1) ∧ (x1 ≤ (5 : Int)) then 1 else 0)] M1 Q
  obtain ⟨h10, h⟩ := h
  have hA : ((¬ (((0 : Int) ≤ x1) ∧ (x1 ≤ (5 : Int)))) ∨ ((rd M1 69 5) = (-1))) → X G Y_X12_were d k n 27 [vA 67, vI x1, vU, vU, vU] [] M1 Q := by
    intro c23
    have h := h.1 c23
    refine x_iconst (dA D_X12_were 15 rfl) ?_
    exact x_ireturn (dA D_X12_were 16 rfl) rfl h
  have hB : ¬ ((¬ (((0 : Int) ≤ x1) ∧ (x1 ≤ (5 : Int)))) ∨ ((rd M1 69 5) = (-1))) → X G Y_X12_were d k n 29 [vA 67, vI x1, vU, vU, vU] [] M1 Q := by
    intro c23
    have h := h.2 c23
    refine x_aload_n (dA D_X12_were 17 rfl) rfl ?_
    refine x_get (v := vA 85) (dA D_X12_were 18 rfl) fw_RX12_82 (sO_67 hM1) (congrArg (rfV G) (sR_67_36 hM1)) ?_
    refine x_iconst (dA D_X12_were 19 rfl) ?_
    obtain ⟨h15, h⟩ := h
    refine x_callS [vA 85, vI 0] [] (dA D_X12_were 20 rfl) cw_RX12_376 rfl rfl (Nat.le_of_ble_eq_true rfl) hd1 (zk k) (zk n) (T_X12_clear hM1 h15 (by omega) (fun M16 p18 hM16 => ?_)) (kU (fun _ h => h))
    have h := h M16 p18 hM16
    show X G Y_X12_were d k n 37 [vA 67, vI x1, vU, vU, vU] [] M16 Q
    refine x_aload_n (dA D_X12_were 21 rfl) rfl ?_
    refine x_get (v := vA 86) (dA D_X12_were 22 rfl) fw_RX12_85 (sO_67 hM16) (congrArg (rfV G) (sR_67_37 hM16)) ?_
    refine x_iconst (dA D_X12_were 23 rfl) ?_
    obtain ⟨h19, h⟩ := h
    refine x_callS [vA 86, vI 0] [] (dA D_X12_were 24 rfl) cw_RX12_376 rfl rfl (Nat.le_of_ble_eq_true rfl) hd1 (zk k) (zk n) (T_X12_clear hM16 h19 (by omega) (fun M20 p22 hM20 => ?_)) (kU (fun _ h => h))
    have h := h M20 p22 hM20
    show X G Y_X12_were d k n 45 [vA 67, vI x1, vU, vU, vU] [] M20 Q
    refine x_iconst (dA D_X12_were 25 rfl) ?_
    refine x_istore_n (xs' := [vA 67, vI x1, vI 0, vU, vU]) (dA D_X12_were 26 rfl) (by decide) rfl ?_
    refine x_iconst (dA D_X12_were 27 rfl) ?_
    refine x_istore_n (xs' := [vA 67, vI x1, vI 0, vI 0, vU]) (dA D_X12_were 28 rfl) (by decide) rfl ?_
    exact h
  refine x_if_eqB (tgt := 27) (dA D_X12_were 8 rfl) (by decide) ⟨fun c3 => ?_, fun c3 => ?_⟩
  · exact hA (by first | omega | grind)
  · refine x_aload_n (dA D_X12_were 9 rfl) rfl ?_
    refine x_get (v := vA 69) (dA D_X12_were 10 rfl) fw_RX12_13 (sO_67 hM1) (congrArg (rfV G) (sR_67_3 hM1)) ?_
    refine x_iconst (dA D_X12_were 11 rfl) ?_
    refine x_iald (dA D_X12_were 12 rfl) (sA_69 hM1 (by decide) (by decide)) ?_
    refine x_iconst (dA D_X12_were 13 rfl) ?_
    refine x_icmp_neP (tgt := 29) (dA D_X12_were 14 rfl) (by decide) h10 ⟨by decide, by decide⟩ ⟨fun c9 => ?_, fun c9 => ?_⟩
    · exact hB (by first | omega | grind)
    · exact hA (by first | omega | grind)
theorem C_X12_were {G : GG} {d : Nat} {x1 : Int} {M : MM} {Q : PV → MM → Prop} (h : X G Y_X12_were d 0 0 0 [vA 67, vI x1, vU, vU, vU] [] M Q) : C G Y_X12_were d 0 0 [vA 67, vI x1] M Q := X.entry (by decide) (Nat.le_of_ble_eq_true rfl) rfl rfl rfl h
set_option maxRecDepth 100000 in
theorem B_X12_were_49 {G : GG} {d : Nat} {k n : Nat} {x1 x2 x3 : Int} {M : MM} {Q : PV → MM → Prop} (hd : 2 ≤ d) (hS : Sh M) (h : inR x3 ∧ ((6 ≤ x3 → inR x2 ∧ ((x2 = 0 → Q (vI (-1)) M) ∧ (x2 ≠ 0 → C G Y_X12_ratio (d - 1) 0 0 [vA 67] M (rI (fun r4 M3 => Sh M3 ∧ Q (vI r4) M3))))) ∧ (x3 < 6 → C G Y_X12_liken (d - 1) 0 0 [vA 67, vI x3] M (rU (fun M5 => Sh M5 ∧ Ar M5 (85 : Int) (0 : Int) 14 ∧ Ar M5 (83 : Int) (0 : Int) 14 ∧ (85 : Int) ≠ (83 : Int) ∧ nrm (rd M5 (85 : Int)) (0 : Int) 14 ∧ nrm (rd M5 (83 : Int)) (0 : Int) 14 ∧ (0 ≤ (1 : Int) ∧ (1 : Int) ≤ 10000000000) ∧ vl (rd M5 (85 : Int)) (0 : Int) 14 + vl (rd M5 (83 : Int)) (0 : Int) 14 * (1 : Int) < Bp 14 ∧ ∀ M13, (Ch M5 M13 (85 : Int) (0 : Int) 14 ∧ nrm (rd M13 (85 : Int)) (0 : Int) 14 ∧ vl (rd M13 (85 : Int)) (0 : Int) 14 = vl (rd M5 (85 : Int)) (0 : Int) 14 + vl (rd M5 (83 : Int)) (0 : Int) 14 * (1 : Int)) → Sh M13 → X G Y_X12_were d k n 77 [vA 67, vI x1, vI x2, vI x3, vI 0] [] M13 Q))))) : X G Y_X12_were d k n 49 [vA 67, vI x1, vI x2, vI x3, vU] [] M Q := by
  have hd1 : 1 ≤ d := by omega
  refine x_iload_n (dA D_X12_were 29 rfl) rfl ?_
  refine x_bipush (dA D_X12_were 30 rfl) (by decide) (by decide) ?_
  obtain ⟨h1, h⟩ := h
  refine x_icmp_geP (tgt := 147) (dA D_X12_were 31 rfl) (by decide) h1 ⟨by decide, by decide⟩ ⟨fun c => ?_, fun c => ?_⟩
  · have h := h.1 c
    refine x_iload_n (dA D_X12_were 81 rfl) rfl ?_
    obtain ⟨h2, h⟩ := h
    refine x_if_eqP (tgt := 158) (dA D_X12_were 82 rfl) (by decide) h2 ⟨fun c => ?_, fun c => ?_⟩
    · have h := h.1 c
      refine x_iconst (dA D_X12_were 86 rfl) ?_
      exact x_ireturn (dA D_X12_were 87 rfl) rfl h
    · have h := h.2 c
      refine x_aload_n (dA D_X12_were 83 rfl) rfl ?_
      refine x_callV 11 [] [] (dA D_X12_were 84 rfl) cw_RX12_486 rfl rfl (Nat.le_of_ble_eq_true rfl) (by decide) rfl hd1 (zk k) (zk n) (sO_67 hS) h (kI (fun r4 M3 h => ?_))
      obtain ⟨hM3, h⟩ := h
      refine x_goto (tgt := 159) (dA D_X12_were 85 rfl) (by decide) ?_
      exact x_ireturn (dA D_X12_were 87 rfl) rfl h
  · have h := h.2 c
    refine x_aload_n (dA D_X12_were 32 rfl) rfl ?_
    refine x_iload_n (dA D_X12_were 33 rfl) rfl ?_
    refine x_callV 11 [vI x3] [] (dA D_X12_were 34 rfl) cw_RX12_483 rfl rfl (Nat.le_of_ble_eq_true rfl) (by decide) rfl hd1 (zk k) (zk n) (sO_67 hS) h (kU (fun M5 h => ?_))
    obtain ⟨hM5, h⟩ := h
    refine x_aload_n (dA D_X12_were 35 rfl) rfl ?_
    refine x_get (v := vA 85) (dA D_X12_were 36 rfl) fw_RX12_82 (sO_67 hM5) (congrArg (rfV G) (sR_67_36 hM5)) ?_
    refine x_iconst (dA D_X12_were 37 rfl) ?_
    refine x_aload_n (dA D_X12_were 38 rfl) rfl ?_
    refine x_get (v := vA 83) (dA D_X12_were 39 rfl) fw_RX12_76 (sO_67 hM5) (congrArg (rfV G) (sR_67_34 hM5)) ?_
    refine x_iconst (dA D_X12_were 40 rfl) ?_
    refine x_lconst (a := 1) (dA D_X12_were 41 rfl) (by decide) ?_
    obtain ⟨h6, h⟩ := h
    obtain ⟨h7, h⟩ := h
    obtain ⟨h8, h⟩ := h
    obtain ⟨h9, h⟩ := h
    obtain ⟨h10, h⟩ := h
    obtain ⟨h11, h⟩ := h
    obtain ⟨h12, h⟩ := h
    refine x_callS [vA 85, vI 0, vA 83, vI 0, vL 1] [] (dA D_X12_were 42 rfl) cw_RX12_399 rfl rfl (Nat.le_of_ble_eq_true rfl) hd1 (zk k) (zk n) (T_X12_add hM5 h6 h7 h8 h9 h10 h11 h12 (by omega) (fun M13 p15 hM13 => ?_)) (kU (fun _ h => h))
    have h := h M13 p15 hM13
    show X G Y_X12_were d k n 74 [vA 67, vI x1, vI x2, vI x3, vU] [] M13 Q
    refine x_iconst (dA D_X12_were 43 rfl) ?_
    refine x_istore (xs' := [vA 67, vI x1, vI x2, vI x3, vI 0]) (dA D_X12_were 44 rfl) (by decide) rfl ?_
    exact h
set_option maxRecDepth 100000 in
theorem B_X12_were_77 {G : GG} {d : Nat} {k n : Nat} {x1 x2 x3 x4 : Int} {M : MM} {Q : PV → MM → Prop} (hd : 1 ≤ d) (hS : Sh M) (h : inR x4 ∧ ((14 ≤ x4 → X G Y_X12_were d k n 49 [vA 67, vI x1, vI x2, vI (x3 + 1), vU] [] M Q) ∧ (x4 < 14 → inR x2 ∧ ((x2 ≠ 0 → X G Y_X12_were d k n 100 [vA 67, vI x1, vI x2, vI x3, vI x4] [] M Q) ∧ (x2 = 0 → 0 ≤ x4 ∧ x4 < 14 ∧ inL (rd M 83 x4) ∧ (((rd M 83 x4) = 0 → inR x3 ∧ inR x1 ∧ ((x3 ≠ x1 → ∀ M8, M8 = wr M 86 x4 (rd M 86 x4) → Sh M8 → X G Y_X12_were d k n 77 [vA 67, vI x1, vI 0, vI x3, vI (x4 + 1)] [] M8 Q) ∧ (x3 = x1 → ∀ M9, M9 = wr M 86 x4 (rd M 83 x4) → Sh M9 → X G Y_X12_were d k n 77 [vA 67, vI x1, vI 0, vI x3, vI (x4 + 1)] [] M9 Q))) ∧ ((rd M 83 x4) ≠ 0 → X G Y_X12_were d k n 100 [vA 67, vI x1, vI x2, vI x3, vI x4] [] M Q))))))) : X G Y_X12_were d k n 77 [vA 67, vI x1, vI x2, vI x3, vI x4] [] M Q := by
  have hd1 : 1 ≤ d := by omega
  refine x_iload (dA D_X12_were 45 rfl) rfl ?_
  refine x_bipush (dA D_X12_were 46 rfl) (by decide) (by decide) ?_
  obtain ⟨h1, h⟩ := h
  refine x_icmp_geP (tgt := 141) (dA D_X12_were 47 rfl) (by decide) h1 ⟨by decide, by decide⟩ ⟨fun c => ?_, fun c => ?_⟩
  · have h := h.1 c
    refine x_iinc (xs' := [vA 67, vI x1, vI x2, vI (x3 + 1), vI x4]) (dA D_X12_were 79 rfl) rfl (by decide) rfl ?_
    refine x_goto (tgt := 49) (dA D_X12_were 80 rfl) (by decide) ?_
    refine X.weak (xs' := [vA 67, vI x1, vI x2, vI (x3 + 1), vU]) ⟨Or.inl rfl, Or.inl rfl, Or.inl rfl, Or.inl rfl, Or.inr rfl, trivial⟩ ?_
    exact h
  · have h := h.2 c
    refine x_iload_n (dA D_X12_were 48 rfl) rfl ?_
    obtain ⟨h2, h⟩ := h
    refine x_if_neP (tgt := 100) (dA D_X12_were 49 rfl) (by decide) h2 ⟨fun c => ?_, fun c => ?_⟩
    · have h := h.1 c
      exact h
    · have h := h.2 c
      refine x_aload_n (dA D_X12_were 50 rfl) rfl ?_
      refine x_get (v := vA 83) (dA D_X12_were 51 rfl) fw_RX12_76 (sO_67 hS) (congrArg (rfV G) (sR_67_34 hS)) ?_
      refine x_iload (dA D_X12_were 52 rfl) rfl ?_
      obtain ⟨h3, h⟩ := h
      obtain ⟨h4, h⟩ := h
      refine x_lald (dA D_X12_were 53 rfl) (sA_83 hS h3 h4) ?_
      refine x_lconst (a := 0) (dA D_X12_were 54 rfl) (by decide) ?_
      obtain ⟨h5, h⟩ := h
      refine x_lcmp_eqP (tgt := 104) (dA D_X12_were 55 rfl) (dA D_X12_were 56 rfl) (by decide) h5 ⟨by decide, by decide⟩ ⟨fun c => ?_, fun c => ?_⟩
      · have h := h.1 c
        refine x_iconst (dA D_X12_were 59 rfl) ?_
        refine x_istore_n (xs' := [vA 67, vI x1, vI 0, vI x3, vI x4]) (dA D_X12_were 60 rfl) (by decide) rfl ?_
        refine x_aload_n (dA D_X12_were 61 rfl) rfl ?_
        refine x_get (v := vA 86) (dA D_X12_were 62 rfl) fw_RX12_85 (sO_67 hS) (congrArg (rfV G) (sR_67_37 hS)) ?_
        refine x_iload (dA D_X12_were 63 rfl) rfl ?_
        refine x_iload_n (dA D_X12_were 64 rfl) rfl ?_
        refine x_iload_n (dA D_X12_were 65 rfl) rfl ?_
        obtain ⟨h6, h⟩ := h
        obtain ⟨h7, h⟩ := h
        refine x_icmp_neP (tgt := 127) (dA D_X12_were 66 rfl) (by decide) h6 h7 ⟨fun c => ?_, fun c => ?_⟩
        · have h := h.1 c
          refine x_aload_n (dA D_X12_were 72 rfl) rfl ?_
          refine x_get (v := vA 86) (dA D_X12_were 73 rfl) fw_RX12_85 (sO_67 hS) (congrArg (rfV G) (sR_67_37 hS)) ?_
          refine x_iload (dA D_X12_were 74 rfl) rfl ?_
          refine x_lald (dA D_X12_were 75 rfl) (sA_86 hS h3 h4) ?_
          refine x_last (dA D_X12_were 76 rfl) (sA_86 hS h3 h4) ?_
          refine x_nmM (fun M8 eM8 => ?_)
          have hM8 : Sh M8 := eM8 ▸ (sW_86 hS)
          have h := h M8 eM8 hM8
          refine x_iinc (xs' := [vA 67, vI x1, vI 0, vI x3, vI (x4 + 1)]) (dA D_X12_were 77 rfl) rfl (by decide) rfl ?_
          refine x_goto (tgt := 77) (dA D_X12_were 78 rfl) (by decide) ?_
          exact h
        · have h := h.2 c
          refine x_aload_n (dA D_X12_were 67 rfl) rfl ?_
          refine x_get (v := vA 83) (dA D_X12_were 68 rfl) fw_RX12_76 (sO_67 hS) (congrArg (rfV G) (sR_67_34 hS)) ?_
          refine x_iload (dA D_X12_were 69 rfl) rfl ?_
          refine x_lald (dA D_X12_were 70 rfl) (sA_83 hS h3 h4) ?_
          refine x_goto (tgt := 134) (dA D_X12_were 71 rfl) (by decide) ?_
          refine x_last (dA D_X12_were 76 rfl) (sA_86 hS h3 h4) ?_
          refine x_nmM (fun M9 eM9 => ?_)
          have hM9 : Sh M9 := eM9 ▸ (sW_86 hS)
          have h := h M9 eM9 hM9
          refine x_iinc (xs' := [vA 67, vI x1, vI 0, vI x3, vI (x4 + 1)]) (dA D_X12_were 77 rfl) rfl (by decide) rfl ?_
          refine x_goto (tgt := 77) (dA D_X12_were 78 rfl) (by decide) ?_
          exact h
      · have h := h.2 c
        exact h
set_option maxRecDepth 100000 in
theorem B_X12_were_100 {G : GG} {d : Nat} {k n : Nat} {x1 x2 x3 x4 : Int} {M : MM} {Q : PV → MM → Prop} (hd : 1 ≤ d) (hS : Sh M) (h : inR x3 ∧ inR x1 ∧ ((x3 ≠ x1 → 0 ≤ x4 ∧ x4 < 14 ∧ ∀ M5, M5 = wr M 86 x4 (rd M 86 x4) → Sh M5 → X G Y_X12_were d k n 77 [vA 67, vI x1, vI 1, vI x3, vI (x4 + 1)] [] M5 Q) ∧ (x3 = x1 → 0 ≤ x4 ∧ x4 < 14 ∧ ∀ M8, M8 = wr M 86 x4 (rd M 83 x4) → Sh M8 → X G Y_X12_were d k n 77 [vA 67, vI x1, vI 1, vI x3, vI (x4 + 1)] [] M8 Q))) : X G Y_X12_were d k n 100 [vA 67, vI x1, vI x2, vI x3, vI x4] [] M Q := by
  have hd1 : 1 ≤ d := by omega
  refine x_iconst (dA D_X12_were 57 rfl) ?_
  refine x_goto (tgt := 105) (dA D_X12_were 58 rfl) (by decide) ?_
  refine x_istore_n (xs' := [vA 67, vI x1, vI 1, vI x3, vI x4]) (dA D_X12_were 60 rfl) (by decide) rfl ?_
  refine x_aload_n (dA D_X12_were 61 rfl) rfl ?_
  refine x_get (v := vA 86) (dA D_X12_were 62 rfl) fw_RX12_85 (sO_67 hS) (congrArg (rfV G) (sR_67_37 hS)) ?_
  refine x_iload (dA D_X12_were 63 rfl) rfl ?_
  refine x_iload_n (dA D_X12_were 64 rfl) rfl ?_
  refine x_iload_n (dA D_X12_were 65 rfl) rfl ?_
  obtain ⟨h1, h⟩ := h
  obtain ⟨h2, h⟩ := h
  refine x_icmp_neP (tgt := 127) (dA D_X12_were 66 rfl) (by decide) h1 h2 ⟨fun c => ?_, fun c => ?_⟩
  · have h := h.1 c
    refine x_aload_n (dA D_X12_were 72 rfl) rfl ?_
    refine x_get (v := vA 86) (dA D_X12_were 73 rfl) fw_RX12_85 (sO_67 hS) (congrArg (rfV G) (sR_67_37 hS)) ?_
    refine x_iload (dA D_X12_were 74 rfl) rfl ?_
    obtain ⟨h3, h⟩ := h
    obtain ⟨h4, h⟩ := h
    refine x_lald (dA D_X12_were 75 rfl) (sA_86 hS h3 h4) ?_
    refine x_last (dA D_X12_were 76 rfl) (sA_86 hS h3 h4) ?_
    refine x_nmM (fun M5 eM5 => ?_)
    have hM5 : Sh M5 := eM5 ▸ (sW_86 hS)
    have h := h M5 eM5 hM5
    refine x_iinc (xs' := [vA 67, vI x1, vI 1, vI x3, vI (x4 + 1)]) (dA D_X12_were 77 rfl) rfl (by decide) rfl ?_
    refine x_goto (tgt := 77) (dA D_X12_were 78 rfl) (by decide) ?_
    exact h
  · have h := h.2 c
    refine x_aload_n (dA D_X12_were 67 rfl) rfl ?_
    refine x_get (v := vA 83) (dA D_X12_were 68 rfl) fw_RX12_76 (sO_67 hS) (congrArg (rfV G) (sR_67_34 hS)) ?_
    refine x_iload (dA D_X12_were 69 rfl) rfl ?_
    obtain ⟨h6, h⟩ := h
    obtain ⟨h7, h⟩ := h
    refine x_lald (dA D_X12_were 70 rfl) (sA_83 hS h6 h7) ?_
    refine x_goto (tgt := 134) (dA D_X12_were 71 rfl) (by decide) ?_
    refine x_last (dA D_X12_were 76 rfl) (sA_86 hS h6 h7) ?_
    refine x_nmM (fun M8 eM8 => ?_)
    have hM8 : Sh M8 := eM8 ▸ (sW_86 hS)
    have h := h M8 eM8 hM8
    refine x_iinc (xs' := [vA 67, vI x1, vI 1, vI x3, vI (x4 + 1)]) (dA D_X12_were 77 rfl) rfl (by decide) rfl ?_
    refine x_goto (tgt := 77) (dA D_X12_were 78 rfl) (by decide) ?_
    exact h
