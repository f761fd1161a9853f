set_option maxRecDepth 100000 in
theorem B_X9_gain_0 {G : GG} {d : Nat} {k n : Nat} {t x1 x2 x3 x4 : Int} {M : MM} {Q : PV → MM → Prop} (hd : 2 ≤ d) (ht : t = 32 ∨ t = 44) (hS : Sh M) (h : 0 ≤ x1 ∧ x1 < 5 ∧ inR (rd M 4 x1) ∧ ∀ v4, v4 = (if (rd M 4 x1) = 1 then 1 else 0) → inR (rd M t 11) ∧ (((rd M t 11) < 5 ∨ 10 < (rd M t 11)) → inR x1 ∧ Q (vI (if x1 = (rd M t 11) then 1 else 0)) M) ∧ ((rd M t 11) = 5 → inR v4 ∧ Q (vI (if v4 ≠ 0 then 1 else 0)) M) ∧ ((rd M t 11) = 6 → Q (vI 0) M) ∧ ((rd M t 11) = 7 → inR v4 ∧ Q (vI (if v4 = 0 then 0 else (x2 + x3))) M) ∧ ((rd M t 11) = 8 → X G Y_X9_gain d k n 78 [vA t, vI x1, vI x2, vI x3, vI x4, vI v4, vU, vU] [] M Q) ∧ ((rd M t 11) = 9 → X G Y_X9_gain d k n 78 [vA t, vI x1, vI x2, vI x3, vI x4, vI v4, vU, vU] [] M Q) ∧ ((rd M t 11) = 10 → X G Y_X9_gain d k n 78 [vA t, vI x1, vI x2, vI x3, vI x4, vI v4, vU, vU] [] M Q)) : X G Y_X9_gain d k n 0 [vA t, vI x1, vI x2, vI x3, vI x4, vU, vU, vU] [] M Q := by
  have hd1 : 1 ≤ d := by omega
  refine x_aload_n (dA D_X9_gain 0 rfl) rfl ?_
  refine x_get (v := vA 1) (dA D_X9_gain 1 rfl) fw_RX9_45 (sOt_0 ht hS) (congrArg (rfV G) (sRt_0 ht hS)) ?_
  refine x_iload_n (dA D_X9_gain 2 rfl) rfl ?_
  obtain ⟨h1, h⟩ := h
  obtain ⟨h2, h⟩ := h
  obtain ⟨h3, h⟩ := h
  refine x_callV 3 [vI x1] [] (dA D_X9_gain 3 rfl) cw_RX9_124 rfl rfl (Nat.le_of_ble_eq_true rfl) (by decide) rfl hd1 (zk k) (zk n) (sO_1 hS) (S_X4_isEnd hS h1 h2 h3 (by omega) ?_) (kI (fun _ _ h => h))
  show X G Y_X9_gain d k n 8 [vA t, vI x1, vI x2, vI x3, vI x4, vU, vU, vU] [vI (if (rd M 4 x1) = 1 then 1 else 0)] M Q
  refine x_nmI (fun v4 ev4 => ?_)
  have h := h v4 ev4
  refine x_istore (xs' := [vA t, vI x1, vI x2, vI x3, vI x4, vI v4, vU, vU]) (dA D_X9_gain 4 rfl) (by decide) rfl ?_
  refine x_aload_n (dA D_X9_gain 5 rfl) rfl ?_
  refine x_get (v := vI (rd M t 11)) (dA D_X9_gain 6 rfl) fw_RX9_42 (sOt_0 ht hS) rfl ?_
  obtain ⟨h5, h⟩ := h
  by_cases hz : (rd M t 11) < 5 ∨ 10 < (rd M t 11)
  · have h := h.1 hz
    refine x_tblO (tgt := 81) (dA D_X9_gain 7 rfl) (by decide) h5 hz ?_
    refine x_iload_n (dA D_X9_gain 25 rfl) rfl ?_
    refine x_aload_n (dA D_X9_gain 26 rfl) rfl ?_
    refine x_get (v := vI (rd M t 11)) (dA D_X9_gain 27 rfl) fw_RX9_42 (sOt_0 ht hS) rfl ?_
    obtain ⟨h7, h⟩ := h
    have hJ : X G Y_X9_gain d k n 94 [vA t, vI x1, vI x2, vI x3, vI x4, vI v4, vU, vU] [vI (if x1 = (rd M t 11) then 1 else 0)] M Q := by
      exact x_ireturn (dA D_X9_gain 32 rfl) rfl h
    refine x_icmp_neP (tgt := 93) (dA D_X9_gain 28 rfl) (by decide) h7 h5 ⟨fun c6 => ?_, fun c6 => ?_⟩
    · refine x_iconst (dA D_X9_gain 31 rfl) ?_
      have e0 : (if x1 = (rd M t 11) then (1 : Int) else 0) = 0 := if_neg (by first | omega | grind)
      rw [e0] at hJ
      exact hJ
    · refine x_iconst (dA D_X9_gain 29 rfl) ?_
      refine x_goto (tgt := 94) (dA D_X9_gain 30 rfl) (by decide) ?_
      have e0 : (if x1 = (rd M t 11) then (1 : Int) else 0) = 1 := if_pos (by first | omega | grind)
      rw [e0] at hJ
      exact hJ
  · have h := h.2
    have hq : (rd M t 11) = 5 ∨ (rd M t 11) = 6 ∨ (rd M t 11) = 7 ∨ (rd M t 11) = 8 ∨ (rd M t 11) = 9 ∨ (rd M t 11) = 10 := by omega
    rcases hq with c | c | c | c | c | c
    · have h := h.1 c
      refine x_tblI (off := 38) (tgt := 52) (dA D_X9_gain 7 rfl) h5 (by omega) (by omega) (by rw [c]; rfl) (by decide) ?_
      refine x_iload (dA D_X9_gain 8 rfl) rfl ?_
      obtain ⟨h12, h⟩ := h
      have hJ : X G Y_X9_gain d k n 62 [vA t, vI x1, vI x2, vI x3, vI x4, vI v4, vU, vU] [vI (if v4 ≠ 0 then 1 else 0)] M Q := by
        exact x_ireturn (dA D_X9_gain 13 rfl) rfl h
      refine x_if_eqP (tgt := 61) (dA D_X9_gain 9 rfl) (by decide) h12 ⟨fun c11 => ?_, fun c11 => ?_⟩
      · refine x_iconst (dA D_X9_gain 12 rfl) ?_
        have e0 : (if v4 ≠ 0 then (1 : Int) else 0) = 0 := if_neg (by first | omega | grind)
        rw [e0] at hJ
        exact hJ
      · refine x_iconst (dA D_X9_gain 10 rfl) ?_
        refine x_goto (tgt := 62) (dA D_X9_gain 11 rfl) (by decide) ?_
        have e0 : (if v4 ≠ 0 then (1 : Int) else 0) = 1 := if_pos (by first | omega | grind)
        rw [e0] at hJ
        exact hJ
    · have h := h.2.1 c
      refine x_tblI (off := 49) (tgt := 63) (dA D_X9_gain 7 rfl) h5 (by omega) (by omega) (by rw [c]; rfl) (by decide) ?_
      refine x_iconst (dA D_X9_gain 14 rfl) ?_
      exact x_ireturn (dA D_X9_gain 15 rfl) rfl h
    · have h := h.2.2.1 c
      refine x_tblI (off := 51) (tgt := 65) (dA D_X9_gain 7 rfl) h5 (by omega) (by omega) (by rw [c]; rfl) (by decide) ?_
      refine x_iload (dA D_X9_gain 16 rfl) rfl ?_
      obtain ⟨h17, h⟩ := h
      have hJ : X G Y_X9_gain d k n 77 [vA t, vI x1, vI x2, vI x3, vI x4, vI v4, vU, vU] [vI (if v4 = 0 then 0 else (x2 + x3))] M Q := by
        exact x_ireturn (dA D_X9_gain 23 rfl) rfl h
      refine x_if_eqP (tgt := 76) (dA D_X9_gain 17 rfl) (by decide) h17 ⟨fun c16 => ?_, fun c16 => ?_⟩
      · refine x_iconst (dA D_X9_gain 22 rfl) ?_
        rw [if_pos c16] at hJ
        exact hJ
      · refine x_iload_n (dA D_X9_gain 18 rfl) rfl ?_
        refine x_iload_n (dA D_X9_gain 19 rfl) rfl ?_
        refine x_iadd (dA D_X9_gain 20 rfl) ?_
        refine x_goto (tgt := 77) (dA D_X9_gain 21 rfl) (by decide) ?_
        rw [if_neg (by first | omega | grind)] at hJ
        exact hJ
    · have h := h.2.2.2.1 c
      refine x_tblI (off := 64) (tgt := 78) (dA D_X9_gain 7 rfl) h5 (by omega) (by omega) (by rw [c]; rfl) (by decide) ?_
      exact h
    · have h := h.2.2.2.2.1 c
      refine x_tblI (off := 64) (tgt := 78) (dA D_X9_gain 7 rfl) h5 (by omega) (by omega) (by rw [c]; rfl) (by decide) ?_
      exact h
    · have h := h.2.2.2.2.2 c
      refine x_tblI (off := 64) (tgt := 78) (dA D_X9_gain 7 rfl) h5 (by omega) (by omega) (by rw [c]; rfl) (by decide) ?_
      exact h
theorem C_X9_gain {G : GG} {d : Nat} {t x1 x2 x3 x4 : Int} {M : MM} {Q : PV → MM → Prop} (h : X G Y_X9_gain d 0 0 0 [vA t, vI x1, vI x2, vI x3, vI x4, vU, vU, vU] [] M Q) : C G Y_X9_gain d 0 0 [vA t, vI x1, vI x2, vI x3, vI x4] M Q := X.entry (by decide) (Nat.le_of_ble_eq_true rfl) rfl rfl rfl h
set_option maxRecDepth 100000 in
theorem B_X9_gain_78 {G : GG} {d : Nat} {k n : Nat} {t x1 x2 x3 x4 x5 : Int} {M : MM} {Q : PV → MM → Prop} (hd : 2 ≤ d) (ht : t = 32 ∨ t = 44) (hS : Sh M) (h : inR (rd M t 11) ∧ ∀ v12, v12 = (if (rd M t 11) ≠ 10 then (x2 * (rd M 6 0)) else 0) → ∀ v23, v23 = v12 + (if (rd M t 11) ≠ 9 then (x3 * (rd M 6 1)) else 0) → 0 ≤ x1 ∧ x1 < 5 ∧ inR x5 ∧ ∀ v35, v35 = ((rd M 8 0) * (rd M 2 x1)) + (if x5 = 0 then 0 else (rd M 8 1)) → Q (vI ((v23 * v35) + (if (rd M t 11) ≠ 8 then 0 else (iAnd (iShr x4 16) 1023)))) M) : X G Y_X9_gain d k n 78 [vA t, vI x1, vI x2, vI x3, vI x4, vI x5, vU, vU] [] M Q := by
  have hd1 : 1 ≤ d := by omega
  refine x_goto (tgt := 95) (dA D_X9_gain 24 rfl) (by decide) ?_
  refine x_aload_n (dA D_X9_gain 33 rfl) rfl ?_
  refine x_get (v := vI (rd M t 11)) (dA D_X9_gain 34 rfl) fw_RX9_42 (sOt_0 ht hS) rfl ?_
  refine x_bipush (dA D_X9_gain 35 rfl) (by decide) (by decide) ?_
  obtain ⟨h2, h⟩ := h
  have hJ : X G Y_X9_gain d k n 119 [vA t, vI x1, vI x2, vI x3, vI x4, vI x5, vU, vU] [vI (if (rd M t 11) ≠ 10 then (x2 * (rd M 6 0)) else 0)] M Q := by
    refine x_nmI (fun v12 ev12 => ?_)
    have h := h v12 ev12
    refine x_istore (xs' := [vA t, vI x1, vI x2, vI x3, vI x4, vI x5, vI v12, vU]) (dA D_X9_gain 46 rfl) (by decide) rfl ?_
    refine x_iload (dA D_X9_gain 47 rfl) rfl ?_
    refine x_aload_n (dA D_X9_gain 48 rfl) rfl ?_
    refine x_get (v := vI (rd M t 11)) (dA D_X9_gain 49 rfl) fw_RX9_42 (sOt_0 ht hS) rfl ?_
    refine x_bipush (dA D_X9_gain 50 rfl) (by decide) (by decide) ?_
    have hJ : X G Y_X9_gain d k n 147 [vA t, vI x1, vI x2, vI x3, vI x4, vI x5, vI v12, vU] [vI (if (rd M t 11) ≠ 9 then (x3 * (rd M 6 1)) else 0), vI v12] M Q := by
      refine x_iadd (dA D_X9_gain 61 rfl) ?_
      refine x_nmI (fun v23 ev23 => ?_)
      have h := h v23 ev23
      refine x_istore (xs' := [vA t, vI x1, vI x2, vI x3, vI x4, vI x5, vI v23, vU]) (dA D_X9_gain 62 rfl) (by decide) rfl ?_
      refine x_aload_n (dA D_X9_gain 63 rfl) rfl ?_
      refine x_get (v := vA 1) (dA D_X9_gain 64 rfl) fw_RX9_45 (sOt_0 ht hS) (congrArg (rfV G) (sRt_0 ht hS)) ?_
      refine x_get (v := vA 8) (dA D_X9_gain 65 rfl) fw_RX9_170 (sO_1 hS) (congrArg (rfV G) (sR_1_7 hS)) ?_
      refine x_iconst (dA D_X9_gain 66 rfl) ?_
      refine x_iald (dA D_X9_gain 67 rfl) (sA_8 hS (by decide) (by decide)) ?_
      refine x_aload_n (dA D_X9_gain 68 rfl) rfl ?_
      refine x_get (v := vA 1) (dA D_X9_gain 69 rfl) fw_RX9_45 (sOt_0 ht hS) (congrArg (rfV G) (sRt_0 ht hS)) ?_
      refine x_get (v := vA 2) (dA D_X9_gain 70 rfl) fw_RX9_173 (sO_1 hS) (congrArg (rfV G) (sR_1_1 hS)) ?_
      refine x_iload_n (dA D_X9_gain 71 rfl) rfl ?_
      obtain ⟨h24, h⟩ := h
      obtain ⟨h25, h⟩ := h
      refine x_iald (dA D_X9_gain 72 rfl) (sA_2 hS h24 h25) ?_
      refine x_imul (dA D_X9_gain 73 rfl) ?_
      refine x_iload (dA D_X9_gain 74 rfl) rfl ?_
      obtain ⟨h27, h⟩ := h
      have hJ : X G Y_X9_gain d k n 187 [vA t, vI x1, vI x2, vI x3, vI x4, vI x5, vI v23, vU] [vI (if x5 = 0 then 0 else (rd M 8 1)), vI ((rd M 8 0) * (rd M 2 x1))] M Q := by
        refine x_iadd (dA D_X9_gain 83 rfl) ?_
        refine x_nmI (fun v35 ev35 => ?_)
        have h := h v35 ev35
        refine x_istore (xs' := [vA t, vI x1, vI x2, vI x3, vI x4, vI x5, vI v23, vI v35]) (dA D_X9_gain 84 rfl) (by decide) rfl ?_
        refine x_iload (dA D_X9_gain 85 rfl) rfl ?_
        refine x_iload (dA D_X9_gain 86 rfl) rfl ?_
        refine x_imul (dA D_X9_gain 87 rfl) ?_
        refine x_aload_n (dA D_X9_gain 88 rfl) rfl ?_
        refine x_get (v := vI (rd M t 11)) (dA D_X9_gain 89 rfl) fw_RX9_42 (sOt_0 ht hS) rfl ?_
        refine x_bipush (dA D_X9_gain 90 rfl) (by decide) (by decide) ?_
        have hJ : X G Y_X9_gain d k n 213 [vA t, vI x1, vI x2, vI x3, vI x4, vI x5, vI v23, vI v35] [vI (if (rd M t 11) ≠ 8 then 0 else (iAnd (iShr x4 16) 1023)), vI (v23 * v35)] M Q := by
          refine x_iadd (dA D_X9_gain 96 rfl) ?_
          exact x_ireturn (dA D_X9_gain 97 rfl) rfl h
        refine x_icmp_neP (tgt := 212) (dA D_X9_gain 91 rfl) (by decide) h2 ⟨by decide, by decide⟩ ⟨fun c36 => ?_, fun c36 => ?_⟩
        · refine x_iconst (dA D_X9_gain 95 rfl) ?_
          rw [if_pos c36] at hJ
          exact hJ
        · refine x_iload (dA D_X9_gain 92 rfl) rfl ?_
          refine x_callS [vI x4] [vI (v23 * v35)] (dA D_X9_gain 93 rfl) cw_RX9_176 rfl rfl (Nat.le_of_ble_eq_true rfl) hd1 (zk k) (zk n) (S_X8_pricesOf  (by omega) ?_) (kI (fun _ _ h => h))
          show X G Y_X9_gain d k n 209 [vA t, vI x1, vI x2, vI x3, vI x4, vI x5, vI v23, vI v35] [vI (iAnd (iShr x4 16) 1023), vI (v23 * v35)] M Q
          refine x_goto (tgt := 213) (dA D_X9_gain 94 rfl) (by decide) ?_
          rw [if_neg (by first | omega | grind)] at hJ
          exact hJ
      refine x_if_eqP (tgt := 186) (dA D_X9_gain 75 rfl) (by decide) h27 ⟨fun c26 => ?_, fun c26 => ?_⟩
      · refine x_iconst (dA D_X9_gain 82 rfl) ?_
        rw [if_pos c26] at hJ
        exact hJ
      · refine x_aload_n (dA D_X9_gain 76 rfl) rfl ?_
        refine x_get (v := vA 1) (dA D_X9_gain 77 rfl) fw_RX9_45 (sOt_0 ht hS) (congrArg (rfV G) (sRt_0 ht hS)) ?_
        refine x_get (v := vA 8) (dA D_X9_gain 78 rfl) fw_RX9_170 (sO_1 hS) (congrArg (rfV G) (sR_1_7 hS)) ?_
        refine x_iconst (dA D_X9_gain 79 rfl) ?_
        refine x_iald (dA D_X9_gain 80 rfl) (sA_8 hS (by decide) (by decide)) ?_
        refine x_goto (tgt := 187) (dA D_X9_gain 81 rfl) (by decide) ?_
        rw [if_neg (by first | omega | grind)] at hJ
        exact hJ
    refine x_icmp_neP (tgt := 136) (dA D_X9_gain 51 rfl) (by decide) h2 ⟨by decide, by decide⟩ ⟨fun c13 => ?_, fun c13 => ?_⟩
    · refine x_iload_n (dA D_X9_gain 54 rfl) rfl ?_
      refine x_aload_n (dA D_X9_gain 55 rfl) rfl ?_
      refine x_get (v := vA 1) (dA D_X9_gain 56 rfl) fw_RX9_45 (sOt_0 ht hS) (congrArg (rfV G) (sRt_0 ht hS)) ?_
      refine x_get (v := vA 6) (dA D_X9_gain 57 rfl) fw_RX9_167 (sO_1 hS) (congrArg (rfV G) (sR_1_5 hS)) ?_
      refine x_iconst (dA D_X9_gain 58 rfl) ?_
      refine x_iald (dA D_X9_gain 59 rfl) (sA_6 hS (by decide) (by decide)) ?_
      refine x_imul (dA D_X9_gain 60 rfl) ?_
      rw [if_pos c13] at hJ
      exact hJ
    · refine x_iconst (dA D_X9_gain 52 rfl) ?_
      refine x_goto (tgt := 147) (dA D_X9_gain 53 rfl) (by decide) ?_
      rw [if_neg (by first | omega | grind)] at hJ
      exact hJ
  refine x_icmp_neP (tgt := 108) (dA D_X9_gain 36 rfl) (by decide) h2 ⟨by decide, by decide⟩ ⟨fun c1 => ?_, fun c1 => ?_⟩
  · refine x_iload_n (dA D_X9_gain 39 rfl) rfl ?_
    refine x_aload_n (dA D_X9_gain 40 rfl) rfl ?_
    refine x_get (v := vA 1) (dA D_X9_gain 41 rfl) fw_RX9_45 (sOt_0 ht hS) (congrArg (rfV G) (sRt_0 ht hS)) ?_
    refine x_get (v := vA 6) (dA D_X9_gain 42 rfl) fw_RX9_167 (sO_1 hS) (congrArg (rfV G) (sR_1_5 hS)) ?_
    refine x_iconst (dA D_X9_gain 43 rfl) ?_
    refine x_iald (dA D_X9_gain 44 rfl) (sA_6 hS (by decide) (by decide)) ?_
    refine x_imul (dA D_X9_gain 45 rfl) ?_
    rw [if_pos c1] at hJ
    exact hJ
  · refine x_iconst (dA D_X9_gain 37 rfl) ?_
    refine x_goto (tgt := 119) (dA D_X9_gain 38 rfl) (by decide) ?_
    rw [if_neg (by first | omega | grind)] at hJ
    exact hJ
set_option maxRecDepth 100000 in
theorem B_X9_startSum_0 {G : GG} {d : Nat} {k n : Nat} {t x1 x2 : Int} {M : MM} {Q : PV → MM → Prop} (hd : 2 ≤ d) (ht : t = 32 ∨ t = 44) (hS : Sh M) (h : fill1 M (t + 3) 21 ∧ ∀ M2, (∃ len : Int, (mT M (t + 3)).2 = len ∧ Ch M M2 (t + 3) 0 len.toNat ∧ ∀ i : Int, 0 ≤ i → i < len → rd M2 (t + 3) i = (0 : Int)) → Sh M2 → Ar M2 (t + 3) 0 14 ∧ (0 ≤ (20 * (5 - x1)) ∧ (20 * (5 - x1)) < 112) ∧ ∀ M7, (M7 = wr M2 (t + 3) ((20 * (5 - x1)) / 8) (rd M2 (t + 3) ((20 * (5 - x1)) / 8) + x2 * tenF ((20 * (5 - x1)) % 8).toNat)) → Sh M7 → Ar M7 (t + 3) 0 14 ∧ ((∀ i : Int, 0 ≤ i → i < 14 → 0 ≤ rd M7 (t + 3) i ∧ rd M7 (t + 3) i ≤ 4000000000000000000)) ∧ vl (rd M7 (t + 3)) 0 14 < Bp 14 ∧ ∀ M13, (Ch M7 M13 (t + 3) 0 14 ∧ nrm (rd M13 (t + 3)) 0 14 ∧ vl (rd M13 (t + 3)) 0 14 = vl (rd M7 (t + 3)) 0 14) → Sh M13 → Q vU M13) : X G Y_X9_startSum d k n 0 [vA t, vI x1, vL x2, vU] [] M Q := by
  have hd1 : 1 ≤ d := by omega
  refine x_aload_n (dA D_X9_startSum 0 rfl) rfl ?_
  refine x_get (v := vA (t + 3)) (dA D_X9_startSum 1 rfl) fw_RX9_23 (sOt_0 ht hS) (congrArg (rfV G) (sRt_5 ht hS)) ?_
  refine x_lconst (a := 0) (dA D_X9_startSum 2 rfl) (by decide) ?_
  obtain ⟨h1, h⟩ := h
  refine x_callS [vA (t + 3), vL 0] [] (dA D_X9_startSum 3 rfl) cw_RX9_143 rfl rfl (Nat.le_of_ble_eq_true rfl) hd1 (zk k) (zk n) (T_fillL hS h1 (by omega) (fun M2 p4 hM2 => ?_)) (kU (fun _ h => h))
  have h := h M2 p4 hM2
  show X G Y_X9_startSum d k n 8 [vA t, vI x1, vL x2, vU] [] M2 Q
  refine x_aload_n (dA D_X9_startSum 4 rfl) rfl ?_
  refine x_get (v := vA (t + 3)) (dA D_X9_startSum 5 rfl) fw_RX9_23 (sOt_0 ht hM2) (congrArg (rfV G) (sRt_5 ht hM2)) ?_
  refine x_bipush (dA D_X9_startSum 6 rfl) (by decide) (by decide) ?_
  refine x_iconst (dA D_X9_startSum 7 rfl) ?_
  refine x_iload_n (dA D_X9_startSum 8 rfl) rfl ?_
  refine x_isub (dA D_X9_startSum 9 rfl) ?_
  refine x_imul (dA D_X9_startSum 10 rfl) ?_
  refine x_lload_n (dA D_X9_startSum 11 rfl) rfl ?_
  obtain ⟨h5, h⟩ := h
  obtain ⟨h6, h⟩ := h
  refine x_callS [vA (t + 3), vI (20 * (5 - x1)), vL x2] [] (dA D_X9_startSum 12 rfl) cw_RX9_146 rfl rfl (Nat.le_of_ble_eq_true rfl) hd1 (zk k) (zk n) (T_X2_addAt hM2 h5 h6 (by omega) (fun M7 p9 hM7 => ?_)) (kU (fun _ h => h))
  have h := h M7 p9 hM7
  show X G Y_X9_startSum d k n 22 [vA t, vI x1, vL x2, vU] [] M7 Q
  refine x_aload_n (dA D_X9_startSum 13 rfl) rfl ?_
  refine x_get (v := vA (t + 3)) (dA D_X9_startSum 14 rfl) fw_RX9_23 (sOt_0 ht hM7) (congrArg (rfV G) (sRt_5 ht hM7)) ?_
  obtain ⟨h10, h⟩ := h
  obtain ⟨h11, h⟩ := h
  obtain ⟨h12, h⟩ := h
  refine x_callS [vA (t + 3)] [] (dA D_X9_startSum 15 rfl) cw_RX9_150 rfl rfl (Nat.le_of_ble_eq_true rfl) hd1 (zk k) (zk n) (T_X2_carry hM7 h10 h11 h12 (by omega) (fun M13 p15 hM13 => ?_)) (kU (fun _ h => h))
  have h := h M13 p15 hM13
  show X G Y_X9_startSum d k n 29 [vA t, vI x1, vL x2, vU] [] M13 Q
  exact x_return (dA D_X9_startSum 16 rfl) rfl h
theorem C_X9_startSum {G : GG} {d : Nat} {t x1 x2 : Int} {M : MM} {Q : PV → MM → Prop} (h : X G Y_X9_startSum d 0 0 0 [vA t, vI x1, vL x2, vU] [] M Q) : C G Y_X9_startSum d 0 0 [vA t, vI x1, vL x2] M Q := X.entry (by decide) (Nat.le_of_ble_eq_true rfl) rfl rfl rfl h
set_option maxRecDepth 100000 in
theorem B_X9_expect_0 {G : GG} {d : Nat} {k n : Nat} {t x1 x2 x3 x4 x5 : Int} {M : MM} {Q : PV → MM → Prop} (hd : 2 ≤ d) (ht : t = 32 ∨ t = 44) (hS : Sh M) (h : 0 ≤ x1 ∧ x1 < 32 ∧ 0 ≤ (pop x1) ∧ (pop x1) < 6 ∧ ∀ v5, v5 = limF (Int.toNat (pop x1)) → inR (v5 + 2) ∧ ∀ v7, v7 = (if 14 < (v5 + 2) then 14 else (v5 + 2)) → 0 ≤ (((x1 * 5) + x2) + 1) ∧ (((x1 * 5) + x2) + 1) < 161 ∧ ∀ v10, v10 = rd M 27 (((x1 * 5) + x2) + 1) → Ar M (t + 5) 0 6 ∧ (0 ≤ x3 ∧ x3 < 6) ∧ (0 ≤ (iAnd (if (0 : Int) ≠ 0 then (iShr x5 8) else x5) 127) ∧ (iAnd (if (0 : Int) ≠ 0 then (iShr x5 8) else x5) 127) ≤ 100) ∧ ∀ M14, (Ch M M14 (t + 5) 0 6 ∧ ∀ k : Int, 0 ≤ k → k ≤ x3 → rd M14 (t + 5) k = stv x3 (iAnd (if (0 : Int) ≠ 0 then (iShr x5 8) else x5) 127) k) → Sh M14 → Ar M14 (t + 6) 0 6 ∧ (0 ≤ x4 ∧ x4 < 6) ∧ (0 ≤ (iAnd (if (1 : Int) ≠ 0 then (iShr x5 8) else x5) 127) ∧ (iAnd (if (1 : Int) ≠ 0 then (iShr x5 8) else x5) 127) ≤ 100) ∧ ∀ M20, (Ch M14 M20 (t + 6) 0 6 ∧ ∀ k : Int, 0 ≤ k → k ≤ x4 → rd M20 (t + 6) k = stv x4 (iAnd (if (1 : Int) ≠ 0 then (iShr x5 8) else x5) 127) k) → Sh M20 → X G Y_X9_expect d k n 68 [vA t, vI x1, vI x2, vI x3, vI x4, vI x5, vI v5, vI v7, vI v10, vI 0, vU] [] M20 Q) : X G Y_X9_expect d k n 0 [vA t, vI x1, vI x2, vI x3, vI x4, vI x5, vU, vU, vU, vU, vU] [] M Q := by
  have hd1 : 1 ≤ d := by omega
  refine x_getsL (dA D_X9_expect 0 rfl) sf_RX9_77 ?_
  refine x_iload_n (dA D_X9_expect 1 rfl) rfl ?_
  obtain ⟨h1, h⟩ := h
  obtain ⟨h2, h⟩ := h
  refine x_callS [vI x1] [vA (-3)] (dA D_X9_expect 2 rfl) cw_RX9_80 rfl rfl (Nat.le_of_ble_eq_true rfl) hd1 (zk k) (zk n) (S_bitCount h1 h2 (by omega) ?_) (kI (fun _ _ h => h))
  show X G Y_X9_expect d k n 7 [vA t, vI x1, vI x2, vI x3, vI x4, vI x5, vU, vU, vU, vU, vU] [vI (pop x1), vA (-3)] M Q
  obtain ⟨h3, h⟩ := h
  obtain ⟨h4, h⟩ := h
  refine x_tabL (dA D_X9_expect 3 rfl) h3 h4 ?_
  refine x_nmI (fun v5 ev5 => ?_)
  have h := h v5 ev5
  refine x_istore (xs' := [vA t, vI x1, vI x2, vI x3, vI x4, vI x5, vI v5, vU, vU, vU, vU]) (dA D_X9_expect 4 rfl) (by decide) rfl ?_
  refine x_iload (dA D_X9_expect 5 rfl) rfl ?_
  refine x_iconst (dA D_X9_expect 6 rfl) ?_
  refine x_iadd (dA D_X9_expect 7 rfl) ?_
  refine x_bipush (dA D_X9_expect 8 rfl) (by decide) (by decide) ?_
  obtain ⟨h6, h⟩ := h
  refine x_mminI [] (dA D_X9_expect 9 rfl) ml_RX9_154 (Nat.le_of_ble_eq_true rfl) hd1 h6 ⟨by decide, by decide⟩ ?_
  refine x_nmI (fun v7 ev7 => ?_)
  have h := h v7 ev7
  refine x_istore (xs' := [vA t, vI x1, vI x2, vI x3, vI x4, vI x5, vI v5, vI v7, vU, vU, vU]) (dA D_X9_expect 10 rfl) (by decide) rfl ?_
  refine x_aload_n (dA D_X9_expect 11 rfl) rfl ?_
  refine x_get (v := vA 25) (dA D_X9_expect 12 rfl) fw_RX9_49 (sOt_0 ht hS) (congrArg (rfV G) (sRt_1 ht hS)) ?_
  refine x_get (v := vA 27) (dA D_X9_expect 13 rfl) fw_RX9_86 (sO_25 hS) (congrArg (rfV G) (sR_25_3 hS)) ?_
  refine x_iload_n (dA D_X9_expect 14 rfl) rfl ?_
  refine x_iload_n (dA D_X9_expect 15 rfl) rfl ?_
  refine x_callS [vI x1, vI x2] [vA 27] (dA D_X9_expect 16 rfl) cw_RX9_60 rfl rfl (Nat.le_of_ble_eq_true rfl) hd1 (zk k) (zk n) (S_X8_nodeOf  (by omega) ?_) (kI (fun _ _ h => h))
  show X G Y_X9_expect d k n 33 [vA t, vI x1, vI x2, vI x3, vI x4, vI x5, vI v5, vI v7, vU, vU, vU] [vI (((x1 * 5) + x2) + 1), vA 27] M Q
  obtain ⟨h8, h⟩ := h
  obtain ⟨h9, h⟩ := h
  refine x_iald (dA D_X9_expect 17 rfl) (sA_27 hS h8 h9) ?_
  refine x_nmI (fun v10 ev10 => ?_)
  have h := h v10 ev10
  refine x_istore (xs' := [vA t, vI x1, vI x2, vI x3, vI x4, vI x5, vI v5, vI v7, vI v10, vU, vU]) (dA D_X9_expect 18 rfl) (by decide) rfl ?_
  refine x_aload_n (dA D_X9_expect 19 rfl) rfl ?_
  refine x_get (v := vA (t + 5)) (dA D_X9_expect 20 rfl) fw_RX9_29 (sOt_0 ht hS) (congrArg (rfV G) (sRt_7 ht hS)) ?_
  refine x_iload_n (dA D_X9_expect 21 rfl) rfl ?_
  refine x_iload (dA D_X9_expect 22 rfl) rfl ?_
  refine x_iconst (dA D_X9_expect 23 rfl) ?_
  refine x_callS [vI x5, vI 0] [vI x3, vA (t + 5)] (dA D_X9_expect 24 rfl) cw_RX9_137 rfl rfl (Nat.le_of_ble_eq_true rfl) hd1 (zk k) (zk n) (S_X8_chanceOf ⟨by decide, by decide⟩ (by omega) ?_) (kI (fun _ _ h => h))
  show X G Y_X9_expect d k n 47 [vA t, vI x1, vI x2, vI x3, vI x4, vI x5, vI v5, vI v7, vI v10, vU, vU] [vI (iAnd (if (0 : Int) ≠ 0 then (iShr x5 8) else x5) 127), vI x3, vA (t + 5)] M Q
  obtain ⟨h11, h⟩ := h
  obtain ⟨h12, h⟩ := h
  obtain ⟨h13, h⟩ := h
  refine x_callS [vA (t + 5), vI x3, vI (iAnd (if (0 : Int) ≠ 0 then (iShr x5 8) else x5) 127)] [] (dA D_X9_expect 25 rfl) cw_RX9_159 rfl rfl (Nat.le_of_ble_eq_true rfl) hd1 (zk k) (zk n) (T_X2_spread hS h11 h12 h13 (by omega) (fun M14 p16 hM14 => ?_)) (kU (fun _ h => h))
  have h := h M14 p16 hM14
  show X G Y_X9_expect d k n 50 [vA t, vI x1, vI x2, vI x3, vI x4, vI x5, vI v5, vI v7, vI v10, vU, vU] [] M14 Q
  refine x_aload_n (dA D_X9_expect 26 rfl) rfl ?_
  refine x_get (v := vA (t + 6)) (dA D_X9_expect 27 rfl) fw_RX9_32 (sOt_0 ht hM14) (congrArg (rfV G) (sRt_8 ht hM14)) ?_
  refine x_iload (dA D_X9_expect 28 rfl) rfl ?_
  refine x_iload (dA D_X9_expect 29 rfl) rfl ?_
  refine x_iconst (dA D_X9_expect 30 rfl) ?_
  refine x_callS [vI x5, vI 1] [vI x4, vA (t + 6)] (dA D_X9_expect 31 rfl) cw_RX9_137 rfl rfl (Nat.le_of_ble_eq_true rfl) hd1 (zk k) (zk n) (S_X8_chanceOf ⟨by decide, by decide⟩ (by omega) ?_) (kI (fun _ _ h => h))
  show X G Y_X9_expect d k n 62 [vA t, vI x1, vI x2, vI x3, vI x4, vI x5, vI v5, vI v7, vI v10, vU, vU] [vI (iAnd (if (1 : Int) ≠ 0 then (iShr x5 8) else x5) 127), vI x4, vA (t + 6)] M14 Q
  obtain ⟨h17, h⟩ := h
  obtain ⟨h18, h⟩ := h
  obtain ⟨h19, h⟩ := h
  refine x_callS [vA (t + 6), vI x4, vI (iAnd (if (1 : Int) ≠ 0 then (iShr x5 8) else x5) 127)] [] (dA D_X9_expect 32 rfl) cw_RX9_159 rfl rfl (Nat.le_of_ble_eq_true rfl) hd1 (zk k) (zk n) (T_X2_spread hM14 h17 h18 h19 (by omega) (fun M20 p22 hM20 => ?_)) (kU (fun _ h => h))
  have h := h M20 p22 hM20
  show X G Y_X9_expect d k n 65 [vA t, vI x1, vI x2, vI x3, vI x4, vI x5, vI v5, vI v7, vI v10, vU, vU] [] M20 Q
  refine x_iconst (dA D_X9_expect 33 rfl) ?_
  refine x_istore (xs' := [vA t, vI x1, vI x2, vI x3, vI x4, vI x5, vI v5, vI v7, vI v10, vI 0, vU]) (dA D_X9_expect 34 rfl) (by decide) rfl ?_
  exact h
theorem C_X9_expect {G : GG} {d : Nat} {t x1 x2 x3 x4 x5 : Int} {M : MM} {Q : PV → MM → Prop} (h : X G Y_X9_expect d 0 0 0 [vA t, vI x1, vI x2, vI x3, vI x4, vI x5, vU, vU, vU, vU, vU] [] M Q) : C G Y_X9_expect d 0 0 [vA t, vI x1, vI x2, vI x3, vI x4, vI x5] M Q := X.entry (by decide) (Nat.le_of_ble_eq_true rfl) rfl rfl rfl h
set_option maxRecDepth 100000 in
theorem B_X9_expect_68 {G : GG} {d : Nat} {k n : Nat} {t x1 x2 x3 x4 x5 x6 x7 x8 x9 : Int} {M : MM} {Q : PV → MM → Prop} (hd : 2 ≤ d) (ht : t = 32 ∨ t = 44) (hS : Sh M) (h : inR x9 ∧ inR x3 ∧ ((x3 < x9 → Ar M (t + 3) 0 14 ∧ ((∀ i : Int, 0 ≤ i → i < 14 → 0 ≤ rd M (t + 3) i ∧ rd M (t + 3) i ≤ 4000000000000000000)) ∧ vl (rd M (t + 3)) 0 14 < Bp 14 ∧ ∀ M6, (Ch M M6 (t + 3) 0 14 ∧ nrm (rd M6 (t + 3)) 0 14 ∧ vl (rd M6 (t + 3)) 0 14 = vl (rd M (t + 3)) 0 14) → Sh M6 → Q vU M6) ∧ (x9 ≤ x3 → 0 ≤ x9 ∧ x9 < 6 ∧ inL (rd M (t + 5) x9) ∧ (((rd M (t + 5) x9) ≠ 0 → fill1 M (t + 4) 21 ∧ ∀ M13, (∃ len : Int, (mT M (t + 4)).2 = len ∧ Ch M M13 (t + 4) 0 len.toNat ∧ ∀ i : Int, 0 ≤ i → i < len → rd M13 (t + 4) i = (0 : Int)) → Sh M13 → X G Y_X9_expect d k n 100 [vA t, vI x1, vI x2, vI x3, vI x4, vI x5, vI x6, vI x7, vI x8, vI x9, vI 0] [] M13 Q) ∧ ((rd M (t + 5) x9) = 0 → X G Y_X9_expect d k n 68 [vA t, vI x1, vI x2, vI x3, vI x4, vI x5, vI x6, vI x7, vI x8, vI (x9 + 1), vU] [] M Q))))) : X G Y_X9_expect d k n 68 [vA t, vI x1, vI x2, vI x3, vI x4, vI x5, vI x6, vI x7, vI x8, vI x9, vU] [] M Q := by
  have hd1 : 1 ≤ d := by omega
  refine x_iload (dA D_X9_expect 35 rfl) rfl ?_
  refine x_iload_n (dA D_X9_expect 36 rfl) rfl ?_
  obtain ⟨h1, h⟩ := h
  obtain ⟨h2, h⟩ := h
  refine x_icmp_gtP (tgt := 192) (dA D_X9_expect 37 rfl) (by decide) h1 h2 ⟨fun c => ?_, fun c => ?_⟩
  · have h := h.1 c
    refine x_aload_n (dA D_X9_expect 97 rfl) rfl ?_
    refine x_get (v := vA (t + 3)) (dA D_X9_expect 98 rfl) fw_RX9_23 (sOt_0 ht hS) (congrArg (rfV G) (sRt_5 ht hS)) ?_
    obtain ⟨h3, h⟩ := h
    obtain ⟨h4, h⟩ := h
    obtain ⟨h5, h⟩ := h
    refine x_callS [vA (t + 3)] [] (dA D_X9_expect 99 rfl) cw_RX9_150 rfl rfl (Nat.le_of_ble_eq_true rfl) hd1 (zk k) (zk n) (T_X2_carry hS h3 h4 h5 (by omega) (fun M6 p8 hM6 => ?_)) (kU (fun _ h => h))
    have h := h M6 p8 hM6
    show X G Y_X9_expect d k n 199 [vA t, vI x1, vI x2, vI x3, vI x4, vI x5, vI x6, vI x7, vI x8, vI x9, vU] [] M6 Q
    exact x_return (dA D_X9_expect 100 rfl) rfl h
  · have h := h.2 c
    refine x_aload_n (dA D_X9_expect 38 rfl) rfl ?_
    refine x_get (v := vA (t + 5)) (dA D_X9_expect 39 rfl) fw_RX9_29 (sOt_0 ht hS) (congrArg (rfV G) (sRt_7 ht hS)) ?_
    refine x_iload (dA D_X9_expect 40 rfl) rfl ?_
    obtain ⟨h9, h⟩ := h
    obtain ⟨h10, h⟩ := h
    refine x_lald (dA D_X9_expect 41 rfl) (sAt_5 ht hS h9 h10) ?_
    refine x_lconst (a := 0) (dA D_X9_expect 42 rfl) (by decide) ?_
    obtain ⟨h11, h⟩ := h
    refine x_lcmp_neP (tgt := 89) (dA D_X9_expect 43 rfl) (dA D_X9_expect 44 rfl) (by decide) h11 ⟨by decide, by decide⟩ ⟨fun c => ?_, fun c => ?_⟩
    · have h := h.1 c
      refine x_aload_n (dA D_X9_expect 46 rfl) rfl ?_
      refine x_get (v := vA (t + 4)) (dA D_X9_expect 47 rfl) fw_RX9_26 (sOt_0 ht hS) (congrArg (rfV G) (sRt_6 ht hS)) ?_
      refine x_lconst (a := 0) (dA D_X9_expect 48 rfl) (by decide) ?_
      obtain ⟨h12, h⟩ := h
      refine x_callS [vA (t + 4), vL 0] [] (dA D_X9_expect 49 rfl) cw_RX9_143 rfl rfl (Nat.le_of_ble_eq_true rfl) hd1 (zk k) (zk n) (T_fillL hS h12 (by omega) (fun M13 p15 hM13 => ?_)) (kU (fun _ h => h))
      have h := h M13 p15 hM13
      show X G Y_X9_expect d k n 97 [vA t, vI x1, vI x2, vI x3, vI x4, vI x5, vI x6, vI x7, vI x8, vI x9, vU] [] M13 Q
      refine x_iconst (dA D_X9_expect 50 rfl) ?_
      refine x_istore (xs' := [vA t, vI x1, vI x2, vI x3, vI x4, vI x5, vI x6, vI x7, vI x8, vI x9, vI 0]) (dA D_X9_expect 51 rfl) (by decide) rfl ?_
      exact h
    · have h := h.2 c
      refine x_goto (tgt := 186) (dA D_X9_expect 45 rfl) (by decide) ?_
      refine x_iinc (xs' := [vA t, vI x1, vI x2, vI x3, vI x4, vI x5, vI x6, vI x7, vI x8, vI (x9 + 1), vU]) (dA D_X9_expect 95 rfl) rfl (by decide) rfl ?_
      refine x_goto (tgt := 68) (dA D_X9_expect 96 rfl) (by decide) ?_
      exact h
set_option maxRecDepth 100000 in
theorem B_X9_expect_100 {G : GG} {d : Nat} {k n : Nat} {t x1 x2 x3 x4 x5 x6 x7 x8 x9 x10 : Int} {M : MM} {Q : PV → MM → Prop} (hd : 2 ≤ d) (ht : t = 32 ∨ t = 44) (hS : Sh M) (h : inR x10 ∧ inR x4 ∧ ((x4 < x10 → Ar M (t + 4) 0 14 ∧ ((∀ i : Int, 0 ≤ i → i < 14 → 0 ≤ rd M (t + 4) i ∧ rd M (t + 4) i ≤ 4000000000000000000)) ∧ vl (rd M (t + 4)) 0 14 < Bp 14 ∧ ∀ M6, (Ch M M6 (t + 4) 0 14 ∧ nrm (rd M6 (t + 4)) 0 14 ∧ vl (rd M6 (t + 4)) 0 14 = vl (rd M (t + 4)) 0 14) → Sh M6 → 0 ≤ x9 ∧ x9 < 6 ∧ (0 ≤ x7 ∧ x7 ≤ 14) ∧ Ar M6 (t + 3) 0 (x7).toNat ∧ Ar M6 (t + 4) (0 : Int) (x7).toNat ∧ (t + 3) ≠ (t + 4) ∧ ∀ M15, (Ch M6 M15 (t + 3) 0 (x7).toNat ∧ ∀ i : Int, 0 ≤ i → i < x7 → rd M15 (t + 3) i = rd M6 (t + 3) i + rd M6 (t + 4) ((0 : Int) + i) * (rd M6 (t + 5) x9)) → Sh M15 → X G Y_X9_expect d k n 68 [vA t, vI x1, vI x2, vI x3, vI x4, vI x5, vI x6, vI x7, vI x8, vI (x9 + 1), vU] [] M15 Q) ∧ (x10 ≤ x4 → 0 ≤ x10 ∧ x10 < 6 ∧ inL (rd M (t + 6) x10) ∧ (((rd M (t + 6) x10) = 0 → X G Y_X9_expect d k n 100 [vA t, vI x1, vI x2, vI x3, vI x4, vI x5, vI x6, vI x7, vI x8, vI x9, vI (x10 + 1)] [] M Q) ∧ ((rd M (t + 6) x10) ≠ 0 → (0 ≤ x6 ∧ x6 ≤ 14) ∧ Ar M (t + 4) 0 (x6).toNat ∧ Ar M (t + 1) (x8 + (((x9 * 6) + x10) * x6)) (x6).toNat ∧ (t + 4) ≠ (t + 1) ∧ ∀ M25, (Ch M M25 (t + 4) 0 (x6).toNat ∧ ∀ i : Int, 0 ≤ i → i < x6 → rd M25 (t + 4) i = rd M (t + 4) i + rd M (t + 1) ((x8 + (((x9 * 6) + x10) * x6)) + i) * (rd M (t + 6) x10)) → Sh M25 → X G Y_X9_expect d k n 100 [vA t, vI x1, vI x2, vI x3, vI x4, vI x5, vI x6, vI x7, vI x8, vI x9, vI (x10 + 1)] [] M25 Q))))) : X G Y_X9_expect d k n 100 [vA t, vI x1, vI x2, vI x3, vI x4, vI x5, vI x6, vI x7, vI x8, vI x9, vI x10] [] M Q := by
  have hd1 : 1 ≤ d := by omega
  refine x_iload (dA D_X9_expect 52 rfl) rfl ?_
  refine x_iload (dA D_X9_expect 53 rfl) rfl ?_
  obtain ⟨h1, h⟩ := h
  obtain ⟨h2, h⟩ := h
  refine x_icmp_gtP (tgt := 158) (dA D_X9_expect 54 rfl) (by decide) h1 h2 ⟨fun c => ?_, fun c => ?_⟩
  · have h := h.1 c
    refine x_aload_n (dA D_X9_expect 81 rfl) rfl ?_
    refine x_get (v := vA (t + 4)) (dA D_X9_expect 82 rfl) fw_RX9_26 (sOt_0 ht hS) (congrArg (rfV G) (sRt_6 ht hS)) ?_
    obtain ⟨h3, h⟩ := h
    obtain ⟨h4, h⟩ := h
    obtain ⟨h5, h⟩ := h
    refine x_callS [vA (t + 4)] [] (dA D_X9_expect 83 rfl) cw_RX9_150 rfl rfl (Nat.le_of_ble_eq_true rfl) hd1 (zk k) (zk n) (T_X2_carry hS h3 h4 h5 (by omega) (fun M6 p8 hM6 => ?_)) (kU (fun _ h => h))
    have h := h M6 p8 hM6
    show X G Y_X9_expect d k n 165 [vA t, vI x1, vI x2, vI x3, vI x4, vI x5, vI x6, vI x7, vI x8, vI x9, vI x10] [] M6 Q
    refine x_aload_n (dA D_X9_expect 84 rfl) rfl ?_
    refine x_get (v := vA (t + 3)) (dA D_X9_expect 85 rfl) fw_RX9_23 (sOt_0 ht hM6) (congrArg (rfV G) (sRt_5 ht hM6)) ?_
    refine x_aload_n (dA D_X9_expect 86 rfl) rfl ?_
    refine x_get (v := vA (t + 4)) (dA D_X9_expect 87 rfl) fw_RX9_26 (sOt_0 ht hM6) (congrArg (rfV G) (sRt_6 ht hM6)) ?_
    refine x_iconst (dA D_X9_expect 88 rfl) ?_
    refine x_iload (dA D_X9_expect 89 rfl) rfl ?_
    refine x_aload_n (dA D_X9_expect 90 rfl) rfl ?_
    refine x_get (v := vA (t + 5)) (dA D_X9_expect 91 rfl) fw_RX9_29 (sOt_0 ht hM6) (congrArg (rfV G) (sRt_7 ht hM6)) ?_
    refine x_iload (dA D_X9_expect 92 rfl) rfl ?_
    obtain ⟨h9, h⟩ := h
    obtain ⟨h10, h⟩ := h
    refine x_lald (dA D_X9_expect 93 rfl) (sAt_5 ht hM6 h9 h10) ?_
    obtain ⟨h11, h⟩ := h
    obtain ⟨h12, h⟩ := h
    obtain ⟨h13, h⟩ := h
    obtain ⟨h14, h⟩ := h
    refine x_callS [vA (t + 3), vA (t + 4), vI 0, vI x7, vL (rd M6 (t + 5) x9)] [] (dA D_X9_expect 94 rfl) cw_RX9_163 rfl rfl (Nat.le_of_ble_eq_true rfl) hd1 (zk k) (zk n) (T_X2_addTimes hM6 h11 h12 h13 h14 (by omega) (fun M15 p17 hM15 => ?_)) (kU (fun _ h => h))
    have h := h M15 p17 hM15
    show X G Y_X9_expect d k n 186 [vA t, vI x1, vI x2, vI x3, vI x4, vI x5, vI x6, vI x7, vI x8, vI x9, vI x10] [] M15 Q
    refine x_iinc (xs' := [vA t, vI x1, vI x2, vI x3, vI x4, vI x5, vI x6, vI x7, vI x8, vI (x9 + 1), vI x10]) (dA D_X9_expect 95 rfl) rfl (by decide) rfl ?_
    refine x_goto (tgt := 68) (dA D_X9_expect 96 rfl) (by decide) ?_
    refine X.weak (xs' := [vA t, vI x1, vI x2, vI x3, vI x4, vI x5, vI x6, vI x7, vI x8, vI (x9 + 1), vU]) ⟨Or.inl rfl, Or.inl rfl, Or.inl rfl, Or.inl rfl, Or.inl rfl, Or.inl rfl, Or.inl rfl, Or.inl rfl, Or.inl rfl, Or.inl rfl, Or.inr rfl, trivial⟩ ?_
    exact h
  · have h := h.2 c
    refine x_aload_n (dA D_X9_expect 55 rfl) rfl ?_
    refine x_get (v := vA (t + 6)) (dA D_X9_expect 56 rfl) fw_RX9_32 (sOt_0 ht hS) (congrArg (rfV G) (sRt_8 ht hS)) ?_
    refine x_iload (dA D_X9_expect 57 rfl) rfl ?_
    obtain ⟨h18, h⟩ := h
    obtain ⟨h19, h⟩ := h
    refine x_lald (dA D_X9_expect 58 rfl) (sAt_6 ht hS h18 h19) ?_
    refine x_lconst (a := 0) (dA D_X9_expect 59 rfl) (by decide) ?_
    obtain ⟨h20, h⟩ := h
    refine x_lcmp_eqP (tgt := 152) (dA D_X9_expect 60 rfl) (dA D_X9_expect 61 rfl) (by decide) h20 ⟨by decide, by decide⟩ ⟨fun c => ?_, fun c => ?_⟩
    · have h := h.1 c
      refine x_iinc (xs' := [vA t, vI x1, vI x2, vI x3, vI x4, vI x5, vI x6, vI x7, vI x8, vI x9, vI (x10 + 1)]) (dA D_X9_expect 79 rfl) rfl (by decide) rfl ?_
      refine x_goto (tgt := 100) (dA D_X9_expect 80 rfl) (by decide) ?_
      exact h
    · have h := h.2 c
      refine x_aload_n (dA D_X9_expect 62 rfl) rfl ?_
      refine x_get (v := vA (t + 4)) (dA D_X9_expect 63 rfl) fw_RX9_26 (sOt_0 ht hS) (congrArg (rfV G) (sRt_6 ht hS)) ?_
      refine x_aload_n (dA D_X9_expect 64 rfl) rfl ?_
      refine x_get (v := vA (t + 1)) (dA D_X9_expect 65 rfl) fw_RX9_11 (sOt_0 ht hS) (congrArg (rfV G) (sRt_3 ht hS)) ?_
      refine x_iload (dA D_X9_expect 66 rfl) rfl ?_
      refine x_iload (dA D_X9_expect 67 rfl) rfl ?_
      refine x_iload (dA D_X9_expect 68 rfl) rfl ?_
      refine x_callS [vI x9, vI x10] [vI x8, vA (t + 1), vA (t + 4)] (dA D_X9_expect 69 rfl) cw_RX9_64 rfl rfl (Nat.le_of_ble_eq_true rfl) hd1 (zk k) (zk n) (S_X8_crowdOf  (by omega) ?_) (kI (fun _ _ h => h))
      show X G Y_X9_expect d k n 136 [vA t, vI x1, vI x2, vI x3, vI x4, vI x5, vI x6, vI x7, vI x8, vI x9, vI x10] [vI ((x9 * 6) + x10), vI x8, vA (t + 1), vA (t + 4)] M Q
      refine x_iload (dA D_X9_expect 70 rfl) rfl ?_
      refine x_imul (dA D_X9_expect 71 rfl) ?_
      refine x_iadd (dA D_X9_expect 72 rfl) ?_
      refine x_iload (dA D_X9_expect 73 rfl) rfl ?_
      refine x_aload_n (dA D_X9_expect 74 rfl) rfl ?_
      refine x_get (v := vA (t + 6)) (dA D_X9_expect 75 rfl) fw_RX9_32 (sOt_0 ht hS) (congrArg (rfV G) (sRt_8 ht hS)) ?_
      refine x_iload (dA D_X9_expect 76 rfl) rfl ?_
      refine x_lald (dA D_X9_expect 77 rfl) (sAt_6 ht hS h18 h19) ?_
      obtain ⟨h21, h⟩ := h
      obtain ⟨h22, h⟩ := h
      obtain ⟨h23, h⟩ := h
      obtain ⟨h24, h⟩ := h
      refine x_callS [vA (t + 4), vA (t + 1), vI (x8 + (((x9 * 6) + x10) * x6)), vI x6, vL (rd M (t + 6) x10)] [] (dA D_X9_expect 78 rfl) cw_RX9_163 rfl rfl (Nat.le_of_ble_eq_true rfl) hd1 (zk k) (zk n) (T_X2_addTimes hS h21 h22 h23 h24 (by omega) (fun M25 p27 hM25 => ?_)) (kU (fun _ h => h))
      have h := h M25 p27 hM25
      show X G Y_X9_expect d k n 152 [vA t, vI x1, vI x2, vI x3, vI x4, vI x5, vI x6, vI x7, vI x8, vI x9, vI x10] [] M25 Q
      refine x_iinc (xs' := [vA t, vI x1, vI x2, vI x3, vI x4, vI x5, vI x6, vI x7, vI x8, vI x9, vI (x10 + 1)]) (dA D_X9_expect 79 rfl) rfl (by decide) rfl ?_
      refine x_goto (tgt := 100) (dA D_X9_expect 80 rfl) (by decide) ?_
      exact h
set_option maxRecDepth 100000 in
theorem B_X9_visit_0 {G : GG} {d : Nat} {k n : Nat} {t x1 x2 x3 x4 x5 : Int} {M : MM} {Q : PV → MM → Prop} (hd : 2 ≤ d) (ht : t = 32 ∨ t = 44) (hS : Sh M) (h : 0 ≤ x1 ∧ x1 < 32 ∧ ∀ v3, v3 = pop x1 → ∀ v4, v4 = iAnd (if (0 : Int) ≠ 0 then (iShr x5 8) else x5) 127 → ∀ v5, v5 = iAnd (if (1 : Int) ≠ 0 then (iShr x5 8) else x5) 127 → inR v4 ∧ ∀ v11, v11 = (if v4 ≠ 100 then 0 else x3) → X G Y_X9_visit d k n 36 [vA t, vI x1, vI x2, vI x3, vI x4, vI x5, vI v3, vI v4, vI v5, vI v11, vU] [] M Q) : X G Y_X9_visit d k n 0 [vA t, vI x1, vI x2, vI x3, vI x4, vI x5, vU, vU, vU, vU, vU] [] M Q := by
  have hd1 : 1 ≤ d := by omega
  refine x_iload_n (dA D_X9_visit 0 rfl) rfl ?_
  obtain ⟨h1, h⟩ := h
  obtain ⟨h2, h⟩ := h
  refine x_callS [vI x1] [] (dA D_X9_visit 1 rfl) cw_RX9_80 rfl rfl (Nat.le_of_ble_eq_true rfl) hd1 (zk k) (zk n) (S_bitCount h1 h2 (by omega) ?_) (kI (fun _ _ h => h))
  show X G Y_X9_visit d k n 4 [vA t, vI x1, vI x2, vI x3, vI x4, vI x5, vU, vU, vU, vU, vU] [vI (pop x1)] M Q
  refine x_nmI (fun v3 ev3 => ?_)
  have h := h v3 ev3
  refine x_istore (xs' := [vA t, vI x1, vI x2, vI x3, vI x4, vI x5, vI v3, vU, vU, vU, vU]) (dA D_X9_visit 2 rfl) (by decide) rfl ?_
  refine x_iload (dA D_X9_visit 3 rfl) rfl ?_
  refine x_iconst (dA D_X9_visit 4 rfl) ?_
  refine x_callS [vI x5, vI 0] [] (dA D_X9_visit 5 rfl) cw_RX9_137 rfl rfl (Nat.le_of_ble_eq_true rfl) hd1 (zk k) (zk n) (S_X8_chanceOf ⟨by decide, by decide⟩ (by omega) ?_) (kI (fun _ _ h => h))
  show X G Y_X9_visit d k n 12 [vA t, vI x1, vI x2, vI x3, vI x4, vI x5, vI v3, vU, vU, vU, vU] [vI (iAnd (if (0 : Int) ≠ 0 then (iShr x5 8) else x5) 127)] M Q
  refine x_nmI (fun v4 ev4 => ?_)
  have h := h v4 ev4
  refine x_istore (xs' := [vA t, vI x1, vI x2, vI x3, vI x4, vI x5, vI v3, vI v4, vU, vU, vU]) (dA D_X9_visit 6 rfl) (by decide) rfl ?_
  refine x_iload (dA D_X9_visit 7 rfl) rfl ?_
  refine x_iconst (dA D_X9_visit 8 rfl) ?_
  refine x_callS [vI x5, vI 1] [] (dA D_X9_visit 9 rfl) cw_RX9_137 rfl rfl (Nat.le_of_ble_eq_true rfl) hd1 (zk k) (zk n) (S_X8_chanceOf ⟨by decide, by decide⟩ (by omega) ?_) (kI (fun _ _ h => h))
  show X G Y_X9_visit d k n 20 [vA t, vI x1, vI x2, vI x3, vI x4, vI x5, vI v3, vI v4, vU, vU, vU] [vI (iAnd (if (1 : Int) ≠ 0 then (iShr x5 8) else x5) 127)] M Q
  refine x_nmI (fun v5 ev5 => ?_)
  have h := h v5 ev5
  refine x_istore (xs' := [vA t, vI x1, vI x2, vI x3, vI x4, vI x5, vI v3, vI v4, vI v5, vU, vU]) (dA D_X9_visit 10 rfl) (by decide) rfl ?_
  refine x_iload (dA D_X9_visit 11 rfl) rfl ?_
  refine x_bipush (dA D_X9_visit 12 rfl) (by decide) (by decide) ?_
  obtain ⟨h7, h⟩ := h
  have hJ : X G Y_X9_visit d k n 34 [vA t, vI x1, vI x2, vI x3, vI x4, vI x5, vI v3, vI v4, vI v5, vU, vU] [vI (if v4 ≠ 100 then 0 else x3)] M Q := by
    refine x_nmI (fun v11 ev11 => ?_)
    have h := h v11 ev11
    refine x_istore (xs' := [vA t, vI x1, vI x2, vI x3, vI x4, vI x5, vI v3, vI v4, vI v5, vI v11, vU]) (dA D_X9_visit 17 rfl) (by decide) rfl ?_
    exact h
  refine x_icmp_neP (tgt := 33) (dA D_X9_visit 13 rfl) (by decide) h7 ⟨by decide, by decide⟩ ⟨fun c6 => ?_, fun c6 => ?_⟩
  · refine x_iconst (dA D_X9_visit 16 rfl) ?_
    rw [if_pos c6] at hJ
    exact hJ
  · refine x_iload_n (dA D_X9_visit 14 rfl) rfl ?_
    refine x_goto (tgt := 34) (dA D_X9_visit 15 rfl) (by decide) ?_
    rw [if_neg (by first | omega | grind)] at hJ
    exact hJ
theorem C_X9_visit {G : GG} {d : Nat} {t x1 x2 x3 x4 x5 : Int} {M : MM} {Q : PV → MM → Prop} (h : X G Y_X9_visit d 0 0 0 [vA t, vI x1, vI x2, vI x3, vI x4, vI x5, vU, vU, vU, vU, vU] [] M Q) : C G Y_X9_visit d 0 0 [vA t, vI x1, vI x2, vI x3, vI x4, vI x5] M Q := X.entry (by decide) (Nat.le_of_ble_eq_true rfl) rfl rfl rfl h
set_option maxRecDepth 100000 in
theorem B_X9_visit_36 {G : GG} {d : Nat} {k n : Nat} {t x1 x2 x3 x4 x5 x6 x7 x8 x9 : Int} {M : MM} {Q : PV → MM → Prop} (hd : 1 ≤ d) (ht : t = 32 ∨ t = 44) (hS : Sh M) (h : inR x7 ∧ inR x9 ∧ inR (if x7 ≠ 0 then x3 else 0) ∧ (((if x7 ≠ 0 then x3 else 0) < x9 → Q vU M) ∧ (x9 ≤ (if x7 ≠ 0 then x3 else 0) → inR x8 ∧ ∀ v13, v13 = (if x8 ≠ 100 then 0 else x4) → X G Y_X9_visit d k n 66 [vA t, vI x1, vI x2, vI x3, vI x4, vI x5, vI x6, vI x7, vI x8, vI x9, vI v13] [] M Q))) : X G Y_X9_visit d k n 36 [vA t, vI x1, vI x2, vI x3, vI x4, vI x5, vI x6, vI x7, vI x8, vI x9, vU] [] M Q := by
  have hd1 : 1 ≤ d := by omega
  refine x_iload (dA D_X9_visit 18 rfl) rfl ?_
  refine x_iload (dA D_X9_visit 19 rfl) rfl ?_
  obtain ⟨h2, h⟩ := h
  have hJ : X G Y_X9_visit d k n 48 [vA t, vI x1, vI x2, vI x3, vI x4, vI x5, vI x6, vI x7, vI x8, vI x9, vU] [vI (if x7 ≠ 0 then x3 else 0), vI x9] M Q := by
    obtain ⟨h6, h⟩ := h
    obtain ⟨h7, h⟩ := h
    refine x_icmp_gtP (tgt := 106) (dA D_X9_visit 24 rfl) (by decide) h6 h7 ⟨fun c => ?_, fun c => ?_⟩
    · have h := h.1 c
      exact x_return (dA D_X9_visit 50 rfl) rfl h
    · have h := h.2 c
      refine x_iload (dA D_X9_visit 25 rfl) rfl ?_
      refine x_bipush (dA D_X9_visit 26 rfl) (by decide) (by decide) ?_
      obtain ⟨h9, h⟩ := h
      have hJ : X G Y_X9_visit d k n 64 [vA t, vI x1, vI x2, vI x3, vI x4, vI x5, vI x6, vI x7, vI x8, vI x9, vU] [vI (if x8 ≠ 100 then 0 else x4)] M Q := by
        refine x_nmI (fun v13 ev13 => ?_)
        have h := h v13 ev13
        refine x_istore (xs' := [vA t, vI x1, vI x2, vI x3, vI x4, vI x5, vI x6, vI x7, vI x8, vI x9, vI v13]) (dA D_X9_visit 31 rfl) (by decide) rfl ?_
        exact h
      refine x_icmp_neP (tgt := 63) (dA D_X9_visit 27 rfl) (by decide) h9 ⟨by decide, by decide⟩ ⟨fun c8 => ?_, fun c8 => ?_⟩
      · refine x_iconst (dA D_X9_visit 30 rfl) ?_
        rw [if_pos c8] at hJ
        exact hJ
      · refine x_iload (dA D_X9_visit 28 rfl) rfl ?_
        refine x_goto (tgt := 64) (dA D_X9_visit 29 rfl) (by decide) ?_
        rw [if_neg (by first | omega | grind)] at hJ
        exact hJ
  refine x_if_neP (tgt := 47) (dA D_X9_visit 20 rfl) (by decide) h2 ⟨fun c1 => ?_, fun c1 => ?_⟩
  · refine x_iload_n (dA D_X9_visit 23 rfl) rfl ?_
    rw [if_pos c1] at hJ
    exact hJ
  · refine x_iconst (dA D_X9_visit 21 rfl) ?_
    refine x_goto (tgt := 48) (dA D_X9_visit 22 rfl) (by decide) ?_
    rw [if_neg (by first | omega | grind)] at hJ
    exact hJ
set_option maxRecDepth 100000 in
theorem B_X9_visit_66 {G : GG} {d : Nat} {k n : Nat} {t x1 x2 x3 x4 x5 x6 x7 x8 x9 x10 : Int} {M : MM} {Q : PV → MM → Prop} (hd : 2 ≤ d) (ht : t = 32 ∨ t = 44) (hS : Sh M) (h : inR x8 ∧ inR x10 ∧ inR (if x8 ≠ 0 then x4 else 0) ∧ (((if x8 ≠ 0 then x4 else 0) < x10 → X G Y_X9_visit d k n 36 [vA t, vI x1, vI x2, vI x3, vI x4, vI x5, vI x6, vI x7, vI x8, vI (x9 + 1), vU] [] M Q) ∧ (x10 ≤ (if x8 ≠ 0 then x4 else 0) → C G Y_X9_settle (d - 1) 0 0 [vA t, vI x1, vI x2, vI x9, vI x10, vI x6] M (rU (fun M8 => Sh M8 ∧ X G Y_X9_visit d k n 66 [vA t, vI x1, vI x2, vI x3, vI x4, vI x5, vI x6, vI x7, vI x8, vI x9, vI (x10 + 1)] [] M8 Q))))) : X G Y_X9_visit d k n 66 [vA t, vI x1, vI x2, vI x3, vI x4, vI x5, vI x6, vI x7, vI x8, vI x9, vI x10] [] M Q := by
  have hd1 : 1 ≤ d := by omega
  refine x_iload (dA D_X9_visit 32 rfl) rfl ?_
  refine x_iload (dA D_X9_visit 33 rfl) rfl ?_
  obtain ⟨h2, h⟩ := h
  have hJ : X G Y_X9_visit d k n 79 [vA t, vI x1, vI x2, vI x3, vI x4, vI x5, vI x6, vI x7, vI x8, vI x9, vI x10] [vI (if x8 ≠ 0 then x4 else 0), vI x10] M Q := by
    obtain ⟨h6, h⟩ := h
    obtain ⟨h7, h⟩ := h
    refine x_icmp_gtP (tgt := 100) (dA D_X9_visit 38 rfl) (by decide) h6 h7 ⟨fun c => ?_, fun c => ?_⟩
    · have h := h.1 c
      refine x_iinc (xs' := [vA t, vI x1, vI x2, vI x3, vI x4, vI x5, vI x6, vI x7, vI x8, vI (x9 + 1), vI x10]) (dA D_X9_visit 48 rfl) rfl (by decide) rfl ?_
      refine x_goto (tgt := 36) (dA D_X9_visit 49 rfl) (by decide) ?_
      refine X.weak (xs' := [vA t, vI x1, vI x2, vI x3, vI x4, vI x5, vI x6, vI x7, vI x8, vI (x9 + 1), vU]) ⟨Or.inl rfl, Or.inl rfl, Or.inl rfl, Or.inl rfl, Or.inl rfl, Or.inl rfl, Or.inl rfl, Or.inl rfl, Or.inl rfl, Or.inl rfl, Or.inr rfl, trivial⟩ ?_
      exact h
    · have h := h.2 c
      refine x_aload_n (dA D_X9_visit 39 rfl) rfl ?_
      refine x_iload_n (dA D_X9_visit 40 rfl) rfl ?_
      refine x_iload_n (dA D_X9_visit 41 rfl) rfl ?_
      refine x_iload (dA D_X9_visit 42 rfl) rfl ?_
      refine x_iload (dA D_X9_visit 43 rfl) rfl ?_
      refine x_iload (dA D_X9_visit 44 rfl) rfl ?_
      refine x_callV 8 [vI x1, vI x2, vI x9, vI x10, vI x6] [] (dA D_X9_visit 45 rfl) cw_RX9_140 rfl rfl (Nat.le_of_ble_eq_true rfl) (by decide) rfl hd1 (zk k) (zk n) (sOt_0 ht hS) h (kU (fun M8 h => ?_))
      obtain ⟨hM8, h⟩ := h
      refine x_iinc (xs' := [vA t, vI x1, vI x2, vI x3, vI x4, vI x5, vI x6, vI x7, vI x8, vI x9, vI (x10 + 1)]) (dA D_X9_visit 46 rfl) rfl (by decide) rfl ?_
      refine x_goto (tgt := 66) (dA D_X9_visit 47 rfl) (by decide) ?_
      exact h
  refine x_if_neP (tgt := 77) (dA D_X9_visit 34 rfl) (by decide) h2 ⟨fun c1 => ?_, fun c1 => ?_⟩
  · refine x_iload (dA D_X9_visit 37 rfl) rfl ?_
    rw [if_pos c1] at hJ
    exact hJ
  · refine x_iconst (dA D_X9_visit 35 rfl) ?_
    refine x_goto (tgt := 79) (dA D_X9_visit 36 rfl) (by decide) ?_
    rw [if_neg (by first | omega | grind)] at hJ
    exact hJ
set_option maxRecDepth 100000 in
theorem B_X9_bring_0 {G : GG} {d : Nat} {k n : Nat} {t x1 x2 x3 x4 x5 : Int} {r : Int → Int} {sm : Int → LSm} {M : MM} {Q : PV → MM → Prop} (hd : 7 ≤ d) (ht : t = 32 ∨ t = 44) (hS : Sh M) (h : CIn M r sm ∧ stpOk x1 x2 x3 x4 x5 ∧ ∀ r4 M3, (Fr KTd M M3 ∧ CIn M3 r sm ∧ r4 = tolV r sm x1 x2 x3 x4 x5) → Sh M3 → ∀ v6, v6 = iOr x1 (iShl 1 x3) → 0 ≤ x3 ∧ x3 < 5 ∧ inR (rd M3 4 x3) ∧ (((rd M3 4 x3) = 1 → X G Y_X9_bring d k n 55 [vA t, vI x1, vI x2, vI x3, vI x4, vI x5, vI r4, vI v6, vU] [] M3 Q) ∧ (¬ ((rd M3 4 x3) = 1) → inR (rd M3 t 11) ∧ (((rd M3 t 11) = 6 → C G Y_X9_visit (d - 1) 0 0 [vA t, vI v6, vI x3, vI x4, vI x5, vI r4] M3 (rU (fun M11 => Sh M11 ∧ X G Y_X9_bring d k n 80 [vA t, vI x1, vI x2, vI x3, vI x4, vI x5, vI r4, vI v6, vI 0] [] M11 Q))) ∧ ((rd M3 t 11) ≠ 6 → HR M3 r ∧ RS r ∧ (0 ≤ v6 ∧ v6 < 32) ∧ inR (canB r v6) ∧ (((canB r v6) ≠ 0 → C G Y_X9_visit (d - 1) 0 0 [vA t, vI v6, vI x3, vI x4, vI x5, vI r4] M3 (rU (fun M16 => Sh M16 ∧ X G Y_X9_bring d k n 80 [vA t, vI x1, vI x2, vI x3, vI x4, vI x5, vI r4, vI v6, vI 0] [] M16 Q))) ∧ ((canB r v6) = 0 → X G Y_X9_bring d k n 55 [vA t, vI x1, vI x2, vI x3, vI x4, vI x5, vI r4, vI v6, vU] [] M3 Q))))))) : X G Y_X9_bring d k n 0 [vA t, vI x1, vI x2, vI x3, vI x4, vI x5, vU, vU, vU] [] M Q := by
  have hd1 : 1 ≤ d := by omega
  refine x_aload_n (dA D_X9_bring 0 rfl) rfl ?_
  refine x_get (v := vA 25) (dA D_X9_bring 1 rfl) fw_RX9_49 (sOt_0 ht hS) (congrArg (rfV G) (sRt_1 ht hS)) ?_
  refine x_iload_n (dA D_X9_bring 2 rfl) rfl ?_
  refine x_iload_n (dA D_X9_bring 3 rfl) rfl ?_
  refine x_iload_n (dA D_X9_bring 4 rfl) rfl ?_
  refine x_iload (dA D_X9_bring 5 rfl) rfl ?_
  refine x_iload (dA D_X9_bring 6 rfl) rfl ?_
  obtain ⟨h1, h⟩ := h
  obtain ⟨h2, h⟩ := h
  refine x_callV 7 [vI x1, vI x2, vI x3, vI x4, vI x5] [] (dA D_X9_bring 7 rfl) cw_RX9_121 rfl rfl (Nat.le_of_ble_eq_true rfl) (by decide) rfl hd1 (zk k) (zk n) (sO_25 hS) (T_told hS h1 h2 (by omega) (fun r4 M3 p5 hM3 => ?_)) (kI (fun _ _ h => h))
  have h := h r4 M3 p5 hM3
  show X G Y_X9_bring d k n 14 [vA t, vI x1, vI x2, vI x3, vI x4, vI x5, vU, vU, vU] [vI r4] M3 Q
  refine x_istore (xs' := [vA t, vI x1, vI x2, vI x3, vI x4, vI x5, vI r4, vU, vU]) (dA D_X9_bring 8 rfl) (by decide) rfl ?_
  refine x_iload_n (dA D_X9_bring 9 rfl) rfl ?_
  refine x_iconst (dA D_X9_bring 10 rfl) ?_
  refine x_iload_n (dA D_X9_bring 11 rfl) rfl ?_
  refine x_ishl (dA D_X9_bring 12 rfl) ?_
  refine x_ior (dA D_X9_bring 13 rfl) ?_
  refine x_nmI (fun v6 ev6 => ?_)
  have h := h v6 ev6
  refine x_istore (xs' := [vA t, vI x1, vI x2, vI x3, vI x4, vI x5, vI r4, vI v6, vU]) (dA D_X9_bring 14 rfl) (by decide) rfl ?_
  refine x_aload_n (dA D_X9_bring 15 rfl) rfl ?_
  refine x_get (v := vA 1) (dA D_X9_bring 16 rfl) fw_RX9_45 (sOt_0 ht hM3) (congrArg (rfV G) (sRt_0 ht hM3)) ?_
  refine x_iload_n (dA D_X9_bring 17 rfl) rfl ?_
  obtain ⟨h7, h⟩ := h
  obtain ⟨h8, h⟩ := h
  obtain ⟨h9, h⟩ := h
  refine x_callV 3 [vI x3] [] (dA D_X9_bring 18 rfl) cw_RX9_124 rfl rfl (Nat.le_of_ble_eq_true rfl) (by decide) rfl hd1 (zk k) (zk n) (sO_1 hM3) (S_X4_isEnd hM3 h7 h8 h9 (by omega) ?_) (kI (fun _ _ h => h))
  show X G Y_X9_bring d k n 31 [vA t, vI x1, vI x2, vI x3, vI x4, vI x5, vI r4, vI v6, vU] [vI (if (rd M3 4 x3) = 1 then 1 else 0)] M3 Q
  refine x_if_neB (tgt := 55) (dA D_X9_bring 19 rfl) (by decide) ⟨fun c => ?_, fun c => ?_⟩
  · have h := h.1 c
    exact h
  · have h := h.2 c
    refine x_aload_n (dA D_X9_bring 20 rfl) rfl ?_
    refine x_get (v := vI (rd M3 t 11)) (dA D_X9_bring 21 rfl) fw_RX9_42 (sOt_0 ht hM3) rfl ?_
    refine x_bipush (dA D_X9_bring 22 rfl) (by decide) (by decide) ?_
    obtain ⟨h10, h⟩ := h
    refine x_icmp_eqP (tgt := 59) (dA D_X9_bring 23 rfl) (by decide) h10 ⟨by decide, by decide⟩ ⟨fun c => ?_, fun c => ?_⟩
    · have h := h.1 c
      refine x_iconst (dA D_X9_bring 31 rfl) ?_
      refine x_istore (xs' := [vA t, vI x1, vI x2, vI x3, vI x4, vI x5, vI r4, vI v6, vI 0]) (dA D_X9_bring 32 rfl) (by decide) rfl ?_
      refine x_iload (dA D_X9_bring 33 rfl) rfl ?_
      refine x_if_neP (tgt := 80) (dA D_X9_bring 34 rfl) (by decide) ⟨by decide, by decide⟩ ⟨fun c => ?_, fun c => ?_⟩
      · exact absurd c (by decide)
      · skip
        refine x_aload_n (dA D_X9_bring 35 rfl) rfl ?_
        refine x_iload (dA D_X9_bring 36 rfl) rfl ?_
        refine x_iload_n (dA D_X9_bring 37 rfl) rfl ?_
        refine x_iload (dA D_X9_bring 38 rfl) rfl ?_
        refine x_iload (dA D_X9_bring 39 rfl) rfl ?_
        refine x_iload (dA D_X9_bring 40 rfl) rfl ?_
        refine x_callV 8 [vI v6, vI x3, vI x4, vI x5, vI r4] [] (dA D_X9_bring 41 rfl) cw_RX9_128 rfl rfl (Nat.le_of_ble_eq_true rfl) (by decide) rfl hd1 (zk k) (zk n) (sOt_0 ht hM3) h (kU (fun M11 h => ?_))
        obtain ⟨hM11, h⟩ := h
        exact h
    · have h := h.2 c
      refine x_aload_n (dA D_X9_bring 24 rfl) rfl ?_
      refine x_get (v := vA 1) (dA D_X9_bring 25 rfl) fw_RX9_45 (sOt_0 ht hM3) (congrArg (rfV G) (sRt_0 ht hM3)) ?_
      refine x_iload (dA D_X9_bring 26 rfl) rfl ?_
      obtain ⟨h12, h⟩ := h
      obtain ⟨h13, h⟩ := h
      obtain ⟨h14, h⟩ := h
      refine x_callV 3 [vI v6] [] (dA D_X9_bring 27 rfl) cw_RX9_105 rfl rfl (Nat.le_of_ble_eq_true rfl) (by decide) rfl hd1 (zk k) (zk n) (sO_1 hM3) (S_X4_open hM3 h12 h13 h14 (by omega) ?_) (kI (fun _ _ h => h))
      show X G Y_X9_bring d k n 52 [vA t, vI x1, vI x2, vI x3, vI x4, vI x5, vI r4, vI v6, vU] [vI (canB r v6)] M3 Q
      obtain ⟨h15, h⟩ := h
      refine x_if_neP (tgt := 59) (dA D_X9_bring 28 rfl) (by decide) h15 ⟨fun c => ?_, fun c => ?_⟩
      · have h := h.1 c
        refine x_iconst (dA D_X9_bring 31 rfl) ?_
        refine x_istore (xs' := [vA t, vI x1, vI x2, vI x3, vI x4, vI x5, vI r4, vI v6, vI 0]) (dA D_X9_bring 32 rfl) (by decide) rfl ?_
        refine x_iload (dA D_X9_bring 33 rfl) rfl ?_
        refine x_if_neP (tgt := 80) (dA D_X9_bring 34 rfl) (by decide) ⟨by decide, by decide⟩ ⟨fun c => ?_, fun c => ?_⟩
        · exact absurd c (by decide)
        · skip
          refine x_aload_n (dA D_X9_bring 35 rfl) rfl ?_
          refine x_iload (dA D_X9_bring 36 rfl) rfl ?_
          refine x_iload_n (dA D_X9_bring 37 rfl) rfl ?_
          refine x_iload (dA D_X9_bring 38 rfl) rfl ?_
          refine x_iload (dA D_X9_bring 39 rfl) rfl ?_
          refine x_iload (dA D_X9_bring 40 rfl) rfl ?_
          refine x_callV 8 [vI v6, vI x3, vI x4, vI x5, vI r4] [] (dA D_X9_bring 41 rfl) cw_RX9_128 rfl rfl (Nat.le_of_ble_eq_true rfl) (by decide) rfl hd1 (zk k) (zk n) (sOt_0 ht hM3) h (kU (fun M16 h => ?_))
          obtain ⟨hM16, h⟩ := h
          exact h
      · have h := h.2 c
        exact h
theorem C_X9_bring {G : GG} {d : Nat} {t x1 x2 x3 x4 x5 : Int} {M : MM} {Q : PV → MM → Prop} (h : X G Y_X9_bring d 0 0 0 [vA t, vI x1, vI x2, vI x3, vI x4, vI x5, vU, vU, vU] [] M Q) : C G Y_X9_bring d 0 0 [vA t, vI x1, vI x2, vI x3, vI x4, vI x5] M Q := X.entry (by decide) (Nat.le_of_ble_eq_true rfl) rfl rfl rfl h
set_option maxRecDepth 100000 in
theorem B_X9_bring_55 {G : GG} {d : Nat} {k n : Nat} {t x1 x2 x3 x4 x5 x6 x7 : Int} {M : MM} {Q : PV → MM → Prop} (hd : 1 ≤ d) (ht : t = 32 ∨ t = 44) (hS : Sh M) (h : X G Y_X9_bring d k n 80 [vA t, vI x1, vI x2, vI x3, vI x4, vI x5, vI x6, vI x7, vI 1] [] M Q) : X G Y_X9_bring d k n 55 [vA t, vI x1, vI x2, vI x3, vI x4, vI x5, vI x6, vI x7, vU] [] M Q := by
  have hd1 : 1 ≤ d := by omega
  refine x_iconst (dA D_X9_bring 29 rfl) ?_
  refine x_goto (tgt := 60) (dA D_X9_bring 30 rfl) (by decide) ?_
  refine x_istore (xs' := [vA t, vI x1, vI x2, vI x3, vI x4, vI x5, vI x6, vI x7, vI 1]) (dA D_X9_bring 32 rfl) (by decide) rfl ?_
  refine x_iload (dA D_X9_bring 33 rfl) rfl ?_
  refine x_if_neP (tgt := 80) (dA D_X9_bring 34 rfl) (by decide) ⟨by decide, by decide⟩ ⟨fun c => ?_, fun c => ?_⟩
  · skip
    exact h
  · exact absurd c (by decide)
set_option maxRecDepth 100000 in
theorem B_X9_bring_80 {G : GG} {d : Nat} {k n : Nat} {t x1 x2 x3 x4 x5 x6 x7 x8 : Int} {M : MM} {Q : PV → MM → Prop} (hd : 2 ≤ d) (ht : t = 32 ∨ t = 44) (hS : Sh M) (h : 0 ≤ x1 ∧ x1 < 32 ∧ C G Y_X9_gain (d - 1) 0 0 [vA t, vI x3, vI x4, vI x5, vI x6] M (rI (fun r4 M3 => Sh M3 ∧ inR r4 ∧ C G Y_X9_startSum (d - 1) 0 0 [vA t, vI (pop x1), vL r4] M3 (rU (fun M6 => Sh M6 ∧ inR x8 ∧ ((x8 ≠ 0 → Q vU M6) ∧ (x8 = 0 → C G Y_X9_expect (d - 1) 0 0 [vA t, vI x7, vI x3, vI x4, vI x5, vI x6] M6 (rU (fun M8 => Sh M8 ∧ Q vU M8))))))))) : X G Y_X9_bring d k n 80 [vA t, vI x1, vI x2, vI x3, vI x4, vI x5, vI x6, vI x7, vI x8] [] M Q := by
  have hd1 : 1 ≤ d := by omega
  refine x_aload_n (dA D_X9_bring 42 rfl) rfl ?_
  refine x_iload_n (dA D_X9_bring 43 rfl) rfl ?_
  obtain ⟨h1, h⟩ := h
  obtain ⟨h2, h⟩ := h
  refine x_callS [vI x1] [vA t] (dA D_X9_bring 44 rfl) cw_RX9_80 rfl rfl (Nat.le_of_ble_eq_true rfl) hd1 (zk k) (zk n) (S_bitCount h1 h2 (by omega) ?_) (kI (fun _ _ h => h))
  show X G Y_X9_bring d k n 85 [vA t, vI x1, vI x2, vI x3, vI x4, vI x5, vI x6, vI x7, vI x8] [vI (pop x1), vA t] M Q
  refine x_aload_n (dA D_X9_bring 45 rfl) rfl ?_
  refine x_iload_n (dA D_X9_bring 46 rfl) rfl ?_
  refine x_iload (dA D_X9_bring 47 rfl) rfl ?_
  refine x_iload (dA D_X9_bring 48 rfl) rfl ?_
  refine x_iload (dA D_X9_bring 49 rfl) rfl ?_
  refine x_callV 8 [vI x3, vI x4, vI x5, vI x6] [vI (pop x1), vA t] (dA D_X9_bring 50 rfl) cw_RX9_131 rfl rfl (Nat.le_of_ble_eq_true rfl) (by decide) rfl hd1 (zk k) (zk n) (sOt_0 ht hS) h (kI (fun r4 M3 h => ?_))
  obtain ⟨hM3, h⟩ := h
  obtain ⟨h5, h⟩ := h
  refine x_i2l (dA D_X9_bring 51 rfl) h5 ?_
  refine x_callV 8 [vI (pop x1), vL r4] [] (dA D_X9_bring 52 rfl) cw_RX9_95 rfl rfl (Nat.le_of_ble_eq_true rfl) (by decide) rfl hd1 (zk k) (zk n) (sOt_0 ht hM3) h (kU (fun M6 h => ?_))
  obtain ⟨hM6, h⟩ := h
  refine x_iload (dA D_X9_bring 53 rfl) rfl ?_
  obtain ⟨h7, h⟩ := h
  refine x_if_neP (tgt := 118) (dA D_X9_bring 54 rfl) (by decide) h7 ⟨fun c => ?_, fun c => ?_⟩
  · have h := h.1 c
    exact x_return (dA D_X9_bring 62 rfl) rfl h
  · have h := h.2 c
    refine x_aload_n (dA D_X9_bring 55 rfl) rfl ?_
    refine x_iload (dA D_X9_bring 56 rfl) rfl ?_
    refine x_iload_n (dA D_X9_bring 57 rfl) rfl ?_
    refine x_iload (dA D_X9_bring 58 rfl) rfl ?_
    refine x_iload (dA D_X9_bring 59 rfl) rfl ?_
    refine x_iload (dA D_X9_bring 60 rfl) rfl ?_
    refine x_callV 8 [vI x7, vI x3, vI x4, vI x5, vI x6] [] (dA D_X9_bring 61 rfl) cw_RX9_134 rfl rfl (Nat.le_of_ble_eq_true rfl) (by decide) rfl hd1 (zk k) (zk n) (sOt_0 ht hM6) h (kU (fun M8 h => ?_))
    obtain ⟨hM8, h⟩ := h
    exact x_return (dA D_X9_bring 62 rfl) rfl h
set_option maxRecDepth 100000 in
theorem B_X9_copyRoot_0 {G : GG} {d : Nat} {k n : Nat} {t x1 x2 x3 : Int} {M : MM} {Q : PV → MM → Prop} (hd : 2 ≤ d) (ht : t = 32 ∨ t = 44) (hS : Sh M) (h : C G Y_X9_limbAt (d - 1) 0 0 [vA t, vI 0, vI (-1), vI x1, vI x2] M (rI (fun r2 M1 => Sh M1 ∧ okO M1 (t + 1) 21 ∧ okO M1 x3 21 ∧ 0 ≤ r2 ∧ r2 + 14 ≤ (mT M1 (t + 1)).2 ∧ 0 + 14 ≤ (mT M1 x3).2 ∧ ∀ M3, M3 = cpM M1 (t + 1) r2 x3 0 14 → Q vU M3))) : X G Y_X9_copyRoot d k n 0 [vA t, vI x1, vI x2, vA x3] [] M Q := by
  have hd1 : 1 ≤ d := by omega
  refine x_aload_n (dA D_X9_copyRoot 0 rfl) rfl ?_
  refine x_get (v := vA (t + 1)) (dA D_X9_copyRoot 1 rfl) fw_RX9_11 (sOt_0 ht hS) (congrArg (rfV G) (sRt_3 ht hS)) ?_
  refine x_aload_n (dA D_X9_copyRoot 2 rfl) rfl ?_
  refine x_iconst (dA D_X9_copyRoot 3 rfl) ?_
  refine x_iconst (dA D_X9_copyRoot 4 rfl) ?_
  refine x_iload_n (dA D_X9_copyRoot 5 rfl) rfl ?_
  refine x_iload_n (dA D_X9_copyRoot 6 rfl) rfl ?_
  refine x_callV 8 [vI 0, vI (-1), vI x1, vI x2] [vA (t + 1)] (dA D_X9_copyRoot 7 rfl) cw_RX9_67 rfl rfl (Nat.le_of_ble_eq_true rfl) (by decide) rfl hd1 (zk k) (zk n) (sOt_0 ht hS) h (kI (fun r2 M1 h => ?_))
  obtain ⟨hM1, h⟩ := h
  refine x_aload_n (dA D_X9_copyRoot 8 rfl) rfl ?_
  refine x_iconst (dA D_X9_copyRoot 9 rfl) ?_
  refine x_bipush (dA D_X9_copyRoot 10 rfl) (by decide) (by decide) ?_
  obtain ⟨h4, h⟩ := h
  obtain ⟨h5, h⟩ := h
  obtain ⟨h6, h⟩ := h
  obtain ⟨h7, h⟩ := h
  obtain ⟨h8, h⟩ := h
  refine x_copy 21 [] (by decide) (dA D_X9_copyRoot 11 rfl) ⟨ml_RX9_71, w_an, w_as, w_ai⟩ (by decide) hd1 h4 h5 h6 (by decide) (by decide) h7 h8 (fun e => absurd e (by decide)) ?_
  refine x_nmM (fun M3 eM3 => ?_)
  have h := h M3 eM3
  exact x_return (dA D_X9_copyRoot 12 rfl) rfl h
theorem C_X9_copyRoot {G : GG} {d : Nat} {t x1 x2 x3 : Int} {M : MM} {Q : PV → MM → Prop} (h : X G Y_X9_copyRoot d 0 0 0 [vA t, vI x1, vI x2, vA x3] [] M Q) : C G Y_X9_copyRoot d 0 0 [vA t, vI x1, vI x2, vA x3] M Q := X.entry (by decide) (Nat.le_of_ble_eq_true rfl) rfl rfl rfl h
set_option maxRecDepth 100000 in
theorem B_X9_settle_0 {G : GG} {d : Nat} {k n : Nat} {t x1 x2 x3 x4 x5 : Int} {M : MM} {Q : PV → MM → Prop} (hd : 3 ≤ d) (ht : t = 32 ∨ t = 44) (hS : Sh M) (h : 0 ≤ (((x1 * 5) + x2) + 1) ∧ (((x1 * 5) + x2) + 1) < 161 ∧ ∀ v3, v3 = (rd M 28 (((x1 * 5) + x2) + 1)) + ((x3 * 6) + x4) → 0 ≤ v3 ∧ v3 < 2916 ∧ inR (rd M t 9) ∧ inR x5 ∧ (((((iShr (rd M (t + 2) v3) 3) = (rd M t 9)) ∨ (5 < x5)) → Q vU M) ∧ (¬ (((iShr (rd M (t + 2) v3) 3) = (rd M t 9)) ∨ (5 < x5)) → C G Y_X9_limbAt (d - 1) 0 0 [vA t, vI x1, vI x2, vI x3, vI x4] M (rI (fun r19 M18 => Sh M18 ∧ 0 ≤ x5 ∧ x5 < 6 ∧ ∀ v22, v22 = limF (Int.toNat x5) → fill1 M18 (t + 1) 21 ∧ ((0 ≤ r19 ∧ r19 ≤ (r19 + v22) ∧ (r19 + v22) ≤ (mT M18 (t + 1)).2)) ∧ ∀ M25, (Ch M18 M25 (t + 1) r19 ((r19 + v22) - r19).toNat ∧ ∀ i : Int, r19 ≤ i → i < (r19 + v22) → rd M25 (t + 1) i = (0 : Int)) → Sh M25 → inR (x3 + x4) ∧ (((x3 + x4) ≠ 0 → (((tG t) = -1 → X G Y_X9_settle d k n 144 [vA t, vI x1, vI x2, vI x3, vI x4, vI x5, vI v3, vI r19, vI v22, vI (-1), vU, vU, vU, vU] [] M25 Q) ∧ (¬ (tG t) = -1 → inR (rd M25 t 10) ∧ (((rd M25 t 10) ≠ 4 → okO M25 (tG t) 2 ∧ C G Y_X3_choose (d - 1) 0 0 [vA (tG t), vI (rd M25 t 10), vI x1, vI x2, vI x3, vI x4] M25 (rI (fun r32 M31 => Sh M31 ∧ inR r32 ∧ ∀ v40, v40 = (if r32 ≠ (-1) then (iShl 1 r32) else 0) → X G Y_X9_settle d k n 213 [vA t, vI x1, vI x2, vI x3, vI x4, vI x5, vI v3, vI r19, vI v22, vI (-1), vI 0, vI r32, vI v40, vI 0] [] M31 Q))) ∧ ((rd M25 t 10) = 4 → X G Y_X9_settle d k n 144 [vA t, vI x1, vI x2, vI x3, vI x4, vI x5, vI v3, vI r19, vI v22, vI (-1), vU, vU, vU, vU] [] M25 Q))))) ∧ ((x3 + x4) = 0 → inR (rd M25 t 11) ∧ (((((rd M25 t 11) ≠ 6) ∨ (x5 ≤ 0)) → X G Y_X9_settle d k n 299 [vA t, vI x1, vI x2, vI x3, vI x4, vI x5, vI v3, vI r19, vI v22, vI (-1), vU, vU, vU, vU] [] M25 Q) ∧ (¬ (((rd M25 t 11) ≠ 6) ∨ (x5 ≤ 0)) → C G Y_X9_startSum (d - 1) 0 0 [vA t, vI x5, vL 1] M25 (rU (fun M49 => Sh M49 ∧ okO M49 (t + 3) 21 ∧ okO M49 (t + 1) 21 ∧ 0 ≤ r19 ∧ 0 ≤ v22 ∧ 0 + v22 ≤ (mT M49 (t + 3)).2 ∧ r19 + v22 ≤ (mT M49 (t + 1)).2 ∧ ∀ M50, M50 = cpM M49 (t + 3) 0 (t + 1) r19 v22 → X G Y_X9_settle d k n 299 [vA t, vI x1, vI x2, vI x3, vI x4, vI x5, vI v3, vI r19, vI v22, vI (-1), vU, vU, vU, vU] [] M50 Q))))))))))) : X G Y_X9_settle d k n 0 [vA t, vI x1, vI x2, vI x3, vI x4, vI x5, vU, vU, vU, vU, vU, vU, vU, vU] [] M Q := by
  have hd1 : 1 ≤ d := by omega
  refine x_aload_n (dA D_X9_settle 0 rfl) rfl ?_
  refine x_get (v := vA 25) (dA D_X9_settle 1 rfl) fw_RX9_49 (sOt_0 ht hS) (congrArg (rfV G) (sRt_1 ht hS)) ?_
  refine x_get (v := vA 28) (dA D_X9_settle 2 rfl) fw_RX9_57 (sO_25 hS) (congrArg (rfV G) (sR_25_4 hS)) ?_
  refine x_iload_n (dA D_X9_settle 3 rfl) rfl ?_
  refine x_iload_n (dA D_X9_settle 4 rfl) rfl ?_
  refine x_callS [vI x1, vI x2] [vA 28] (dA D_X9_settle 5 rfl) cw_RX9_60 rfl rfl (Nat.le_of_ble_eq_true rfl) hd1 (zk k) (zk n) (S_X8_nodeOf  (by omega) ?_) (kI (fun _ _ h => h))
  show X G Y_X9_settle d k n 12 [vA t, vI x1, vI x2, vI x3, vI x4, vI x5, vU, vU, vU, vU, vU, vU, vU, vU] [vI (((x1 * 5) + x2) + 1), vA 28] M Q
  obtain ⟨h1, h⟩ := h
  obtain ⟨h2, h⟩ := h
  refine x_iald (dA D_X9_settle 6 rfl) (sA_28 hS h1 h2) ?_
  refine x_iload_n (dA D_X9_settle 7 rfl) rfl ?_
  refine x_iload (dA D_X9_settle 8 rfl) rfl ?_
  refine x_callS [vI x3, vI x4] [vI (rd M 28 (((x1 * 5) + x2) + 1))] (dA D_X9_settle 9 rfl) cw_RX9_64 rfl rfl (Nat.le_of_ble_eq_true rfl) hd1 (zk k) (zk n) (S_X8_crowdOf  (by omega) ?_) (kI (fun _ _ h => h))
  show X G Y_X9_settle d k n 19 [vA t, vI x1, vI x2, vI x3, vI x4, vI x5, vU, vU, vU, vU, vU, vU, vU, vU] [vI ((x3 * 6) + x4), vI (rd M 28 (((x1 * 5) + x2) + 1))] M Q
  refine x_iadd (dA D_X9_settle 10 rfl) ?_
  refine x_nmI (fun v3 ev3 => ?_)
  have h := h v3 ev3
  refine x_istore (xs' := [vA t, vI x1, vI x2, vI x3, vI x4, vI x5, vI v3, vU, vU, vU, vU, vU, vU, vU]) (dA D_X9_settle 11 rfl) (by decide) rfl ?_
  refine x_aload_n (dA D_X9_settle 12 rfl) rfl ?_
  refine x_get (v := vA (t + 2)) (dA D_X9_settle 13 rfl) fw_RX9_17 (sOt_0 ht hS) (congrArg (rfV G) (sRt_4 ht hS)) ?_
  refine x_iload (dA D_X9_settle 14 rfl) rfl ?_
  obtain ⟨h4, h⟩ := h
  obtain ⟨h5, h⟩ := h
  refine x_iald (dA D_X9_settle 15 rfl) (sAt_2 ht hS h4 h5) ?_
  refine x_iconst (dA D_X9_settle 16 rfl) ?_
  refine x_ishr (dA D_X9_settle 17 rfl) ?_
  refine x_aload_n (dA D_X9_settle 18 rfl) rfl ?_
  refine x_get (v := vI (rd M t 9)) (dA D_X9_settle 19 rfl) fw_RX9_35 (sOt_0 ht hS) rfl ?_
  obtain ⟨h7, h⟩ := h
  obtain ⟨h11, h⟩ := h
  have hA : (((iShr (rd M (t + 2) v3) 3) = (rd M t 9)) ∨ (5 < x5)) → X G Y_X9_settle d k n 44 [vA t, vI x1, vI x2, vI x3, vI x4, vI x5, vI v3, vU, vU, vU, vU, vU, vU, vU] [] M Q := by
    intro c58
    have h := h.1 c58
    exact x_return (dA D_X9_settle 24 rfl) rfl h
  have hB : ¬ (((iShr (rd M (t + 2) v3) 3) = (rd M t 9)) ∨ (5 < x5)) → X G Y_X9_settle d k n 45 [vA t, vI x1, vI x2, vI x3, vI x4, vI x5, vI v3, vU, vU, vU, vU, vU, vU, vU] [] M Q := by
    intro c58
    have h := h.2 c58
    refine x_aload_n (dA D_X9_settle 25 rfl) rfl ?_
    refine x_iload_n (dA D_X9_settle 26 rfl) rfl ?_
    refine x_iload_n (dA D_X9_settle 27 rfl) rfl ?_
    refine x_iload_n (dA D_X9_settle 28 rfl) rfl ?_
    refine x_iload (dA D_X9_settle 29 rfl) rfl ?_
    refine x_callV 8 [vI x1, vI x2, vI x3, vI x4] [] (dA D_X9_settle 30 rfl) cw_RX9_67 rfl rfl (Nat.le_of_ble_eq_true rfl) (by decide) rfl hd1 (zk k) (zk n) (sOt_0 ht hS) h (kI (fun r19 M18 h => ?_))
    obtain ⟨hM18, h⟩ := h
    refine x_istore (xs' := [vA t, vI x1, vI x2, vI x3, vI x4, vI x5, vI v3, vI r19, vU, vU, vU, vU, vU, vU]) (dA D_X9_settle 31 rfl) (by decide) rfl ?_
    refine x_getsL (dA D_X9_settle 32 rfl) sf_RX9_77 ?_
    refine x_iload (dA D_X9_settle 33 rfl) rfl ?_
    obtain ⟨h20, h⟩ := h
    obtain ⟨h21, h⟩ := h
    refine x_tabL (dA D_X9_settle 34 rfl) h20 h21 ?_
    refine x_nmI (fun v22 ev22 => ?_)
    have h := h v22 ev22
    refine x_istore (xs' := [vA t, vI x1, vI x2, vI x3, vI x4, vI x5, vI v3, vI r19, vI v22, vU, vU, vU, vU, vU]) (dA D_X9_settle 35 rfl) (by decide) rfl ?_
    refine x_iconst (dA D_X9_settle 36 rfl) ?_
    refine x_istore (xs' := [vA t, vI x1, vI x2, vI x3, vI x4, vI x5, vI v3, vI r19, vI v22, vI (-1), vU, vU, vU, vU]) (dA D_X9_settle 37 rfl) (by decide) rfl ?_
    refine x_aload_n (dA D_X9_settle 38 rfl) rfl ?_
    refine x_get (v := vA (t + 1)) (dA D_X9_settle 39 rfl) fw_RX9_11 (sOt_0 ht hM18) (congrArg (rfV G) (sRt_3 ht hM18)) ?_
    refine x_iload (dA D_X9_settle 40 rfl) rfl ?_
    refine x_iload (dA D_X9_settle 41 rfl) rfl ?_
    refine x_iload (dA D_X9_settle 42 rfl) rfl ?_
    refine x_iadd (dA D_X9_settle 43 rfl) ?_
    refine x_lconst (a := 0) (dA D_X9_settle 44 rfl) (by decide) ?_
    obtain ⟨h23, h⟩ := h
    obtain ⟨h24, h⟩ := h
    refine x_callS [vA (t + 1), vI r19, vI (r19 + v22), vL 0] [] (dA D_X9_settle 45 rfl) cw_RX9_89 rfl rfl (Nat.le_of_ble_eq_true rfl) hd1 (zk k) (zk n) (T_fillR hM18 h23 h24 (by omega) (fun M25 p27 hM25 => ?_)) (kU (fun _ h => h))
    have h := h M25 p27 hM25
    show X G Y_X9_settle d k n 82 [vA t, vI x1, vI x2, vI x3, vI x4, vI x5, vI v3, vI r19, vI v22, vI (-1), vU, vU, vU, vU] [] M25 Q
    refine x_iload_n (dA D_X9_settle 46 rfl) rfl ?_
    refine x_iload (dA D_X9_settle 47 rfl) rfl ?_
    refine x_iadd (dA D_X9_settle 48 rfl) ?_
    obtain ⟨h28, h⟩ := h
    refine x_if_neP (tgt := 129) (dA D_X9_settle 49 rfl) (by decide) h28 ⟨fun c => ?_, fun c => ?_⟩
    · have h := h.1 c
      refine x_aload_n (dA D_X9_settle 69 rfl) rfl ?_
      refine x_get (v := vA (tG t)) (dA D_X9_settle 70 rfl) fw_RX9_53 (sOt_0 ht hM25) (congrArg (rfV G) (sRt_2 ht hM25)) ?_
      refine x_ifnull (tgt := 144) (dA D_X9_settle 71 rfl) (by decide) ⟨fun c => ?_, fun c => ?_⟩
      · have h := h.1 c
        exact h
      · have h := h.2 c
        refine x_aload_n (dA D_X9_settle 72 rfl) rfl ?_
        refine x_get (v := vI (rd M25 t 10)) (dA D_X9_settle 73 rfl) fw_RX9_39 (sOt_0 ht hM25) rfl ?_
        refine x_iconst (dA D_X9_settle 74 rfl) ?_
        obtain ⟨h29, h⟩ := h
        refine x_icmp_neP (tgt := 148) (dA D_X9_settle 75 rfl) (by decide) h29 ⟨by decide, by decide⟩ ⟨fun c => ?_, fun c => ?_⟩
        · have h := h.1 c
          refine x_iconst (dA D_X9_settle 78 rfl) ?_
          refine x_istore (xs' := [vA t, vI x1, vI x2, vI x3, vI x4, vI x5, vI v3, vI r19, vI v22, vI (-1), vI 0, vU, vU, vU]) (dA D_X9_settle 79 rfl) (by decide) rfl ?_
          refine x_iload (dA D_X9_settle 80 rfl) rfl ?_
          refine x_if_eqP (tgt := 160) (dA D_X9_settle 81 rfl) (by decide) ⟨by decide, by decide⟩ ⟨fun c => ?_, fun c => ?_⟩
          · skip
            refine x_aload_n (dA D_X9_settle 84 rfl) rfl ?_
            refine x_get (v := vA (tG t)) (dA D_X9_settle 85 rfl) fw_RX9_53 (sOt_0 ht hM25) (congrArg (rfV G) (sRt_2 ht hM25)) ?_
            refine x_aload_n (dA D_X9_settle 86 rfl) rfl ?_
            refine x_get (v := vI (rd M25 t 10)) (dA D_X9_settle 87 rfl) fw_RX9_39 (sOt_0 ht hM25) rfl ?_
            refine x_iload_n (dA D_X9_settle 88 rfl) rfl ?_
            refine x_iload_n (dA D_X9_settle 89 rfl) rfl ?_
            refine x_iload_n (dA D_X9_settle 90 rfl) rfl ?_
            refine x_iload (dA D_X9_settle 91 rfl) rfl ?_
            obtain ⟨h30, h⟩ := h
            refine x_callV 2 [vI (rd M25 t 10), vI x1, vI x2, vI x3, vI x4] [] (dA D_X9_settle 92 rfl) cw_RX9_99 rfl rfl (Nat.le_of_ble_eq_true rfl) (by decide) rfl hd1 (zk k) (zk n) h30 h (kI (fun r32 M31 h => ?_))
            obtain ⟨hM31, h⟩ := h
            refine x_istore (xs' := [vA t, vI x1, vI x2, vI x3, vI x4, vI x5, vI v3, vI r19, vI v22, vI (-1), vI 0, vI r32, vU, vU]) (dA D_X9_settle 93 rfl) (by decide) rfl ?_
            refine x_iload (dA D_X9_settle 94 rfl) rfl ?_
            refine x_if_eqP (tgt := 194) (dA D_X9_settle 95 rfl) (by decide) ⟨by decide, by decide⟩ ⟨fun c => ?_, fun c => ?_⟩
            · skip
              refine x_iload (dA D_X9_settle 101 rfl) rfl ?_
              refine x_iconst (dA D_X9_settle 102 rfl) ?_
              obtain ⟨h34, h⟩ := h
              have hJ : X G Y_X9_settle d k n 208 [vA t, vI x1, vI x2, vI x3, vI x4, vI x5, vI v3, vI r19, vI v22, vI (-1), vI 0, vI r32, vU, vU] [vI (if r32 ≠ (-1) then (iShl 1 r32) else 0)] M31 Q := by
                refine x_nmI (fun v40 ev40 => ?_)
                have h := h v40 ev40
                refine x_istore (xs' := [vA t, vI x1, vI x2, vI x3, vI x4, vI x5, vI v3, vI r19, vI v22, vI (-1), vI 0, vI r32, vI v40, vU]) (dA D_X9_settle 109 rfl) (by decide) rfl ?_
                refine x_iconst (dA D_X9_settle 110 rfl) ?_
                refine x_istore (xs' := [vA t, vI x1, vI x2, vI x3, vI x4, vI x5, vI v3, vI r19, vI v22, vI (-1), vI 0, vI r32, vI v40, vI 0]) (dA D_X9_settle 111 rfl) (by decide) rfl ?_
                exact h
              refine x_icmp_neP (tgt := 204) (dA D_X9_settle 103 rfl) (by decide) h34 ⟨by decide, by decide⟩ ⟨fun c33 => ?_, fun c33 => ?_⟩
              · refine x_iconst (dA D_X9_settle 106 rfl) ?_
                refine x_iload (dA D_X9_settle 107 rfl) rfl ?_
                refine x_ishl (dA D_X9_settle 108 rfl) ?_
                rw [if_pos c33] at hJ
                exact hJ
              · refine x_iconst (dA D_X9_settle 104 rfl) ?_
                refine x_goto (tgt := 208) (dA D_X9_settle 105 rfl) (by decide) ?_
                rw [if_neg (by first | omega | grind)] at hJ
                exact hJ
            · exact absurd (by decide) c
          · exact absurd (by decide) c
        · have h := h.2 c
          exact h
    · have h := h.2 c
      refine x_aload_n (dA D_X9_settle 50 rfl) rfl ?_
      refine x_get (v := vI (rd M25 t 11)) (dA D_X9_settle 51 rfl) fw_RX9_42 (sOt_0 ht hM25) rfl ?_
      refine x_bipush (dA D_X9_settle 52 rfl) (by decide) (by decide) ?_
      obtain ⟨h42, h⟩ := h
      have hA : (((rd M25 t 11) ≠ 6) ∨ (x5 ≤ 0)) → X G Y_X9_settle d k n 299 [vA t, vI x1, vI x2, vI x3, vI x4, vI x5, vI v3, vI r19, vI v22, vI (-1), vU, vU, vU, vU] [] M25 Q := by
        intro c57
        have h := h.1 c57
        exact h
      have hB : ¬ (((rd M25 t 11) ≠ 6) ∨ (x5 ≤ 0)) → X G Y_X9_settle d k n 103 [vA t, vI x1, vI x2, vI x3, vI x4, vI x5, vI v3, vI r19, vI v22, vI (-1), vU, vU, vU, vU] [] M25 Q := by
        intro c57
        have h := h.2 c57
        refine x_aload_n (dA D_X9_settle 56 rfl) rfl ?_
        refine x_iload (dA D_X9_settle 57 rfl) rfl ?_
        refine x_lconst (a := 1) (dA D_X9_settle 58 rfl) (by decide) ?_
        refine x_callV 8 [vI x5, vL 1] [] (dA D_X9_settle 59 rfl) cw_RX9_95 rfl rfl (Nat.le_of_ble_eq_true rfl) (by decide) rfl hd1 (zk k) (zk n) (sOt_0 ht hM25) h (kU (fun M49 h => ?_))
        obtain ⟨hM49, h⟩ := h
        refine x_aload_n (dA D_X9_settle 60 rfl) rfl ?_
        refine x_get (v := vA (t + 3)) (dA D_X9_settle 61 rfl) fw_RX9_23 (sOt_0 ht hM49) (congrArg (rfV G) (sRt_5 ht hM49)) ?_
        refine x_iconst (dA D_X9_settle 62 rfl) ?_
        refine x_aload_n (dA D_X9_settle 63 rfl) rfl ?_
        refine x_get (v := vA (t + 1)) (dA D_X9_settle 64 rfl) fw_RX9_11 (sOt_0 ht hM49) (congrArg (rfV G) (sRt_3 ht hM49)) ?_
        refine x_iload (dA D_X9_settle 65 rfl) rfl ?_
        refine x_iload (dA D_X9_settle 66 rfl) rfl ?_
        obtain ⟨h51, h⟩ := h
        obtain ⟨h52, h⟩ := h
        obtain ⟨h53, h⟩ := h
        obtain ⟨h54, h⟩ := h
        obtain ⟨h55, h⟩ := h
        obtain ⟨h56, h⟩ := h
        refine x_copy 21 [] (by decide) (dA D_X9_settle 67 rfl) ⟨ml_RX9_71, w_an, w_as, w_ai⟩ (by decide) hd1 h51 h52 (by decide) h53 h54 h55 h56 (fun e => absurd e (by decide)) ?_
        refine x_nmM (fun M50 eM50 => ?_)
        have h := h M50 eM50
        refine x_goto (tgt := 299) (dA D_X9_settle 68 rfl) (by decide) ?_
        exact h
      refine x_icmp_neP (tgt := 299) (dA D_X9_settle 53 rfl) (by decide) h42 ⟨by decide, by decide⟩ ⟨fun c41 => ?_, fun c41 => ?_⟩
      · exact hA (by first | omega | grind)
      · refine x_iload (dA D_X9_settle 54 rfl) rfl ?_
        refine x_if_leP (tgt := 299) (dA D_X9_settle 55 rfl) (by decide) h11 ⟨fun c44 => ?_, fun c44 => ?_⟩
        · exact hA (by first | omega | grind)
        · exact hB (by first | omega | grind)
  refine x_icmp_eqP (tgt := 44) (dA D_X9_settle 20 rfl) (by decide) (inR_iShr _ _) h7 ⟨fun c6 => ?_, fun c6 => ?_⟩
  · exact hA (by first | omega | grind)
  · refine x_iload (dA D_X9_settle 21 rfl) rfl ?_
    refine x_iconst (dA D_X9_settle 22 rfl) ?_
    refine x_icmp_leP (tgt := 45) (dA D_X9_settle 23 rfl) (by decide) h11 ⟨by decide, by decide⟩ ⟨fun c10 => ?_, fun c10 => ?_⟩
    · exact hB (by first | omega | grind)
    · exact hA (by first | omega | grind)
theorem C_X9_settle {G : GG} {d : Nat} {t x1 x2 x3 x4 x5 : Int} {M : MM} {Q : PV → MM → Prop} (h : X G Y_X9_settle d 0 0 0 [vA t, vI x1, vI x2, vI x3, vI x4, vI x5, vU, vU, vU, vU, vU, vU, vU, vU] [] M Q) : C G Y_X9_settle d 0 0 [vA t, vI x1, vI x2, vI x3, vI x4, vI x5] M Q := X.entry (by decide) (Nat.le_of_ble_eq_true rfl) rfl rfl rfl h
set_option maxRecDepth 100000 in
theorem B_X9_settle_144 {G : GG} {d : Nat} {k n : Nat} {t x1 x2 x3 x4 x5 x6 x7 x8 x9 : Int} {r : Int → Int} {M : MM} {Q : PV → MM → Prop} (hd : 4 ≤ d) (ht : t = 32 ∨ t = 44) (hS : Sh M) (h : HR M r ∧ RS r ∧ (0 ≤ x1 ∧ x1 < 32) ∧ ∀ v4, v4 = canB r x1 → X G Y_X9_settle d k n 213 [vA t, vI x1, vI x2, vI x3, vI x4, vI x5, vI x6, vI x7, vI x8, vI x9, vI 1, vI (-1), vI v4, vI 0] [] M Q) : X G Y_X9_settle d k n 144 [vA t, vI x1, vI x2, vI x3, vI x4, vI x5, vI x6, vI x7, vI x8, vI x9, vU, vU, vU, vU] [] M Q := by
  have hd1 : 1 ≤ d := by omega
  refine x_iconst (dA D_X9_settle 76 rfl) ?_
  refine x_goto (tgt := 149) (dA D_X9_settle 77 rfl) (by decide) ?_
  refine x_istore (xs' := [vA t, vI x1, vI x2, vI x3, vI x4, vI x5, vI x6, vI x7, vI x8, vI x9, vI 1, vU, vU, vU]) (dA D_X9_settle 79 rfl) (by decide) rfl ?_
  refine x_iload (dA D_X9_settle 80 rfl) rfl ?_
  refine x_if_eqP (tgt := 160) (dA D_X9_settle 81 rfl) (by decide) ⟨by decide, by decide⟩ ⟨fun c => ?_, fun c => ?_⟩
  · exact absurd c (by decide)
  · skip
    refine x_iconst (dA D_X9_settle 82 rfl) ?_
    refine x_goto (tgt := 176) (dA D_X9_settle 83 rfl) (by decide) ?_
    refine x_istore (xs' := [vA t, vI x1, vI x2, vI x3, vI x4, vI x5, vI x6, vI x7, vI x8, vI x9, vI 1, vI (-1), vU, vU]) (dA D_X9_settle 93 rfl) (by decide) rfl ?_
    refine x_iload (dA D_X9_settle 94 rfl) rfl ?_
    refine x_if_eqP (tgt := 194) (dA D_X9_settle 95 rfl) (by decide) ⟨by decide, by decide⟩ ⟨fun c => ?_, fun c => ?_⟩
    · exact absurd c (by decide)
    · skip
      refine x_aload_n (dA D_X9_settle 96 rfl) rfl ?_
      refine x_get (v := vA 1) (dA D_X9_settle 97 rfl) fw_RX9_45 (sOt_0 ht hS) (congrArg (rfV G) (sRt_0 ht hS)) ?_
      refine x_iload_n (dA D_X9_settle 98 rfl) rfl ?_
      obtain ⟨h1, h⟩ := h
      obtain ⟨h2, h⟩ := h
      obtain ⟨h3, h⟩ := h
      refine x_callV 3 [vI x1] [] (dA D_X9_settle 99 rfl) cw_RX9_105 rfl rfl (Nat.le_of_ble_eq_true rfl) (by decide) rfl hd1 (zk k) (zk n) (sO_1 hS) (S_X4_open hS h1 h2 h3 (by omega) ?_) (kI (fun _ _ h => h))
      show X G Y_X9_settle d k n 191 [vA t, vI x1, vI x2, vI x3, vI x4, vI x5, vI x6, vI x7, vI x8, vI x9, vI 1, vI (-1), vU, vU] [vI (canB r x1)] M Q
      refine x_goto (tgt := 208) (dA D_X9_settle 100 rfl) (by decide) ?_
      refine x_nmI (fun v4 ev4 => ?_)
      have h := h v4 ev4
      refine x_istore (xs' := [vA t, vI x1, vI x2, vI x3, vI x4, vI x5, vI x6, vI x7, vI x8, vI x9, vI 1, vI (-1), vI v4, vU]) (dA D_X9_settle 109 rfl) (by decide) rfl ?_
      refine x_iconst (dA D_X9_settle 110 rfl) ?_
      refine x_istore (xs' := [vA t, vI x1, vI x2, vI x3, vI x4, vI x5, vI x6, vI x7, vI x8, vI x9, vI 1, vI (-1), vI v4, vI 0]) (dA D_X9_settle 111 rfl) (by decide) rfl ?_
      exact h
set_option maxRecDepth 100000 in
theorem B_X9_settle_213 {G : GG} {d : Nat} {k n : Nat} {t x1 x2 x3 x4 x5 x6 x7 x8 x9 x10 x11 x12 x13 : Int} {M : MM} {Q : PV → MM → Prop} (hd : 2 ≤ d) (ht : t = 32 ∨ t = 44) (hS : Sh M) (h : inR x13 ∧ inR (rd M 1 0) ∧ (((rd M 1 0) ≤ x13 → X G Y_X9_settle d k n 299 [vA t, vI x1, vI x2, vI x3, vI x4, vI x5, vI x6, vI x7, vI x8, vI x9, vU, vU, vU, vU] [] M Q) ∧ (x13 < (rd M 1 0) → (((iAnd (iShr x12 x13) 1) ≠ 0 → C G Y_X9_bring (d - 1) 0 0 [vA t, vI x1, vI x2, vI x13, vI x3, vI x4] M (rU (fun M3 => Sh M3 ∧ inR x9 ∧ ((x9 = (-1) → X G Y_X9_settle d k n 273 [vA t, vI x1, vI x2, vI x3, vI x4, vI x5, vI x6, vI x7, vI x8, vI x9, vI x10, vI x11, vI x12, vI x13] [] M3 Q) ∧ (x9 ≠ (-1) → (0 ≤ x8 ∧ x8 ≤ 14) ∧ Ar M3 (t + 3) 0 (x8).toNat ∧ Ar M3 (t + 1) x7 (x8).toNat ∧ nrm (rd M3 (t + 3)) 0 (x8).toNat ∧ nrm (rd M3 (t + 1)) x7 (x8).toNat ∧ inR (cmpI (vl (rd M3 (t + 3)) 0 (x8).toNat) (vl (rd M3 (t + 1)) x7 (x8).toNat)) ∧ (((cmpI (vl (rd M3 (t + 3)) 0 (x8).toNat) (vl (rd M3 (t + 1)) x7 (x8).toNat)) ≤ 0 → X G Y_X9_settle d k n 213 [vA t, vI x1, vI x2, vI x3, vI x4, vI x5, vI x6, vI x7, vI x8, vI x9, vI x10, vI x11, vI x12, vI (x13 + 1)] [] M3 Q) ∧ (0 < (cmpI (vl (rd M3 (t + 3)) 0 (x8).toNat) (vl (rd M3 (t + 1)) x7 (x8).toNat)) → X G Y_X9_settle d k n 273 [vA t, vI x1, vI x2, vI x3, vI x4, vI x5, vI x6, vI x7, vI x8, vI x9, vI x10, vI x11, vI x12, vI x13] [] M3 Q))))))) ∧ ((iAnd (iShr x12 x13) 1) = 0 → X G Y_X9_settle d k n 213 [vA t, vI x1, vI x2, vI x3, vI x4, vI x5, vI x6, vI x7, vI x8, vI x9, vI x10, vI x11, vI x12, vI (x13 + 1)] [] M Q))))) : X G Y_X9_settle d k n 213 [vA t, vI x1, vI x2, vI x3, vI x4, vI x5, vI x6, vI x7, vI x8, vI x9, vI x10, vI x11, vI x12, vI x13] [] M Q := by
  have hd1 : 1 ≤ d := by omega
  refine x_iload (dA D_X9_settle 112 rfl) rfl ?_
  refine x_aload_n (dA D_X9_settle 113 rfl) rfl ?_
  refine x_get (v := vA 1) (dA D_X9_settle 114 rfl) fw_RX9_45 (sOt_0 ht hS) (congrArg (rfV G) (sRt_0 ht hS)) ?_
  refine x_get (v := vI (rd M 1 0)) (dA D_X9_settle 115 rfl) fw_RX9_110 (sO_1 hS) rfl ?_
  obtain ⟨h1, h⟩ := h
  obtain ⟨h2, h⟩ := h
  refine x_icmp_geP (tgt := 299) (dA D_X9_settle 116 rfl) (by decide) h1 h2 ⟨fun c => ?_, fun c => ?_⟩
  · have h := h.1 c
    refine X.weak (xs' := [vA t, vI x1, vI x2, vI x3, vI x4, vI x5, vI x6, vI x7, vI x8, vI x9, vU, vU, vU, vU]) ⟨Or.inl rfl, Or.inl rfl, Or.inl rfl, Or.inl rfl, Or.inl rfl, Or.inl rfl, Or.inl rfl, Or.inl rfl, Or.inl rfl, Or.inl rfl, Or.inr rfl, Or.inr rfl, Or.inr rfl, Or.inr rfl, trivial⟩ ?_
    exact h
  · have h := h.2 c
    refine x_iload (dA D_X9_settle 117 rfl) rfl ?_
    refine x_iload (dA D_X9_settle 118 rfl) rfl ?_
    refine x_ishr (dA D_X9_settle 119 rfl) ?_
    refine x_iconst (dA D_X9_settle 120 rfl) ?_
    refine x_iand (dA D_X9_settle 121 rfl) ?_
    refine x_if_neP (tgt := 238) (dA D_X9_settle 122 rfl) (by decide) (inR_iAnd _ _) ⟨fun c => ?_, fun c => ?_⟩
    · have h := h.1 c
      refine x_aload_n (dA D_X9_settle 124 rfl) rfl ?_
      refine x_iload_n (dA D_X9_settle 125 rfl) rfl ?_
      refine x_iload_n (dA D_X9_settle 126 rfl) rfl ?_
      refine x_iload (dA D_X9_settle 127 rfl) rfl ?_
      refine x_iload_n (dA D_X9_settle 128 rfl) rfl ?_
      refine x_iload (dA D_X9_settle 129 rfl) rfl ?_
      refine x_callV 8 [vI x1, vI x2, vI x13, vI x3, vI x4] [] (dA D_X9_settle 130 rfl) cw_RX9_113 rfl rfl (Nat.le_of_ble_eq_true rfl) (by decide) rfl hd1 (zk k) (zk n) (sOt_0 ht hS) h (kU (fun M3 h => ?_))
      obtain ⟨hM3, h⟩ := h
      refine x_iload (dA D_X9_settle 131 rfl) rfl ?_
      refine x_iconst (dA D_X9_settle 132 rfl) ?_
      obtain ⟨h4, h⟩ := h
      refine x_icmp_eqP (tgt := 273) (dA D_X9_settle 133 rfl) (by decide) h4 ⟨by decide, by decide⟩ ⟨fun c => ?_, fun c => ?_⟩
      · have h := h.1 c
        exact h
      · have h := h.2 c
        refine x_aload_n (dA D_X9_settle 134 rfl) rfl ?_
        refine x_get (v := vA (t + 3)) (dA D_X9_settle 135 rfl) fw_RX9_23 (sOt_0 ht hM3) (congrArg (rfV G) (sRt_5 ht hM3)) ?_
        refine x_aload_n (dA D_X9_settle 136 rfl) rfl ?_
        refine x_get (v := vA (t + 1)) (dA D_X9_settle 137 rfl) fw_RX9_11 (sOt_0 ht hM3) (congrArg (rfV G) (sRt_3 ht hM3)) ?_
        refine x_iload (dA D_X9_settle 138 rfl) rfl ?_
        refine x_iload (dA D_X9_settle 139 rfl) rfl ?_
        obtain ⟨h5, h⟩ := h
        obtain ⟨h6, h⟩ := h
        obtain ⟨h7, h⟩ := h
        obtain ⟨h8, h⟩ := h
        obtain ⟨h9, h⟩ := h
        refine x_callS [vA (t + 3), vA (t + 1), vI x7, vI x8] [] (dA D_X9_settle 140 rfl) cw_RX9_117 rfl rfl (Nat.le_of_ble_eq_true rfl) hd1 (zk k) (zk n) (T_X2_compare h5 h6 h7 h8 h9 (by omega) ?_) (kI (fun _ _ h => h))
        show X G Y_X9_settle d k n 270 [vA t, vI x1, vI x2, vI x3, vI x4, vI x5, vI x6, vI x7, vI x8, vI x9, vI x10, vI x11, vI x12, vI x13] [vI (cmpI (vl (rd M3 (t + 3)) 0 (x8).toNat) (vl (rd M3 (t + 1)) x7 (x8).toNat))] M3 Q
        obtain ⟨h10, h⟩ := h
        refine x_if_leP (tgt := 293) (dA D_X9_settle 141 rfl) (by decide) h10 ⟨fun c => ?_, fun c => ?_⟩
        · have h := h.1 c
          refine x_iinc (xs' := [vA t, vI x1, vI x2, vI x3, vI x4, vI x5, vI x6, vI x7, vI x8, vI x9, vI x10, vI x11, vI x12, vI (x13 + 1)]) (dA D_X9_settle 152 rfl) rfl (by decide) rfl ?_
          refine x_goto (tgt := 213) (dA D_X9_settle 153 rfl) (by decide) ?_
          exact h
        · have h := h.2 c
          exact h
    · have h := h.2 c
      refine x_goto (tgt := 293) (dA D_X9_settle 123 rfl) (by decide) ?_
      refine x_iinc (xs' := [vA t, vI x1, vI x2, vI x3, vI x4, vI x5, vI x6, vI x7, vI x8, vI x9, vI x10, vI x11, vI x12, vI (x13 + 1)]) (dA D_X9_settle 152 rfl) rfl (by decide) rfl ?_
      refine x_goto (tgt := 213) (dA D_X9_settle 153 rfl) (by decide) ?_
      exact h
set_option maxRecDepth 100000 in
theorem B_X9_settle_273 {G : GG} {d : Nat} {k n : Nat} {t x1 x2 x3 x4 x5 x6 x7 x8 x9 x10 x11 x12 x13 : Int} {M : MM} {Q : PV → MM → Prop} (hd : 1 ≤ d) (ht : t = 32 ∨ t = 44) (hS : Sh M) (h : okO M (t + 3) 21 ∧ okO M (t + 1) 21 ∧ 0 ≤ x7 ∧ 0 ≤ x8 ∧ 0 + x8 ≤ (mT M (t + 3)).2 ∧ x7 + x8 ≤ (mT M (t + 1)).2 ∧ ∀ M1, M1 = cpM M (t + 3) 0 (t + 1) x7 x8 → X G Y_X9_settle d k n 213 [vA t, vI x1, vI x2, vI x3, vI x4, vI x5, vI x6, vI x7, vI x8, vI x13, vI x10, vI x11, vI x12, vI (x13 + 1)] [] M1 Q) : X G Y_X9_settle d k n 273 [vA t, vI x1, vI x2, vI x3, vI x4, vI x5, vI x6, vI x7, vI x8, vI x9, vI x10, vI x11, vI x12, vI x13] [] M Q := by
  have hd1 : 1 ≤ d := by omega
  refine x_aload_n (dA D_X9_settle 142 rfl) rfl ?_
  refine x_get (v := vA (t + 3)) (dA D_X9_settle 143 rfl) fw_RX9_23 (sOt_0 ht hS) (congrArg (rfV G) (sRt_5 ht hS)) ?_
  refine x_iconst (dA D_X9_settle 144 rfl) ?_
  refine x_aload_n (dA D_X9_settle 145 rfl) rfl ?_
  refine x_get (v := vA (t + 1)) (dA D_X9_settle 146 rfl) fw_RX9_11 (sOt_0 ht hS) (congrArg (rfV G) (sRt_3 ht hS)) ?_
  refine x_iload (dA D_X9_settle 147 rfl) rfl ?_
  refine x_iload (dA D_X9_settle 148 rfl) rfl ?_
  obtain ⟨h2, h⟩ := h
  obtain ⟨h3, h⟩ := h
  obtain ⟨h4, h⟩ := h
  obtain ⟨h5, h⟩ := h
  obtain ⟨h6, h⟩ := h
  obtain ⟨h7, h⟩ := h
  refine x_copy 21 [] (by decide) (dA D_X9_settle 149 rfl) ⟨ml_RX9_71, w_an, w_as, w_ai⟩ (by decide) hd1 h2 h3 (by decide) h4 h5 h6 h7 (fun e => absurd e (by decide)) ?_
  refine x_nmM (fun M1 eM1 => ?_)
  have h := h M1 eM1
  refine x_iload (dA D_X9_settle 150 rfl) rfl ?_
  refine x_istore (xs' := [vA t, vI x1, vI x2, vI x3, vI x4, vI x5, vI x6, vI x7, vI x8, vI x13, vI x10, vI x11, vI x12, vI x13]) (dA D_X9_settle 151 rfl) (by decide) rfl ?_
  refine x_iinc (xs' := [vA t, vI x1, vI x2, vI x3, vI x4, vI x5, vI x6, vI x7, vI x8, vI x13, vI x10, vI x11, vI x12, vI (x13 + 1)]) (dA D_X9_settle 152 rfl) rfl (by decide) rfl ?_
  refine x_goto (tgt := 213) (dA D_X9_settle 153 rfl) (by decide) ?_
  exact h
set_option maxRecDepth 100000 in
theorem B_X9_settle_299 {G : GG} {d : Nat} {k n : Nat} {t x1 x2 x3 x4 x5 x6 x7 x8 x9 : Int} {M : MM} {Q : PV → MM → Prop} (hd : 1 ≤ d) (ht : t = 32 ∨ t = 44) (hS : Sh M) (h : 0 ≤ x6 ∧ x6 < 2916 ∧ ∀ M3, M3 = wr M (t + 2) x6 (iOr (iShl (rd M t 9) 3) (x9 + 1)) → Sh M3 → Q vU M3) : X G Y_X9_settle d k n 299 [vA t, vI x1, vI x2, vI x3, vI x4, vI x5, vI x6, vI x7, vI x8, vI x9, vU, vU, vU, vU] [] M Q := by
  have hd1 : 1 ≤ d := by omega
  refine x_aload_n (dA D_X9_settle 154 rfl) rfl ?_
  refine x_get (v := vA (t + 2)) (dA D_X9_settle 155 rfl) fw_RX9_17 (sOt_0 ht hS) (congrArg (rfV G) (sRt_4 ht hS)) ?_
  refine x_iload (dA D_X9_settle 156 rfl) rfl ?_
  refine x_aload_n (dA D_X9_settle 157 rfl) rfl ?_
  refine x_get (v := vI (rd M t 9)) (dA D_X9_settle 158 rfl) fw_RX9_35 (sOt_0 ht hS) rfl ?_
  refine x_iconst (dA D_X9_settle 159 rfl) ?_
  refine x_ishl (dA D_X9_settle 160 rfl) ?_
  refine x_iload (dA D_X9_settle 161 rfl) rfl ?_
  refine x_iconst (dA D_X9_settle 162 rfl) ?_
  refine x_iadd (dA D_X9_settle 163 rfl) ?_
  refine x_ior (dA D_X9_settle 164 rfl) ?_
  obtain ⟨h1, h⟩ := h
  obtain ⟨h2, h⟩ := h
  refine x_iast (dA D_X9_settle 165 rfl) (sAt_2 ht hS h1 h2) ?_
  refine x_nmM (fun M3 eM3 => ?_)
  have hM3 : Sh M3 := eM3 ▸ (sWt_2 ht hS)
  have h := h M3 eM3 hM3
  exact x_return (dA D_X9_settle 166 rfl) rfl h
set_option maxRecDepth 100000 in
theorem B_X3_choose_0 {G : GG} {d : Nat} {k n : Nat} {x1 x2 x3 x4 x5 : Int} {r : Int → Int} {M : MM} {Q : PV → MM → Prop} (hd : 4 ≤ d) (hS : Sh M) (h : inR x1 ∧ ((x1 ≠ 0 → ((x1 ≠ 3 → ((x1 ≠ 2 → ((x1 ≠ 1 → X G Y_X3_choose d k n 90 [vA 30, vI x1, vI x2, vI x3, vI x4, vI x5, vI 0, vI (-1), vI (-1), vI 0, vU, vU] [] M Q) ∧ (x1 = 1 → HR M r ∧ RS r ∧ (0 ≤ x2 ∧ x2 < 32) ∧ ∀ v5, v5 = canB r x2 → X G Y_X3_choose d k n 90 [vA 30, vI x1, vI x2, vI x3, vI x4, vI x5, vI v5, vI (-1), vI (-1), vI 0, vU, vU] [] M Q))) ∧ (x1 = 2 → C G Y_X9_bestAt (d - 1) 0 0 [vA 32, vI x2, vI x3, vI x4, vI x5] M (rI (fun r7 M6 => Sh M6 ∧ Q (vI r7) M6))))) ∧ (x1 = 3 → C G Y_X3_ofRow (d - 1) 0 0 [vA 30, vA 31, vI (rd M 30 4), vI x2] M (rI (fun r9 M8 => Sh M8 ∧ Q (vI r9) M8))))) ∧ (x1 = 0 → C G Y_X3_ofRow (d - 1) 0 0 [vA 30, vA 10, vI (rd M 1 12), vI x2] M (rI (fun r11 M10 => Sh M10 ∧ Q (vI r11) M10))))) : X G Y_X3_choose d k n 0 [vA 30, vI x1, vI x2, vI x3, vI x4, vI x5, vU, vU, vU, vU, vU, vU] [] M Q := by
  have hd1 : 1 ≤ d := by omega
  refine x_iload_n (dA D_X3_choose 0 rfl) rfl ?_
  obtain ⟨h1, h⟩ := h
  refine x_if_neP (tgt := 24) (dA D_X3_choose 1 rfl) (by decide) h1 ⟨fun c => ?_, fun c => ?_⟩
  · have h := h.1 c
    refine x_iload_n (dA D_X3_choose 12 rfl) rfl ?_
    refine x_iconst (dA D_X3_choose 13 rfl) ?_
    refine x_icmp_neP (tgt := 43) (dA D_X3_choose 14 rfl) (by decide) h1 ⟨by decide, by decide⟩ ⟨fun c => ?_, fun c => ?_⟩
    · have h := h.1 c
      refine x_iload_n (dA D_X3_choose 23 rfl) rfl ?_
      refine x_iconst (dA D_X3_choose 24 rfl) ?_
      refine x_icmp_neP (tgt := 62) (dA D_X3_choose 25 rfl) (by decide) h1 ⟨by decide, by decide⟩ ⟨fun c => ?_, fun c => ?_⟩
      · have h := h.1 c
        refine x_iload_n (dA D_X3_choose 34 rfl) rfl ?_
        refine x_iconst (dA D_X3_choose 35 rfl) ?_
        refine x_icmp_neP (tgt := 78) (dA D_X3_choose 36 rfl) (by decide) h1 ⟨by decide, by decide⟩ ⟨fun c => ?_, fun c => ?_⟩
        · have h := h.1 c
          refine x_iconst (dA D_X3_choose 42 rfl) ?_
          refine x_istore (xs' := [vA 30, vI x1, vI x2, vI x3, vI x4, vI x5, vI 0, vU, vU, vU, vU, vU]) (dA D_X3_choose 43 rfl) (by decide) rfl ?_
          refine x_iconst (dA D_X3_choose 44 rfl) ?_
          refine x_istore (xs' := [vA 30, vI x1, vI x2, vI x3, vI x4, vI x5, vI 0, vI (-1), vU, vU, vU, vU]) (dA D_X3_choose 45 rfl) (by decide) rfl ?_
          refine x_iconst (dA D_X3_choose 46 rfl) ?_
          refine x_istore (xs' := [vA 30, vI x1, vI x2, vI x3, vI x4, vI x5, vI 0, vI (-1), vI (-1), vU, vU, vU]) (dA D_X3_choose 47 rfl) (by decide) rfl ?_
          refine x_iconst (dA D_X3_choose 48 rfl) ?_
          refine x_istore (xs' := [vA 30, vI x1, vI x2, vI x3, vI x4, vI x5, vI 0, vI (-1), vI (-1), vI 0, vU, vU]) (dA D_X3_choose 49 rfl) (by decide) rfl ?_
          exact h
        · have h := h.2 c
          refine x_aload_n (dA D_X3_choose 37 rfl) rfl ?_
          refine x_get (v := vA 1) (dA D_X3_choose 38 rfl) fw_RX3_19 (sO_30 hS) (congrArg (rfV G) (sR_30_0 hS)) ?_
          refine x_iload_n (dA D_X3_choose 39 rfl) rfl ?_
          obtain ⟨h2, h⟩ := h
          obtain ⟨h3, h⟩ := h
          obtain ⟨h4, h⟩ := h
          refine x_callV 3 [vI x2] [] (dA D_X3_choose 40 rfl) cw_RX3_52 rfl rfl (Nat.le_of_ble_eq_true rfl) (by decide) rfl hd1 (zk k) (zk n) (sO_1 hS) (S_X4_open hS h2 h3 h4 (by omega) ?_) (kI (fun _ _ h => h))
          show X G Y_X3_choose d k n 75 [vA 30, vI x1, vI x2, vI x3, vI x4, vI x5, vU, vU, vU, vU, vU, vU] [vI (canB r x2)] M Q
          refine x_goto (tgt := 79) (dA D_X3_choose 41 rfl) (by decide) ?_
          refine x_nmI (fun v5 ev5 => ?_)
          have h := h v5 ev5
          refine x_istore (xs' := [vA 30, vI x1, vI x2, vI x3, vI x4, vI x5, vI v5, vU, vU, vU, vU, vU]) (dA D_X3_choose 43 rfl) (by decide) rfl ?_
          refine x_iconst (dA D_X3_choose 44 rfl) ?_
          refine x_istore (xs' := [vA 30, vI x1, vI x2, vI x3, vI x4, vI x5, vI v5, vI (-1), vU, vU, vU, vU]) (dA D_X3_choose 45 rfl) (by decide) rfl ?_
          refine x_iconst (dA D_X3_choose 46 rfl) ?_
          refine x_istore (xs' := [vA 30, vI x1, vI x2, vI x3, vI x4, vI x5, vI v5, vI (-1), vI (-1), vU, vU, vU]) (dA D_X3_choose 47 rfl) (by decide) rfl ?_
          refine x_iconst (dA D_X3_choose 48 rfl) ?_
          refine x_istore (xs' := [vA 30, vI x1, vI x2, vI x3, vI x4, vI x5, vI v5, vI (-1), vI (-1), vI 0, vU, vU]) (dA D_X3_choose 49 rfl) (by decide) rfl ?_
          exact h
      · have h := h.2 c
        refine x_aload_n (dA D_X3_choose 26 rfl) rfl ?_
        refine x_get (v := vA 32) (dA D_X3_choose 27 rfl) fw_RX3_32 (sO_30 hS) (congrArg (rfV G) (sR_30_2 hS)) ?_
        refine x_iload_n (dA D_X3_choose 28 rfl) rfl ?_
        refine x_iload_n (dA D_X3_choose 29 rfl) rfl ?_
        refine x_iload (dA D_X3_choose 30 rfl) rfl ?_
        refine x_iload (dA D_X3_choose 31 rfl) rfl ?_
        refine x_callV 8 [vI x2, vI x3, vI x4, vI x5] [] (dA D_X3_choose 32 rfl) cw_RX3_48 rfl rfl (Nat.le_of_ble_eq_true rfl) (by decide) rfl hd1 (zk k) (zk n) (sO_32 hS) h (kI (fun r7 M6 h => ?_))
        obtain ⟨hM6, h⟩ := h
        exact x_ireturn (dA D_X3_choose 33 rfl) rfl h
    · have h := h.2 c
      refine x_aload_n (dA D_X3_choose 15 rfl) rfl ?_
      refine x_aload_n (dA D_X3_choose 16 rfl) rfl ?_
      refine x_get (v := vA 31) (dA D_X3_choose 17 rfl) fw_RX3_9 (sO_30 hS) (congrArg (rfV G) (sR_30_3 hS)) ?_
      refine x_aload_n (dA D_X3_choose 18 rfl) rfl ?_
      refine x_get (v := vI (rd M 30 4)) (dA D_X3_choose 19 rfl) fw_RX3_15 (sO_30 hS) rfl ?_
      refine x_iload_n (dA D_X3_choose 20 rfl) rfl ?_
      refine x_callV 2 [vA 31, vI (rd M 30 4), vI x2] [] (dA D_X3_choose 21 rfl) cw_RX3_44 rfl rfl (Nat.le_of_ble_eq_true rfl) (by decide) rfl hd1 (zk k) (zk n) (sO_30 hS) h (kI (fun r9 M8 h => ?_))
      obtain ⟨hM8, h⟩ := h
      exact x_ireturn (dA D_X3_choose 22 rfl) rfl h
  · have h := h.2 c
    refine x_aload_n (dA D_X3_choose 2 rfl) rfl ?_
    refine x_aload_n (dA D_X3_choose 3 rfl) rfl ?_
    refine x_get (v := vA 1) (dA D_X3_choose 4 rfl) fw_RX3_19 (sO_30 hS) (congrArg (rfV G) (sR_30_0 hS)) ?_
    refine x_get (v := vA 10) (dA D_X3_choose 5 rfl) fw_RX3_36 (sO_1 hS) (congrArg (rfV G) (sR_1_11 hS)) ?_
    refine x_aload_n (dA D_X3_choose 6 rfl) rfl ?_
    refine x_get (v := vA 1) (dA D_X3_choose 7 rfl) fw_RX3_19 (sO_30 hS) (congrArg (rfV G) (sR_30_0 hS)) ?_
    refine x_get (v := vI (rd M 1 12)) (dA D_X3_choose 8 rfl) fw_RX3_41 (sO_1 hS) rfl ?_
    refine x_iload_n (dA D_X3_choose 9 rfl) rfl ?_
    refine x_callV 2 [vA 10, vI (rd M 1 12), vI x2] [] (dA D_X3_choose 10 rfl) cw_RX3_44 rfl rfl (Nat.le_of_ble_eq_true rfl) (by decide) rfl hd1 (zk k) (zk n) (sO_30 hS) h (kI (fun r11 M10 h => ?_))
    obtain ⟨hM10, h⟩ := h
    exact x_ireturn (dA D_X3_choose 11 rfl) rfl h
theorem C_X3_choose {G : GG} {d : Nat} {x1 x2 x3 x4 x5 : Int} {M : MM} {Q : PV → MM → Prop} (h : X G Y_X3_choose d 0 0 0 [vA 30, vI x1, vI x2, vI x3, vI x4, vI x5, vU, vU, vU, vU, vU, vU] [] M Q) : C G Y_X3_choose d 0 0 [vA 30, vI x1, vI x2, vI x3, vI x4, vI x5] M Q := X.entry (by decide) (Nat.le_of_ble_eq_true rfl) rfl rfl rfl h
set_option maxRecDepth 100000 in
theorem B_X3_choose_90 {G : GG} {d : Nat} {k n : Nat} {x1 x2 x3 x4 x5 x6 x7 x8 x9 : Int} {r : Int → Int} {sm : Int → LSm} {M : MM} {Q : PV → MM → Prop} (hd : 7 ≤ d) (hS : Sh M) (h : inR x9 ∧ inR (rd M 1 0) ∧ (((rd M 1 0) ≤ x9 → Q (vI x7) M) ∧ (x9 < (rd M 1 0) → (((iAnd (iShr x6 x9) 1) ≠ 0 → ∀ v3, v3 = 100 * (x4 + x5) → 0 ≤ x9 ∧ x9 < 5 ∧ inR (rd M 4 x9) ∧ (((rd M 4 x9) = 1 → inR v3 ∧ inR x8 ∧ ((v3 ≤ x8 → X G Y_X3_choose d k n 90 [vA 30, vI x1, vI x2, vI x3, vI x4, vI x5, vI x6, vI x7, vI x8, vI (x9 + 1), vU, vU] [] M Q) ∧ (x8 < v3 → X G Y_X3_choose d k n 90 [vA 30, vI x1, vI x2, vI x3, vI x4, vI x5, vI x6, vI x9, vI v3, vI (x9 + 1), vU, vU] [] M Q))) ∧ (¬ ((rd M 4 x9) = 1) → CIn M r sm ∧ stpOk x2 x3 x9 x4 x5 ∧ ∀ r12 M11, (Fr KTd M M11 ∧ CIn M11 r sm ∧ r12 = tolV r sm x2 x3 x9 x4 x5) → Sh M11 → ∀ v14, v14 = (x4 * (iAnd (if (0 : Int) ≠ 0 then (iShr r12 8) else r12) 127)) + (x5 * (iAnd (if (1 : Int) ≠ 0 then (iShr r12 8) else r12) 127)) → inR v14 ∧ inR x8 ∧ ((v14 ≤ x8 → X G Y_X3_choose d k n 90 [vA 30, vI x1, vI x2, vI x3, vI x4, vI x5, vI x6, vI x7, vI x8, vI (x9 + 1), vU, vU] [] M11 Q) ∧ (x8 < v14 → X G Y_X3_choose d k n 90 [vA 30, vI x1, vI x2, vI x3, vI x4, vI x5, vI x6, vI x9, vI v14, vI (x9 + 1), vU, vU] [] M11 Q))))) ∧ ((iAnd (iShr x6 x9) 1) = 0 → X G Y_X3_choose d k n 90 [vA 30, vI x1, vI x2, vI x3, vI x4, vI x5, vI x6, vI x7, vI x8, vI (x9 + 1), vU, vU] [] M Q))))) : X G Y_X3_choose d k n 90 [vA 30, vI x1, vI x2, vI x3, vI x4, vI x5, vI x6, vI x7, vI x8, vI x9, vU, vU] [] M Q := by
  have hd1 : 1 ≤ d := by omega
  refine x_iload (dA D_X3_choose 50 rfl) rfl ?_
  refine x_aload_n (dA D_X3_choose 51 rfl) rfl ?_
  refine x_get (v := vA 1) (dA D_X3_choose 52 rfl) fw_RX3_19 (sO_30 hS) (congrArg (rfV G) (sR_30_0 hS)) ?_
  refine x_get (v := vI (rd M 1 0)) (dA D_X3_choose 53 rfl) fw_RX3_56 (sO_1 hS) rfl ?_
  obtain ⟨h1, h⟩ := h
  obtain ⟨h2, h⟩ := h
  refine x_icmp_geP (tgt := 196) (dA D_X3_choose 54 rfl) (by decide) h1 h2 ⟨fun c => ?_, fun c => ?_⟩
  · have h := h.1 c
    refine x_iload (dA D_X3_choose 103 rfl) rfl ?_
    exact x_ireturn (dA D_X3_choose 104 rfl) rfl h
  · have h := h.2 c
    refine x_iload (dA D_X3_choose 55 rfl) rfl ?_
    refine x_iload (dA D_X3_choose 56 rfl) rfl ?_
    refine x_ishr (dA D_X3_choose 57 rfl) ?_
    refine x_iconst (dA D_X3_choose 58 rfl) ?_
    refine x_iand (dA D_X3_choose 59 rfl) ?_
    refine x_if_neP (tgt := 115) (dA D_X3_choose 60 rfl) (by decide) (inR_iAnd _ _) ⟨fun c => ?_, fun c => ?_⟩
    · have h := h.1 c
      refine x_bipush (dA D_X3_choose 62 rfl) (by decide) (by decide) ?_
      refine x_iload (dA D_X3_choose 63 rfl) rfl ?_
      refine x_iload (dA D_X3_choose 64 rfl) rfl ?_
      refine x_iadd (dA D_X3_choose 65 rfl) ?_
      refine x_imul (dA D_X3_choose 66 rfl) ?_
      refine x_nmI (fun v3 ev3 => ?_)
      have h := h v3 ev3
      refine x_istore (xs' := [vA 30, vI x1, vI x2, vI x3, vI x4, vI x5, vI x6, vI x7, vI x8, vI x9, vI v3, vU]) (dA D_X3_choose 67 rfl) (by decide) rfl ?_
      refine x_aload_n (dA D_X3_choose 68 rfl) rfl ?_
      refine x_get (v := vA 1) (dA D_X3_choose 69 rfl) fw_RX3_19 (sO_30 hS) (congrArg (rfV G) (sR_30_0 hS)) ?_
      refine x_iload (dA D_X3_choose 70 rfl) rfl ?_
      obtain ⟨h4, h⟩ := h
      obtain ⟨h5, h⟩ := h
      obtain ⟨h6, h⟩ := h
      refine x_callV 3 [vI x9] [] (dA D_X3_choose 71 rfl) cw_RX3_59 rfl rfl (Nat.le_of_ble_eq_true rfl) (by decide) rfl hd1 (zk k) (zk n) (sO_1 hS) (S_X4_isEnd hS h4 h5 h6 (by omega) ?_) (kI (fun _ _ h => h))
      show X G Y_X3_choose d k n 134 [vA 30, vI x1, vI x2, vI x3, vI x4, vI x5, vI x6, vI x7, vI x8, vI x9, vI v3, vU] [vI (if (rd M 4 x9) = 1 then 1 else 0)] M Q
      refine x_if_neB (tgt := 175) (dA D_X3_choose 72 rfl) (by decide) ⟨fun c => ?_, fun c => ?_⟩
      · have h := h.1 c
        refine x_iload (dA D_X3_choose 94 rfl) rfl ?_
        refine x_iload (dA D_X3_choose 95 rfl) rfl ?_
        obtain ⟨h7, h⟩ := h
        obtain ⟨h8, h⟩ := h
        refine x_icmp_leP (tgt := 190) (dA D_X3_choose 96 rfl) (by decide) h7 h8 ⟨fun c => ?_, fun c => ?_⟩
        · have h := h.1 c
          refine x_iinc (xs' := [vA 30, vI x1, vI x2, vI x3, vI x4, vI x5, vI x6, vI x7, vI x8, vI (x9 + 1), vI v3, vU]) (dA D_X3_choose 101 rfl) rfl (by decide) rfl ?_
          refine x_goto (tgt := 90) (dA D_X3_choose 102 rfl) (by decide) ?_
          refine X.weak (xs' := [vA 30, vI x1, vI x2, vI x3, vI x4, vI x5, vI x6, vI x7, vI x8, vI (x9 + 1), vU, vU]) ⟨Or.inl rfl, Or.inl rfl, Or.inl rfl, Or.inl rfl, Or.inl rfl, Or.inl rfl, Or.inl rfl, Or.inl rfl, Or.inl rfl, Or.inl rfl, Or.inr rfl, Or.inl rfl, trivial⟩ ?_
          exact h
        · have h := h.2 c
          refine x_iload (dA D_X3_choose 97 rfl) rfl ?_
          refine x_istore (xs' := [vA 30, vI x1, vI x2, vI x3, vI x4, vI x5, vI x6, vI x7, vI v3, vI x9, vI v3, vU]) (dA D_X3_choose 98 rfl) (by decide) rfl ?_
          refine x_iload (dA D_X3_choose 99 rfl) rfl ?_
          refine x_istore (xs' := [vA 30, vI x1, vI x2, vI x3, vI x4, vI x5, vI x6, vI x9, vI v3, vI x9, vI v3, vU]) (dA D_X3_choose 100 rfl) (by decide) rfl ?_
          refine x_iinc (xs' := [vA 30, vI x1, vI x2, vI x3, vI x4, vI x5, vI x6, vI x9, vI v3, vI (x9 + 1), vI v3, vU]) (dA D_X3_choose 101 rfl) rfl (by decide) rfl ?_
          refine x_goto (tgt := 90) (dA D_X3_choose 102 rfl) (by decide) ?_
          refine X.weak (xs' := [vA 30, vI x1, vI x2, vI x3, vI x4, vI x5, vI x6, vI x9, vI v3, vI (x9 + 1), vU, vU]) ⟨Or.inl rfl, Or.inl rfl, Or.inl rfl, Or.inl rfl, Or.inl rfl, Or.inl rfl, Or.inl rfl, Or.inl rfl, Or.inl rfl, Or.inl rfl, Or.inr rfl, Or.inl rfl, trivial⟩ ?_
          exact h
      · have h := h.2 c
        refine x_aload_n (dA D_X3_choose 73 rfl) rfl ?_
        refine x_get (v := vA 25) (dA D_X3_choose 74 rfl) fw_RX3_23 (sO_30 hS) (congrArg (rfV G) (sR_30_1 hS)) ?_
        refine x_iload_n (dA D_X3_choose 75 rfl) rfl ?_
        refine x_iload_n (dA D_X3_choose 76 rfl) rfl ?_
        refine x_iload (dA D_X3_choose 77 rfl) rfl ?_
        refine x_iload (dA D_X3_choose 78 rfl) rfl ?_
        refine x_iload (dA D_X3_choose 79 rfl) rfl ?_
        obtain ⟨h9, h⟩ := h
        obtain ⟨h10, h⟩ := h
        refine x_callV 7 [vI x2, vI x3, vI x9, vI x4, vI x5] [] (dA D_X3_choose 80 rfl) cw_RX3_63 rfl rfl (Nat.le_of_ble_eq_true rfl) (by decide) rfl hd1 (zk k) (zk n) (sO_25 hS) (T_told hS h9 h10 (by omega) (fun r12 M11 p13 hM11 => ?_)) (kI (fun _ _ h => h))
        have h := h r12 M11 p13 hM11
        show X G Y_X3_choose d k n 152 [vA 30, vI x1, vI x2, vI x3, vI x4, vI x5, vI x6, vI x7, vI x8, vI x9, vI v3, vU] [vI r12] M11 Q
        refine x_istore (xs' := [vA 30, vI x1, vI x2, vI x3, vI x4, vI x5, vI x6, vI x7, vI x8, vI x9, vI v3, vI r12]) (dA D_X3_choose 81 rfl) (by decide) rfl ?_
        refine x_iload (dA D_X3_choose 82 rfl) rfl ?_
        refine x_iload (dA D_X3_choose 83 rfl) rfl ?_
        refine x_iconst (dA D_X3_choose 84 rfl) ?_
        refine x_callS [vI r12, vI 0] [vI x4] (dA D_X3_choose 85 rfl) cw_RX3_69 rfl rfl (Nat.le_of_ble_eq_true rfl) hd1 (zk k) (zk n) (S_X8_chanceOf ⟨by decide, by decide⟩ (by omega) ?_) (kI (fun _ _ h => h))
        show X G Y_X3_choose d k n 162 [vA 30, vI x1, vI x2, vI x3, vI x4, vI x5, vI x6, vI x7, vI x8, vI x9, vI v3, vI r12] [vI (iAnd (if (0 : Int) ≠ 0 then (iShr r12 8) else r12) 127), vI x4] M11 Q
        refine x_imul (dA D_X3_choose 86 rfl) ?_
        refine x_iload (dA D_X3_choose 87 rfl) rfl ?_
        refine x_iload (dA D_X3_choose 88 rfl) rfl ?_
        refine x_iconst (dA D_X3_choose 89 rfl) ?_
        refine x_callS [vI r12, vI 1] [vI x5, vI (x4 * (iAnd (if (0 : Int) ≠ 0 then (iShr r12 8) else r12) 127))] (dA D_X3_choose 90 rfl) cw_RX3_69 rfl rfl (Nat.le_of_ble_eq_true rfl) hd1 (zk k) (zk n) (S_X8_chanceOf ⟨by decide, by decide⟩ (by omega) ?_) (kI (fun _ _ h => h))
        show X G Y_X3_choose d k n 171 [vA 30, vI x1, vI x2, vI x3, vI x4, vI x5, vI x6, vI x7, vI x8, vI x9, vI v3, vI r12] [vI (iAnd (if (1 : Int) ≠ 0 then (iShr r12 8) else r12) 127), vI x5, vI (x4 * (iAnd (if (0 : Int) ≠ 0 then (iShr r12 8) else r12) 127))] M11 Q
        refine x_imul (dA D_X3_choose 91 rfl) ?_
        refine x_iadd (dA D_X3_choose 92 rfl) ?_
        refine x_nmI (fun v14 ev14 => ?_)
        have h := h v14 ev14
        refine x_istore (xs' := [vA 30, vI x1, vI x2, vI x3, vI x4, vI x5, vI x6, vI x7, vI x8, vI x9, vI v14, vI r12]) (dA D_X3_choose 93 rfl) (by decide) rfl ?_
        refine x_iload (dA D_X3_choose 94 rfl) rfl ?_
        refine x_iload (dA D_X3_choose 95 rfl) rfl ?_
        obtain ⟨h15, h⟩ := h
        obtain ⟨h16, h⟩ := h
        refine x_icmp_leP (tgt := 190) (dA D_X3_choose 96 rfl) (by decide) h15 h16 ⟨fun c => ?_, fun c => ?_⟩
        · have h := h.1 c
          refine x_iinc (xs' := [vA 30, vI x1, vI x2, vI x3, vI x4, vI x5, vI x6, vI x7, vI x8, vI (x9 + 1), vI v14, vI r12]) (dA D_X3_choose 101 rfl) rfl (by decide) rfl ?_
          refine x_goto (tgt := 90) (dA D_X3_choose 102 rfl) (by decide) ?_
          refine X.weak (xs' := [vA 30, vI x1, vI x2, vI x3, vI x4, vI x5, vI x6, vI x7, vI x8, vI (x9 + 1), vU, vU]) ⟨Or.inl rfl, Or.inl rfl, Or.inl rfl, Or.inl rfl, Or.inl rfl, Or.inl rfl, Or.inl rfl, Or.inl rfl, Or.inl rfl, Or.inl rfl, Or.inr rfl, Or.inr rfl, trivial⟩ ?_
          exact h
        · have h := h.2 c
          refine x_iload (dA D_X3_choose 97 rfl) rfl ?_
          refine x_istore (xs' := [vA 30, vI x1, vI x2, vI x3, vI x4, vI x5, vI x6, vI x7, vI v14, vI x9, vI v14, vI r12]) (dA D_X3_choose 98 rfl) (by decide) rfl ?_
          refine x_iload (dA D_X3_choose 99 rfl) rfl ?_
          refine x_istore (xs' := [vA 30, vI x1, vI x2, vI x3, vI x4, vI x5, vI x6, vI x9, vI v14, vI x9, vI v14, vI r12]) (dA D_X3_choose 100 rfl) (by decide) rfl ?_
          refine x_iinc (xs' := [vA 30, vI x1, vI x2, vI x3, vI x4, vI x5, vI x6, vI x9, vI v14, vI (x9 + 1), vI v14, vI r12]) (dA D_X3_choose 101 rfl) rfl (by decide) rfl ?_
          refine x_goto (tgt := 90) (dA D_X3_choose 102 rfl) (by decide) ?_
          refine X.weak (xs' := [vA 30, vI x1, vI x2, vI x3, vI x4, vI x5, vI x6, vI x9, vI v14, vI (x9 + 1), vU, vU]) ⟨Or.inl rfl, Or.inl rfl, Or.inl rfl, Or.inl rfl, Or.inl rfl, Or.inl rfl, Or.inl rfl, Or.inl rfl, Or.inl rfl, Or.inl rfl, Or.inr rfl, Or.inr rfl, trivial⟩ ?_
          exact h
    · have h := h.2 c
      refine x_goto (tgt := 190) (dA D_X3_choose 61 rfl) (by decide) ?_
      refine x_iinc (xs' := [vA 30, vI x1, vI x2, vI x3, vI x4, vI x5, vI x6, vI x7, vI x8, vI (x9 + 1), vU, vU]) (dA D_X3_choose 101 rfl) rfl (by decide) rfl ?_
      refine x_goto (tgt := 90) (dA D_X3_choose 102 rfl) (by decide) ?_
      exact h
