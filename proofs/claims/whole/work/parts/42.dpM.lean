set_option maxRecDepth 100000 in
theorem B_X12_chance_0 {G : GG} {d : Nat} {k n : Nat} {x1 x2 x3 x4 x5 x6 : Int} {sm : Int → LSm} {M : MM} {Q : PV → MM → Prop} (hd : 6 ≤ d) (hS : Sh M) (h : inR x1 ∧ RS (rd M 69) ∧ 0 ≤ x3 ∧ x3 < 32 ∧ MOK M sm ∧ (((0 : Int) = 0 ∨ (0 : Int) = 1)) ∧ FR (fcts x1 x2 x4 (x5 + x6) (if x1 ≠ 0 then x6 else x5) (mnO (rd M 69) x3) (pop x3)) ∧ ∀ r13 M12, (Fr KA M M12 ∧ r13 = askV (rd M 69) sm (fcts x1 x2 x4 (x5 + x6) (if x1 ≠ 0 then x6 else x5) (mnO (rd M 69) x3) (pop x3)) (0 : Int)) → Sh M12 → Q (vI r13) M12) : X G Y_X12_chance d k n 0 [vA 67, vI x1, vI x2, vI x3, vI x4, vI x5, vI x6] [] M Q := by
  have hd1 : 1 ≤ d := by omega
  refine x_aload_n (dA D_X12_chance 0 rfl) rfl ?_
  refine x_iconst (dA D_X12_chance 1 rfl) ?_
  refine x_iload_n (dA D_X12_chance 2 rfl) rfl ?_
  refine x_iload_n (dA D_X12_chance 3 rfl) rfl ?_
  refine x_iload (dA D_X12_chance 4 rfl) rfl ?_
  refine x_iload (dA D_X12_chance 5 rfl) rfl ?_
  refine x_iload (dA D_X12_chance 6 rfl) rfl ?_
  refine x_iadd (dA D_X12_chance 7 rfl) ?_
  refine x_iload_n (dA D_X12_chance 8 rfl) rfl ?_
  obtain ⟨h2, h⟩ := h
  have hJ : X G Y_X12_chance d k n 22 [vA 67, vI x1, vI x2, vI x3, vI x4, vI x5, vI x6] [vI (if x1 ≠ 0 then x6 else x5), vI (x5 + x6), vI x4, vI x2, vI x1, vI 0, vA 67] M Q := by
    refine x_aload_n (dA D_X12_chance 13 rfl) rfl ?_
    refine x_iload_n (dA D_X12_chance 14 rfl) rfl ?_
    obtain ⟨h6, h⟩ := h
    refine x_callV 11 [vI x3] [vI (if x1 ≠ 0 then x6 else x5), vI (x5 + x6), vI x4, vI x2, vI x1, vI 0, vA 67] (dA D_X12_chance 15 rfl) cw_RX12_353 rfl rfl (Nat.le_of_ble_eq_true rfl) (by decide) rfl hd1 (zk k) (zk n) (sO_67 hS) (S_X12_minutesOf hS h6 (by omega) ?_) (kI (fun _ _ h => h))
    show X G Y_X12_chance d k n 27 [vA 67, vI x1, vI x2, vI x3, vI x4, vI x5, vI x6] [vI (mnO (rd M 69) x3), vI (if x1 ≠ 0 then x6 else x5), vI (x5 + x6), vI x4, vI x2, vI x1, vI 0, vA 67] M Q
    refine x_iload_n (dA D_X12_chance 16 rfl) rfl ?_
    obtain ⟨h7, h⟩ := h
    obtain ⟨h8, h⟩ := h
    refine x_callS [vI x3] [vI (mnO (rd M 69) x3), vI (if x1 ≠ 0 then x6 else x5), vI (x5 + x6), vI x4, vI x2, vI x1, vI 0, vA 67] (dA D_X12_chance 17 rfl) cw_RX12_367 rfl rfl (Nat.le_of_ble_eq_true rfl) hd1 (zk k) (zk n) (S_X12_bits h7 h8 (by omega) ?_) (kI (fun _ _ h => h))
    show X G Y_X12_chance d k n 31 [vA 67, vI x1, vI x2, vI x3, vI x4, vI x5, vI x6] [vI (pop x3), vI (mnO (rd M 69) x3), vI (if x1 ≠ 0 then x6 else x5), vI (x5 + x6), vI x4, vI x2, vI x1, vI 0, vA 67] M Q
    obtain ⟨h9, h⟩ := h
    obtain ⟨h10, h⟩ := h
    obtain ⟨h11, h⟩ := h
    refine x_callV 11 [vI 0, vI x1, vI x2, vI x4, vI (x5 + x6), vI (if x1 ≠ 0 then x6 else x5), vI (mnO (rd M 69) x3), vI (pop x3)] [] (dA D_X12_chance 18 rfl) cw_RX12_346 rfl rfl (Nat.le_of_ble_eq_true rfl) (by decide) rfl hd1 (zk k) (zk n) (sO_67 hS) (T_X12_ask hS h9 h10 h11 (by omega) (fun r13 M12 p14 hM12 => ?_)) (kI (fun _ _ h => h))
    have h := h r13 M12 p14 hM12
    show X G Y_X12_chance d k n 34 [vA 67, vI x1, vI x2, vI x3, vI x4, vI x5, vI x6] [vI r13] M12 Q
    exact x_ireturn (dA D_X12_chance 19 rfl) rfl h
  refine x_if_neP (tgt := 20) (dA D_X12_chance 9 rfl) (by decide) h2 ⟨fun c1 => ?_, fun c1 => ?_⟩
  · refine x_iload (dA D_X12_chance 12 rfl) rfl ?_
    rw [if_pos c1] at hJ
    exact hJ
  · refine x_iload (dA D_X12_chance 10 rfl) rfl ?_
    refine x_goto (tgt := 22) (dA D_X12_chance 11 rfl) (by decide) ?_
    rw [if_neg (by first | omega | grind)] at hJ
    exact hJ
theorem C_X12_chance {G : GG} {d : Nat} {x1 x2 x3 x4 x5 x6 : Int} {M : MM} {Q : PV → MM → Prop} (h : X G Y_X12_chance d 0 0 0 [vA 67, vI x1, vI x2, vI x3, vI x4, vI x5, vI x6] [] M Q) : C G Y_X12_chance d 0 0 [vA 67, vI x1, vI x2, vI x3, vI x4, vI x5, vI x6] M Q := X.entry (by decide) (Nat.le_of_ble_eq_true rfl) rfl rfl rfl h
set_option maxRecDepth 100000 in
theorem B_X12_brings_0 {G : GG} {d : Nat} {k n : Nat} {x1 x2 x3 x4 x5 x6 : Int} {M : MM} {Q : PV → MM → Prop} (hd : 2 ≤ d) (hS : Sh M) (h : 0 ≤ ((10 + (3 * x2)) + (2 : Int)) ∧ ((10 + (3 * x2)) + (2 : Int)) < 5460 ∧ inR (rd M 69 ((10 + (3 * x2)) + (2 : Int))) ∧ ∀ v8, v8 = (if (rd M 69 ((10 + (3 * x2)) + (2 : Int))) = 1 then 1 else 0) → inR x1 ∧ ((8 ≤ x1 → X G Y_X12_brings d k n 78 [vA 67, vI x1, vI x2, vI x3, vI x4, vI x5, vI x6, vI v8, vL 0, vU, vI 0, vU, vU, vU] [] M Q) ∧ (x1 < 8 → ((5 ≤ x1 → inR v8 ∧ ((v8 = 0 → Q (vL 0) M) ∧ (v8 ≠ 0 → ((x1 ≠ 6 → inR (x5 + x6) ∧ Q (vL (if x1 ≠ 5 then (x5 + x6) else 1)) M) ∧ (x1 = 6 → Q (vL 0) M))))) ∧ (x1 < 5 → inR x2 ∧ Q (vL (if x1 ≠ x2 then 0 else 1)) M))))) : X G Y_X12_brings d k n 0 [vA 67, vI x1, vI x2, vI x3, vI x4, vI x5, vI x6, vU, vU, vU, vU, vU, vU, vU] [] M Q := by
  have hd1 : 1 ≤ d := by omega
  refine x_aload_n (dA D_X12_brings 0 rfl) rfl ?_
  refine x_iload_n (dA D_X12_brings 1 rfl) rfl ?_
  refine x_iconst (dA D_X12_brings 2 rfl) ?_
  obtain ⟨h1, h⟩ := h
  obtain ⟨h2, h⟩ := h
  refine x_callV 11 [vI x2, vI 2] [] (dA D_X12_brings 3 rfl) cw_RX12_350 rfl rfl (Nat.le_of_ble_eq_true rfl) (by decide) rfl hd1 (zk k) (zk n) (sO_67 hS) (S_X12_ofScene hS h1 h2 (by omega) ?_) (kI (fun _ _ h => h))
  show X G Y_X12_brings d k n 6 [vA 67, vI x1, vI x2, vI x3, vI x4, vI x5, vI x6, vU, vU, vU, vU, vU, vU, vU] [vI (rd M 69 ((10 + (3 * x2)) + (2 : Int)))] M Q
  refine x_iconst (dA D_X12_brings 4 rfl) ?_
  obtain ⟨h4, h⟩ := h
  have hJ : X G Y_X12_brings d k n 15 [vA 67, vI x1, vI x2, vI x3, vI x4, vI x5, vI x6, vU, vU, vU, vU, vU, vU, vU] [vI (if (rd M 69 ((10 + (3 * x2)) + (2 : Int))) = 1 then 1 else 0)] M Q := by
    refine x_nmI (fun v8 ev8 => ?_)
    have h := h v8 ev8
    refine x_istore (xs' := [vA 67, vI x1, vI x2, vI x3, vI x4, vI x5, vI x6, vI v8, vU, vU, vU, vU, vU, vU]) (dA D_X12_brings 9 rfl) (by decide) rfl ?_
    refine x_iload_n (dA D_X12_brings 10 rfl) rfl ?_
    refine x_bipush (dA D_X12_brings 11 rfl) (by decide) (by decide) ?_
    obtain ⟨h9, h⟩ := h
    refine x_icmp_geP (tgt := 72) (dA D_X12_brings 12 rfl) (by decide) h9 ⟨by decide, by decide⟩ ⟨fun c => ?_, fun c => ?_⟩
    · have h := h.1 c
      refine x_lconst (a := 0) (dA D_X12_brings 40 rfl) (by decide) ?_
      refine x_lstore (xs' := [vA 67, vI x1, vI x2, vI x3, vI x4, vI x5, vI x6, vI v8, vL 0, vU, vU, vU, vU, vU]) (dA D_X12_brings 41 rfl) (by decide) rfl ?_
      refine x_iconst (dA D_X12_brings 42 rfl) ?_
      refine x_istore (xs' := [vA 67, vI x1, vI x2, vI x3, vI x4, vI x5, vI x6, vI v8, vL 0, vU, vI 0, vU, vU, vU]) (dA D_X12_brings 43 rfl) (by decide) rfl ?_
      exact h
    · have h := h.2 c
      refine x_iload_n (dA D_X12_brings 13 rfl) rfl ?_
      refine x_iconst (dA D_X12_brings 14 rfl) ?_
      refine x_icmp_geP (tgt := 41) (dA D_X12_brings 15 rfl) (by decide) h9 ⟨by decide, by decide⟩ ⟨fun c => ?_, fun c => ?_⟩
      · have h := h.1 c
        refine x_iload (dA D_X12_brings 23 rfl) rfl ?_
        obtain ⟨h10, h⟩ := h
        refine x_if_eqP (tgt := 52) (dA D_X12_brings 24 rfl) (by decide) h10 ⟨fun c => ?_, fun c => ?_⟩
        · have h := h.1 c
          refine x_lconst (a := 0) (dA D_X12_brings 28 rfl) (by decide) ?_
          refine x_goto (tgt := 71) (dA D_X12_brings 29 rfl) (by decide) ?_
          exact x_lreturn (dA D_X12_brings 39 rfl) rfl h
        · have h := h.2 c
          refine x_iload_n (dA D_X12_brings 25 rfl) rfl ?_
          refine x_bipush (dA D_X12_brings 26 rfl) (by decide) (by decide) ?_
          refine x_icmp_neP (tgt := 56) (dA D_X12_brings 27 rfl) (by decide) h9 ⟨by decide, by decide⟩ ⟨fun c => ?_, fun c => ?_⟩
          · have h := h.1 c
            refine x_iload_n (dA D_X12_brings 30 rfl) rfl ?_
            refine x_iconst (dA D_X12_brings 31 rfl) ?_
            obtain ⟨h16, h⟩ := h
            have hJ : X G Y_X12_brings d k n 71 [vA 67, vI x1, vI x2, vI x3, vI x4, vI x5, vI x6, vI v8, vU, vU, vU, vU, vU, vU] [vL (if x1 ≠ 5 then (x5 + x6) else 1)] M Q := by
              exact x_lreturn (dA D_X12_brings 39 rfl) rfl h
            refine x_icmp_neP (tgt := 65) (dA D_X12_brings 32 rfl) (by decide) h9 ⟨by decide, by decide⟩ ⟨fun c11 => ?_, fun c11 => ?_⟩
            · refine x_iload (dA D_X12_brings 35 rfl) rfl ?_
              refine x_iload (dA D_X12_brings 36 rfl) rfl ?_
              refine x_iadd (dA D_X12_brings 37 rfl) ?_
              refine x_i2l (dA D_X12_brings 38 rfl) h16 ?_
              rw [if_pos c11] at hJ
              exact hJ
            · refine x_lconst (a := 1) (dA D_X12_brings 33 rfl) (by decide) ?_
              refine x_goto (tgt := 71) (dA D_X12_brings 34 rfl) (by decide) ?_
              rw [if_neg (by first | omega | grind)] at hJ
              exact hJ
          · have h := h.2 c
            refine x_lconst (a := 0) (dA D_X12_brings 28 rfl) (by decide) ?_
            refine x_goto (tgt := 71) (dA D_X12_brings 29 rfl) (by decide) ?_
            exact x_lreturn (dA D_X12_brings 39 rfl) rfl h
      · have h := h.2 c
        refine x_iload_n (dA D_X12_brings 16 rfl) rfl ?_
        refine x_iload_n (dA D_X12_brings 17 rfl) rfl ?_
        obtain ⟨h20, h⟩ := h
        have hJ : X G Y_X12_brings d k n 71 [vA 67, vI x1, vI x2, vI x3, vI x4, vI x5, vI x6, vI v8, vU, vU, vU, vU, vU, vU] [vL (if x1 ≠ x2 then 0 else 1)] M Q := by
          exact x_lreturn (dA D_X12_brings 39 rfl) rfl h
        refine x_icmp_neP (tgt := 37) (dA D_X12_brings 18 rfl) (by decide) h9 h20 ⟨fun c19 => ?_, fun c19 => ?_⟩
        · refine x_lconst (a := 0) (dA D_X12_brings 21 rfl) (by decide) ?_
          refine x_goto (tgt := 71) (dA D_X12_brings 22 rfl) (by decide) ?_
          rw [if_pos c19] at hJ
          exact hJ
        · refine x_lconst (a := 1) (dA D_X12_brings 19 rfl) (by decide) ?_
          refine x_goto (tgt := 71) (dA D_X12_brings 20 rfl) (by decide) ?_
          rw [if_neg (by first | omega | grind)] at hJ
          exact hJ
  refine x_icmp_neP (tgt := 14) (dA D_X12_brings 5 rfl) (by decide) h4 ⟨by decide, by decide⟩ ⟨fun c3 => ?_, fun c3 => ?_⟩
  · refine x_iconst (dA D_X12_brings 8 rfl) ?_
    have e0 : (if (rd M 69 ((10 + (3 * x2)) + (2 : Int))) = 1 then (1 : Int) else 0) = 0 := if_neg (by first | omega | grind)
    rw [e0] at hJ
    exact hJ
  · refine x_iconst (dA D_X12_brings 6 rfl) ?_
    refine x_goto (tgt := 15) (dA D_X12_brings 7 rfl) (by decide) ?_
    have e0 : (if (rd M 69 ((10 + (3 * x2)) + (2 : Int))) = 1 then (1 : Int) else 0) = 1 := if_pos (by first | omega | grind)
    rw [e0] at hJ
    exact hJ
theorem C_X12_brings {G : GG} {d : Nat} {x1 x2 x3 x4 x5 x6 : Int} {M : MM} {Q : PV → MM → Prop} (h : X G Y_X12_brings d 0 0 0 [vA 67, vI x1, vI x2, vI x3, vI x4, vI x5, vI x6, vU, vU, vU, vU, vU, vU, vU] [] M Q) : C G Y_X12_brings d 0 0 [vA 67, vI x1, vI x2, vI x3, vI x4, vI x5, vI x6] M Q := X.entry (by decide) (Nat.le_of_ble_eq_true rfl) rfl rfl rfl h
set_option maxRecDepth 100000 in
theorem B_X12_brings_78 {G : GG} {d : Nat} {k n : Nat} {x1 x2 x3 x4 x5 x6 x7 x8 x10 : Int} {sm : Int → LSm} {M : MM} {Q : PV → MM → Prop} (hd : 6 ≤ d) (hS : Sh M) (h : inR x10 ∧ ((2 ≤ x10 → Q (vL x8) M) ∧ (x10 < 2 → ∀ v6, v6 = (if x10 ≠ 0 then x6 else x5) → inR (rd M 67 39) ∧ (((((rd M 67 39) = (-1)) ∨ ((rd M 67 39) = x10)) → X G Y_X12_brings d k n 115 [vA 67, vI x1, vI x2, vI x3, vI x4, vI x5, vI x6, vI x7, vL x8, vU, vI x10, vI v6, vU, vU] [] M Q) ∧ (¬ (((rd M 67 39) = (-1)) ∨ ((rd M 67 39) = x10)) → inR v6 ∧ RS (rd M 69) ∧ (((((rd M 67 39) ≠ (-1)) ∨ (v6 ≤ 0)) → X G Y_X12_brings d k n 177 [vA 67, vI x1, vI x2, vI x3, vI x4, vI x5, vI x6, vI x7, vL x8, vU, vI x10, vI v6, vI 0, vU] [] M Q) ∧ (¬ (((rd M 67 39) ≠ (-1)) ∨ (v6 ≤ 0)) → 0 ≤ x3 ∧ x3 < 32 ∧ MOK M sm ∧ (((1 : Int) = 0 ∨ (1 : Int) = 1)) ∧ FR (fcts x10 x2 x4 (x5 + x6) v6 (mnO (rd M 69) x3) (pop x3)) ∧ ∀ r39 M38, (Fr KA M M38 ∧ r39 = askV (rd M 69) sm (fcts x10 x2 x4 (x5 + x6) v6 (mnO (rd M 69) x3) (pop x3)) (1 : Int)) → Sh M38 → 0 ≤ ((10 + (3 * x2)) + (0 : Int)) ∧ ((10 + (3 * x2)) + (0 : Int)) < 5460 ∧ inR x7 ∧ inR ((((0 * (rd M38 69 40)) * (rd M38 69 ((10 + (3 * x2)) + (0 : Int)))) + r39) + (if x7 = 0 then 0 else (0 * (rd M38 69 41)))) ∧ ∀ v54, v54 = x8 + (v6 * ((((0 * (rd M38 69 40)) * (rd M38 69 ((10 + (3 * x2)) + (0 : Int)))) + r39) + (if x7 = 0 then 0 else (0 * (rd M38 69 41))))) → X G Y_X12_brings d k n 78 [vA 67, vI x1, vI x2, vI x3, vI x4, vI x5, vI x6, vI x7, vL v54, vU, vI (x10 + 1), vU, vU, vU] [] M38 Q))))))) : X G Y_X12_brings d k n 78 [vA 67, vI x1, vI x2, vI x3, vI x4, vI x5, vI x6, vI x7, vL x8, vU, vI x10, vU, vU, vU] [] M Q := by
  have hd1 : 1 ≤ d := by omega
  refine x_iload (dA D_X12_brings 44 rfl) rfl ?_
  refine x_iconst (dA D_X12_brings 45 rfl) ?_
  obtain ⟨h1, h⟩ := h
  refine x_icmp_geP (tgt := 236) (dA D_X12_brings 46 rfl) (by decide) h1 ⟨by decide, by decide⟩ ⟨fun c => ?_, fun c => ?_⟩
  · have h := h.1 c
    refine x_lload (dA D_X12_brings 131 rfl) rfl ?_
    exact x_lreturn (dA D_X12_brings 132 rfl) rfl h
  · have h := h.2 c
    refine x_iload (dA D_X12_brings 47 rfl) rfl ?_
    have hJ : X G Y_X12_brings d k n 96 [vA 67, vI x1, vI x2, vI x3, vI x4, vI x5, vI x6, vI x7, vL x8, vU, vI x10, vU, vU, vU] [vI (if x10 ≠ 0 then x6 else x5)] M Q := by
      refine x_nmI (fun v6 ev6 => ?_)
      have h := h v6 ev6
      refine x_istore (xs' := [vA 67, vI x1, vI x2, vI x3, vI x4, vI x5, vI x6, vI x7, vL x8, vU, vI x10, vI v6, vU, vU]) (dA D_X12_brings 52 rfl) (by decide) rfl ?_
      refine x_aload_n (dA D_X12_brings 53 rfl) rfl ?_
      refine x_get (v := vI (rd M 67 39)) (dA D_X12_brings 54 rfl) fw_RX12_91 (sO_67 hS) rfl ?_
      refine x_iconst (dA D_X12_brings 55 rfl) ?_
      obtain ⟨h8, h⟩ := h
      have hA : (((rd M 67 39) = (-1)) ∨ ((rd M 67 39) = x10)) → X G Y_X12_brings d k n 115 [vA 67, vI x1, vI x2, vI x3, vI x4, vI x5, vI x6, vI x7, vL x8, vU, vI x10, vI v6, vU, vU] [] M Q := by
        intro c56
        have h := h.1 c56
        exact h
      have hB : ¬ (((rd M 67 39) = (-1)) ∨ ((rd M 67 39) = x10)) → X G Y_X12_brings d k n 133 [vA 67, vI x1, vI x2, vI x3, vI x4, vI x5, vI x6, vI x7, vL x8, vU, vI x10, vI v6, vU, vU] [vI 0] M Q := by
        intro c56
        have h := h.2 c56
        refine x_istore (xs' := [vA 67, vI x1, vI x2, vI x3, vI x4, vI x5, vI x6, vI x7, vL x8, vU, vI x10, vI v6, vI 0, vU]) (dA D_X12_brings 73 rfl) (by decide) rfl ?_
        refine x_aload_n (dA D_X12_brings 74 rfl) rfl ?_
        refine x_get (v := vI (rd M 67 39)) (dA D_X12_brings 75 rfl) fw_RX12_91 (sO_67 hS) rfl ?_
        refine x_iconst (dA D_X12_brings 76 rfl) ?_
        obtain ⟨h17, h⟩ := h
        obtain ⟨h30, h⟩ := h
        have hA : (((rd M 67 39) ≠ (-1)) ∨ (v6 ≤ 0)) → X G Y_X12_brings d k n 177 [vA 67, vI x1, vI x2, vI x3, vI x4, vI x5, vI x6, vI x7, vL x8, vU, vI x10, vI v6, vI 0, vU] [] M Q := by
          intro c55
          have h := h.1 c55
          exact h
        have hB : ¬ (((rd M 67 39) ≠ (-1)) ∨ (v6 ≤ 0)) → X G Y_X12_brings d k n 148 [vA 67, vI x1, vI x2, vI x3, vI x4, vI x5, vI x6, vI x7, vL x8, vU, vI x10, vI v6, vI 0, vU] [] M Q := by
          intro c55
          have h := h.2 c55
          refine x_aload_n (dA D_X12_brings 80 rfl) rfl ?_
          refine x_iconst (dA D_X12_brings 81 rfl) ?_
          refine x_iload (dA D_X12_brings 82 rfl) rfl ?_
          refine x_iload_n (dA D_X12_brings 83 rfl) rfl ?_
          refine x_iload (dA D_X12_brings 84 rfl) rfl ?_
          refine x_iload (dA D_X12_brings 85 rfl) rfl ?_
          refine x_iload (dA D_X12_brings 86 rfl) rfl ?_
          refine x_iadd (dA D_X12_brings 87 rfl) ?_
          refine x_iload (dA D_X12_brings 88 rfl) rfl ?_
          refine x_aload_n (dA D_X12_brings 89 rfl) rfl ?_
          refine x_iload_n (dA D_X12_brings 90 rfl) rfl ?_
          refine x_callV 11 [vI x3] [vI v6, vI (x5 + x6), vI x4, vI x2, vI x10, vI 1, vA 67] (dA D_X12_brings 91 rfl) cw_RX12_353 rfl rfl (Nat.le_of_ble_eq_true rfl) (by decide) rfl hd1 (zk k) (zk n) (sO_67 hS) (S_X12_minutesOf hS h30 (by omega) ?_) (kI (fun _ _ h => h))
          show X G Y_X12_brings d k n 167 [vA 67, vI x1, vI x2, vI x3, vI x4, vI x5, vI x6, vI x7, vL x8, vU, vI x10, vI v6, vI 0, vU] [vI (mnO (rd M 69) x3), vI v6, vI (x5 + x6), vI x4, vI x2, vI x10, vI 1, vA 67] M Q
          refine x_iload_n (dA D_X12_brings 92 rfl) rfl ?_
          obtain ⟨h33, h⟩ := h
          obtain ⟨h34, h⟩ := h
          refine x_callS [vI x3] [vI (mnO (rd M 69) x3), vI v6, vI (x5 + x6), vI x4, vI x2, vI x10, vI 1, vA 67] (dA D_X12_brings 93 rfl) cw_RX12_367 rfl rfl (Nat.le_of_ble_eq_true rfl) hd1 (zk k) (zk n) (S_X12_bits h33 h34 (by omega) ?_) (kI (fun _ _ h => h))
          show X G Y_X12_brings d k n 171 [vA 67, vI x1, vI x2, vI x3, vI x4, vI x5, vI x6, vI x7, vL x8, vU, vI x10, vI v6, vI 0, vU] [vI (pop x3), vI (mnO (rd M 69) x3), vI v6, vI (x5 + x6), vI x4, vI x2, vI x10, vI 1, vA 67] M Q
          obtain ⟨h35, h⟩ := h
          obtain ⟨h36, h⟩ := h
          obtain ⟨h37, h⟩ := h
          refine x_callV 11 [vI 1, vI x10, vI x2, vI x4, vI (x5 + x6), vI v6, vI (mnO (rd M 69) x3), vI (pop x3)] [] (dA D_X12_brings 94 rfl) cw_RX12_346 rfl rfl (Nat.le_of_ble_eq_true rfl) (by decide) rfl hd1 (zk k) (zk n) (sO_67 hS) (T_X12_ask hS h35 h36 h37 (by omega) (fun r39 M38 p40 hM38 => ?_)) (kI (fun _ _ h => h))
          have h := h r39 M38 p40 hM38
          show X G Y_X12_brings d k n 174 [vA 67, vI x1, vI x2, vI x3, vI x4, vI x5, vI x6, vI x7, vL x8, vU, vI x10, vI v6, vI 0, vU] [vI r39] M38 Q
          refine x_goto (tgt := 178) (dA D_X12_brings 95 rfl) (by decide) ?_
          refine x_istore (xs' := [vA 67, vI x1, vI x2, vI x3, vI x4, vI x5, vI x6, vI x7, vL x8, vU, vI x10, vI v6, vI 0, vI r39]) (dA D_X12_brings 97 rfl) (by decide) rfl ?_
          refine x_lload (dA D_X12_brings 98 rfl) rfl ?_
          refine x_iload (dA D_X12_brings 99 rfl) rfl ?_
          refine x_i2l (dA D_X12_brings 100 rfl) h17 ?_
          refine x_iload (dA D_X12_brings 101 rfl) rfl ?_
          refine x_aload_n (dA D_X12_brings 102 rfl) rfl ?_
          refine x_get (v := vA 69) (dA D_X12_brings 103 rfl) fw_RX12_13 (sO_67 hM38) (congrArg (rfV G) (sR_67_3 hM38)) ?_
          refine x_bipush (dA D_X12_brings 104 rfl) (by decide) (by decide) ?_
          refine x_iald (dA D_X12_brings 105 rfl) (sA_69 hM38 (by decide) (by decide)) ?_
          refine x_imul (dA D_X12_brings 106 rfl) ?_
          refine x_aload_n (dA D_X12_brings 107 rfl) rfl ?_
          refine x_iload_n (dA D_X12_brings 108 rfl) rfl ?_
          refine x_iconst (dA D_X12_brings 109 rfl) ?_
          obtain ⟨h41, h⟩ := h
          obtain ⟨h42, h⟩ := h
          refine x_callV 11 [vI x2, vI 0] [vI (0 * (rd M38 69 40)), vL v6, vL x8] (dA D_X12_brings 110 rfl) cw_RX12_350 rfl rfl (Nat.le_of_ble_eq_true rfl) (by decide) rfl hd1 (zk k) (zk n) (sO_67 hM38) (S_X12_ofScene hM38 h41 h42 (by omega) ?_) (kI (fun _ _ h => h))
          show X G Y_X12_brings d k n 201 [vA 67, vI x1, vI x2, vI x3, vI x4, vI x5, vI x6, vI x7, vL x8, vU, vI x10, vI v6, vI 0, vI r39] [vI (rd M38 69 ((10 + (3 * x2)) + (0 : Int))), vI (0 * (rd M38 69 40)), vL v6, vL x8] M38 Q
          refine x_imul (dA D_X12_brings 111 rfl) ?_
          refine x_iload (dA D_X12_brings 112 rfl) rfl ?_
          refine x_iadd (dA D_X12_brings 113 rfl) ?_
          refine x_iload (dA D_X12_brings 114 rfl) rfl ?_
          obtain ⟨h44, h⟩ := h
          have hJ : X G Y_X12_brings d k n 224 [vA 67, vI x1, vI x2, vI x3, vI x4, vI x5, vI x6, vI x7, vL x8, vU, vI x10, vI v6, vI 0, vI r39] [vI (if x7 = 0 then 0 else (0 * (rd M38 69 41))), vI (((0 * (rd M38 69 40)) * (rd M38 69 ((10 + (3 * x2)) + (0 : Int)))) + r39), vL v6, vL x8] M38 Q := by
            refine x_iadd (dA D_X12_brings 124 rfl) ?_
            obtain ⟨h53, h⟩ := h
            refine x_i2l (dA D_X12_brings 125 rfl) h53 ?_
            refine x_lmul (dA D_X12_brings 126 rfl) ?_
            refine x_ladd (dA D_X12_brings 127 rfl) ?_
            refine x_nmL (fun v54 ev54 => ?_)
            have h := h v54 ev54
            refine x_lstore (xs' := [vA 67, vI x1, vI x2, vI x3, vI x4, vI x5, vI x6, vI x7, vL v54, vU, vI x10, vI v6, vI 0, vI r39]) (dA D_X12_brings 128 rfl) (by decide) rfl ?_
            refine x_iinc (xs' := [vA 67, vI x1, vI x2, vI x3, vI x4, vI x5, vI x6, vI x7, vL v54, vU, vI (x10 + 1), vI v6, vI 0, vI r39]) (dA D_X12_brings 129 rfl) rfl (by decide) rfl ?_
            refine x_goto (tgt := 78) (dA D_X12_brings 130 rfl) (by decide) ?_
            refine X.weak (xs' := [vA 67, vI x1, vI x2, vI x3, vI x4, vI x5, vI x6, vI x7, vL v54, vU, vI (x10 + 1), vU, vU, vU]) ⟨Or.inl rfl, Or.inl rfl, Or.inl rfl, Or.inl rfl, Or.inl rfl, Or.inl rfl, Or.inl rfl, Or.inl rfl, Or.inl rfl, Or.inl rfl, Or.inl rfl, Or.inr rfl, Or.inr rfl, Or.inr rfl, trivial⟩ ?_
            exact h
          refine x_if_eqP (tgt := 223) (dA D_X12_brings 115 rfl) (by decide) h44 ⟨fun c43 => ?_, fun c43 => ?_⟩
          · refine x_iconst (dA D_X12_brings 123 rfl) ?_
            rw [if_pos c43] at hJ
            exact hJ
          · refine x_iload (dA D_X12_brings 116 rfl) rfl ?_
            refine x_aload_n (dA D_X12_brings 117 rfl) rfl ?_
            refine x_get (v := vA 69) (dA D_X12_brings 118 rfl) fw_RX12_13 (sO_67 hM38) (congrArg (rfV G) (sR_67_3 hM38)) ?_
            refine x_bipush (dA D_X12_brings 119 rfl) (by decide) (by decide) ?_
            refine x_iald (dA D_X12_brings 120 rfl) (sA_69 hM38 (by decide) (by decide)) ?_
            refine x_imul (dA D_X12_brings 121 rfl) ?_
            refine x_goto (tgt := 224) (dA D_X12_brings 122 rfl) (by decide) ?_
            rw [if_neg (by first | omega | grind)] at hJ
            exact hJ
        refine x_icmp_neP (tgt := 177) (dA D_X12_brings 77 rfl) (by decide) h8 ⟨by decide, by decide⟩ ⟨fun c14 => ?_, fun c14 => ?_⟩
        · exact hA (by first | omega | grind)
        · refine x_iload (dA D_X12_brings 78 rfl) rfl ?_
          refine x_if_leP (tgt := 177) (dA D_X12_brings 79 rfl) (by decide) h17 ⟨fun c16 => ?_, fun c16 => ?_⟩
          · exact hA (by first | omega | grind)
          · exact hB (by first | omega | grind)
      refine x_icmp_eqP (tgt := 115) (dA D_X12_brings 56 rfl) (by decide) h8 ⟨by decide, by decide⟩ ⟨fun c7 => ?_, fun c7 => ?_⟩
      · exact hA (by first | omega | grind)
      · refine x_aload_n (dA D_X12_brings 57 rfl) rfl ?_
        refine x_get (v := vI (rd M 67 39)) (dA D_X12_brings 58 rfl) fw_RX12_91 (sO_67 hS) rfl ?_
        refine x_iload (dA D_X12_brings 59 rfl) rfl ?_
        refine x_icmp_neP (tgt := 132) (dA D_X12_brings 60 rfl) (by decide) h8 h1 ⟨fun c12 => ?_, fun c12 => ?_⟩
        · refine x_iconst (dA D_X12_brings 72 rfl) ?_
          exact hB (by first | omega | grind)
        · exact hA (by first | omega | grind)
    refine x_if_neP (tgt := 94) (dA D_X12_brings 48 rfl) (by decide) h1 ⟨fun c2 => ?_, fun c2 => ?_⟩
    · refine x_iload (dA D_X12_brings 51 rfl) rfl ?_
      rw [if_pos c2] at hJ
      exact hJ
    · refine x_iload (dA D_X12_brings 49 rfl) rfl ?_
      refine x_goto (tgt := 96) (dA D_X12_brings 50 rfl) (by decide) ?_
      rw [if_neg (by first | omega | grind)] at hJ
      exact hJ
set_option maxRecDepth 100000 in
theorem B_X12_brings_115 {G : GG} {d : Nat} {k n : Nat} {x1 x2 x3 x4 x5 x6 x7 x8 x10 x11 : Int} {sm : Int → LSm} {M : MM} {Q : PV → MM → Prop} (hd : 6 ≤ d) (hS : Sh M) (h : 0 ≤ ((30 + (3 * x10)) + 1) ∧ ((30 + (3 * x10)) + 1) < 5460 ∧ ∀ v3, v3 = rd M 69 ((30 + (3 * x10)) + 1) → inR (rd M 67 39) ∧ inR x11 ∧ RS (rd M 69) ∧ (((((rd M 67 39) ≠ (-1)) ∨ (x11 ≤ 0)) → X G Y_X12_brings d k n 177 [vA 67, vI x1, vI x2, vI x3, vI x4, vI x5, vI x6, vI x7, vL x8, vU, vI x10, vI x11, vI v3, vU] [] M Q) ∧ (¬ (((rd M 67 39) ≠ (-1)) ∨ (x11 ≤ 0)) → 0 ≤ x3 ∧ x3 < 32 ∧ MOK M sm ∧ (((1 : Int) = 0 ∨ (1 : Int) = 1)) ∧ FR (fcts x10 x2 x4 (x5 + x6) x11 (mnO (rd M 69) x3) (pop x3)) ∧ ∀ r30 M29, (Fr KA M M29 ∧ r30 = askV (rd M 69) sm (fcts x10 x2 x4 (x5 + x6) x11 (mnO (rd M 69) x3) (pop x3)) (1 : Int)) → Sh M29 → 0 ≤ ((10 + (3 * x2)) + (0 : Int)) ∧ ((10 + (3 * x2)) + (0 : Int)) < 5460 ∧ inR x7 ∧ inR ((((v3 * (rd M29 69 40)) * (rd M29 69 ((10 + (3 * x2)) + (0 : Int)))) + r30) + (if x7 = 0 then 0 else (v3 * (rd M29 69 41)))) ∧ ∀ v45, v45 = x8 + (x11 * ((((v3 * (rd M29 69 40)) * (rd M29 69 ((10 + (3 * x2)) + (0 : Int)))) + r30) + (if x7 = 0 then 0 else (v3 * (rd M29 69 41))))) → X G Y_X12_brings d k n 78 [vA 67, vI x1, vI x2, vI x3, vI x4, vI x5, vI x6, vI x7, vL v45, vU, vI (x10 + 1), vU, vU, vU] [] M29 Q))) : X G Y_X12_brings d k n 115 [vA 67, vI x1, vI x2, vI x3, vI x4, vI x5, vI x6, vI x7, vL x8, vU, vI x10, vI x11, vU, vU] [] M Q := by
  have hd1 : 1 ≤ d := by omega
  refine x_aload_n (dA D_X12_brings 61 rfl) rfl ?_
  refine x_get (v := vA 69) (dA D_X12_brings 62 rfl) fw_RX12_13 (sO_67 hS) (congrArg (rfV G) (sR_67_3 hS)) ?_
  refine x_bipush (dA D_X12_brings 63 rfl) (by decide) (by decide) ?_
  refine x_iconst (dA D_X12_brings 64 rfl) ?_
  refine x_iload (dA D_X12_brings 65 rfl) rfl ?_
  refine x_imul (dA D_X12_brings 66 rfl) ?_
  refine x_iadd (dA D_X12_brings 67 rfl) ?_
  refine x_iconst (dA D_X12_brings 68 rfl) ?_
  refine x_iadd (dA D_X12_brings 69 rfl) ?_
  obtain ⟨h1, h⟩ := h
  obtain ⟨h2, h⟩ := h
  refine x_iald (dA D_X12_brings 70 rfl) (sA_69 hS h1 h2) ?_
  refine x_goto (tgt := 133) (dA D_X12_brings 71 rfl) (by decide) ?_
  refine x_nmI (fun v3 ev3 => ?_)
  have h := h v3 ev3
  refine x_istore (xs' := [vA 67, vI x1, vI x2, vI x3, vI x4, vI x5, vI x6, vI x7, vL x8, vU, vI x10, vI x11, vI v3, vU]) (dA D_X12_brings 73 rfl) (by decide) rfl ?_
  refine x_aload_n (dA D_X12_brings 74 rfl) rfl ?_
  refine x_get (v := vI (rd M 67 39)) (dA D_X12_brings 75 rfl) fw_RX12_91 (sO_67 hS) rfl ?_
  refine x_iconst (dA D_X12_brings 76 rfl) ?_
  obtain ⟨h5, h⟩ := h
  obtain ⟨h8, h⟩ := h
  obtain ⟨h21, h⟩ := h
  have hA : (((rd M 67 39) ≠ (-1)) ∨ (x11 ≤ 0)) → X G Y_X12_brings d k n 177 [vA 67, vI x1, vI x2, vI x3, vI x4, vI x5, vI x6, vI x7, vL x8, vU, vI x10, vI x11, vI v3, vU] [] M Q := by
    intro c46
    have h := h.1 c46
    exact h
  have hB : ¬ (((rd M 67 39) ≠ (-1)) ∨ (x11 ≤ 0)) → X G Y_X12_brings d k n 148 [vA 67, vI x1, vI x2, vI x3, vI x4, vI x5, vI x6, vI x7, vL x8, vU, vI x10, vI x11, vI v3, vU] [] M Q := by
    intro c46
    have h := h.2 c46
    refine x_aload_n (dA D_X12_brings 80 rfl) rfl ?_
    refine x_iconst (dA D_X12_brings 81 rfl) ?_
    refine x_iload (dA D_X12_brings 82 rfl) rfl ?_
    refine x_iload_n (dA D_X12_brings 83 rfl) rfl ?_
    refine x_iload (dA D_X12_brings 84 rfl) rfl ?_
    refine x_iload (dA D_X12_brings 85 rfl) rfl ?_
    refine x_iload (dA D_X12_brings 86 rfl) rfl ?_
    refine x_iadd (dA D_X12_brings 87 rfl) ?_
    refine x_iload (dA D_X12_brings 88 rfl) rfl ?_
    refine x_aload_n (dA D_X12_brings 89 rfl) rfl ?_
    refine x_iload_n (dA D_X12_brings 90 rfl) rfl ?_
    refine x_callV 11 [vI x3] [vI x11, vI (x5 + x6), vI x4, vI x2, vI x10, vI 1, vA 67] (dA D_X12_brings 91 rfl) cw_RX12_353 rfl rfl (Nat.le_of_ble_eq_true rfl) (by decide) rfl hd1 (zk k) (zk n) (sO_67 hS) (S_X12_minutesOf hS h21 (by omega) ?_) (kI (fun _ _ h => h))
    show X G Y_X12_brings d k n 167 [vA 67, vI x1, vI x2, vI x3, vI x4, vI x5, vI x6, vI x7, vL x8, vU, vI x10, vI x11, vI v3, vU] [vI (mnO (rd M 69) x3), vI x11, vI (x5 + x6), vI x4, vI x2, vI x10, vI 1, vA 67] M Q
    refine x_iload_n (dA D_X12_brings 92 rfl) rfl ?_
    obtain ⟨h24, h⟩ := h
    obtain ⟨h25, h⟩ := h
    refine x_callS [vI x3] [vI (mnO (rd M 69) x3), vI x11, vI (x5 + x6), vI x4, vI x2, vI x10, vI 1, vA 67] (dA D_X12_brings 93 rfl) cw_RX12_367 rfl rfl (Nat.le_of_ble_eq_true rfl) hd1 (zk k) (zk n) (S_X12_bits h24 h25 (by omega) ?_) (kI (fun _ _ h => h))
    show X G Y_X12_brings d k n 171 [vA 67, vI x1, vI x2, vI x3, vI x4, vI x5, vI x6, vI x7, vL x8, vU, vI x10, vI x11, vI v3, vU] [vI (pop x3), vI (mnO (rd M 69) x3), vI x11, vI (x5 + x6), vI x4, vI x2, vI x10, vI 1, vA 67] M Q
    obtain ⟨h26, h⟩ := h
    obtain ⟨h27, h⟩ := h
    obtain ⟨h28, h⟩ := h
    refine x_callV 11 [vI 1, vI x10, vI x2, vI x4, vI (x5 + x6), vI x11, vI (mnO (rd M 69) x3), vI (pop x3)] [] (dA D_X12_brings 94 rfl) cw_RX12_346 rfl rfl (Nat.le_of_ble_eq_true rfl) (by decide) rfl hd1 (zk k) (zk n) (sO_67 hS) (T_X12_ask hS h26 h27 h28 (by omega) (fun r30 M29 p31 hM29 => ?_)) (kI (fun _ _ h => h))
    have h := h r30 M29 p31 hM29
    show X G Y_X12_brings d k n 174 [vA 67, vI x1, vI x2, vI x3, vI x4, vI x5, vI x6, vI x7, vL x8, vU, vI x10, vI x11, vI v3, vU] [vI r30] M29 Q
    refine x_goto (tgt := 178) (dA D_X12_brings 95 rfl) (by decide) ?_
    refine x_istore (xs' := [vA 67, vI x1, vI x2, vI x3, vI x4, vI x5, vI x6, vI x7, vL x8, vU, vI x10, vI x11, vI v3, vI r30]) (dA D_X12_brings 97 rfl) (by decide) rfl ?_
    refine x_lload (dA D_X12_brings 98 rfl) rfl ?_
    refine x_iload (dA D_X12_brings 99 rfl) rfl ?_
    refine x_i2l (dA D_X12_brings 100 rfl) h8 ?_
    refine x_iload (dA D_X12_brings 101 rfl) rfl ?_
    refine x_aload_n (dA D_X12_brings 102 rfl) rfl ?_
    refine x_get (v := vA 69) (dA D_X12_brings 103 rfl) fw_RX12_13 (sO_67 hM29) (congrArg (rfV G) (sR_67_3 hM29)) ?_
    refine x_bipush (dA D_X12_brings 104 rfl) (by decide) (by decide) ?_
    refine x_iald (dA D_X12_brings 105 rfl) (sA_69 hM29 (by decide) (by decide)) ?_
    refine x_imul (dA D_X12_brings 106 rfl) ?_
    refine x_aload_n (dA D_X12_brings 107 rfl) rfl ?_
    refine x_iload_n (dA D_X12_brings 108 rfl) rfl ?_
    refine x_iconst (dA D_X12_brings 109 rfl) ?_
    obtain ⟨h32, h⟩ := h
    obtain ⟨h33, h⟩ := h
    refine x_callV 11 [vI x2, vI 0] [vI (v3 * (rd M29 69 40)), vL x11, vL x8] (dA D_X12_brings 110 rfl) cw_RX12_350 rfl rfl (Nat.le_of_ble_eq_true rfl) (by decide) rfl hd1 (zk k) (zk n) (sO_67 hM29) (S_X12_ofScene hM29 h32 h33 (by omega) ?_) (kI (fun _ _ h => h))
    show X G Y_X12_brings d k n 201 [vA 67, vI x1, vI x2, vI x3, vI x4, vI x5, vI x6, vI x7, vL x8, vU, vI x10, vI x11, vI v3, vI r30] [vI (rd M29 69 ((10 + (3 * x2)) + (0 : Int))), vI (v3 * (rd M29 69 40)), vL x11, vL x8] M29 Q
    refine x_imul (dA D_X12_brings 111 rfl) ?_
    refine x_iload (dA D_X12_brings 112 rfl) rfl ?_
    refine x_iadd (dA D_X12_brings 113 rfl) ?_
    refine x_iload (dA D_X12_brings 114 rfl) rfl ?_
    obtain ⟨h35, h⟩ := h
    have hJ : X G Y_X12_brings d k n 224 [vA 67, vI x1, vI x2, vI x3, vI x4, vI x5, vI x6, vI x7, vL x8, vU, vI x10, vI x11, vI v3, vI r30] [vI (if x7 = 0 then 0 else (v3 * (rd M29 69 41))), vI (((v3 * (rd M29 69 40)) * (rd M29 69 ((10 + (3 * x2)) + (0 : Int)))) + r30), vL x11, vL x8] M29 Q := by
      refine x_iadd (dA D_X12_brings 124 rfl) ?_
      obtain ⟨h44, h⟩ := h
      refine x_i2l (dA D_X12_brings 125 rfl) h44 ?_
      refine x_lmul (dA D_X12_brings 126 rfl) ?_
      refine x_ladd (dA D_X12_brings 127 rfl) ?_
      refine x_nmL (fun v45 ev45 => ?_)
      have h := h v45 ev45
      refine x_lstore (xs' := [vA 67, vI x1, vI x2, vI x3, vI x4, vI x5, vI x6, vI x7, vL v45, vU, vI x10, vI x11, vI v3, vI r30]) (dA D_X12_brings 128 rfl) (by decide) rfl ?_
      refine x_iinc (xs' := [vA 67, vI x1, vI x2, vI x3, vI x4, vI x5, vI x6, vI x7, vL v45, vU, vI (x10 + 1), vI x11, vI v3, vI r30]) (dA D_X12_brings 129 rfl) rfl (by decide) rfl ?_
      refine x_goto (tgt := 78) (dA D_X12_brings 130 rfl) (by decide) ?_
      refine X.weak (xs' := [vA 67, vI x1, vI x2, vI x3, vI x4, vI x5, vI x6, vI x7, vL v45, vU, vI (x10 + 1), vU, vU, vU]) ⟨Or.inl rfl, Or.inl rfl, Or.inl rfl, Or.inl rfl, Or.inl rfl, Or.inl rfl, Or.inl rfl, Or.inl rfl, Or.inl rfl, Or.inl rfl, Or.inl rfl, Or.inr rfl, Or.inr rfl, Or.inr rfl, trivial⟩ ?_
      exact h
    refine x_if_eqP (tgt := 223) (dA D_X12_brings 115 rfl) (by decide) h35 ⟨fun c34 => ?_, fun c34 => ?_⟩
    · refine x_iconst (dA D_X12_brings 123 rfl) ?_
      rw [if_pos c34] at hJ
      exact hJ
    · refine x_iload (dA D_X12_brings 116 rfl) rfl ?_
      refine x_aload_n (dA D_X12_brings 117 rfl) rfl ?_
      refine x_get (v := vA 69) (dA D_X12_brings 118 rfl) fw_RX12_13 (sO_67 hM29) (congrArg (rfV G) (sR_67_3 hM29)) ?_
      refine x_bipush (dA D_X12_brings 119 rfl) (by decide) (by decide) ?_
      refine x_iald (dA D_X12_brings 120 rfl) (sA_69 hM29 (by decide) (by decide)) ?_
      refine x_imul (dA D_X12_brings 121 rfl) ?_
      refine x_goto (tgt := 224) (dA D_X12_brings 122 rfl) (by decide) ?_
      rw [if_neg (by first | omega | grind)] at hJ
      exact hJ
  refine x_icmp_neP (tgt := 177) (dA D_X12_brings 77 rfl) (by decide) h5 ⟨by decide, by decide⟩ ⟨fun c4 => ?_, fun c4 => ?_⟩
  · exact hA (by first | omega | grind)
  · refine x_iload (dA D_X12_brings 78 rfl) rfl ?_
    refine x_if_leP (tgt := 177) (dA D_X12_brings 79 rfl) (by decide) h8 ⟨fun c7 => ?_, fun c7 => ?_⟩
    · exact hA (by first | omega | grind)
    · exact hB (by first | omega | grind)
set_option maxRecDepth 100000 in
theorem B_X12_brings_177 {G : GG} {d : Nat} {k n : Nat} {x1 x2 x3 x4 x5 x6 x7 x8 x10 x11 x12 : Int} {M : MM} {Q : PV → MM → Prop} (hd : 2 ≤ d) (hS : Sh M) (h : inR x11 ∧ 0 ≤ ((10 + (3 * x2)) + (0 : Int)) ∧ ((10 + (3 * x2)) + (0 : Int)) < 5460 ∧ inR x7 ∧ inR ((((x12 * (rd M 69 40)) * (rd M 69 ((10 + (3 * x2)) + (0 : Int)))) + 0) + (if x7 = 0 then 0 else (x12 * (rd M 69 41)))) ∧ ∀ v15, v15 = x8 + (x11 * ((((x12 * (rd M 69 40)) * (rd M 69 ((10 + (3 * x2)) + (0 : Int)))) + 0) + (if x7 = 0 then 0 else (x12 * (rd M 69 41))))) → X G Y_X12_brings d k n 78 [vA 67, vI x1, vI x2, vI x3, vI x4, vI x5, vI x6, vI x7, vL v15, vU, vI (x10 + 1), vU, vU, vU] [] M Q) : X G Y_X12_brings d k n 177 [vA 67, vI x1, vI x2, vI x3, vI x4, vI x5, vI x6, vI x7, vL x8, vU, vI x10, vI x11, vI x12, vU] [] M Q := by
  have hd1 : 1 ≤ d := by omega
  refine x_iconst (dA D_X12_brings 96 rfl) ?_
  refine x_istore (xs' := [vA 67, vI x1, vI x2, vI x3, vI x4, vI x5, vI x6, vI x7, vL x8, vU, vI x10, vI x11, vI x12, vI 0]) (dA D_X12_brings 97 rfl) (by decide) rfl ?_
  refine x_lload (dA D_X12_brings 98 rfl) rfl ?_
  refine x_iload (dA D_X12_brings 99 rfl) rfl ?_
  obtain ⟨h1, h⟩ := h
  refine x_i2l (dA D_X12_brings 100 rfl) h1 ?_
  refine x_iload (dA D_X12_brings 101 rfl) rfl ?_
  refine x_aload_n (dA D_X12_brings 102 rfl) rfl ?_
  refine x_get (v := vA 69) (dA D_X12_brings 103 rfl) fw_RX12_13 (sO_67 hS) (congrArg (rfV G) (sR_67_3 hS)) ?_
  refine x_bipush (dA D_X12_brings 104 rfl) (by decide) (by decide) ?_
  refine x_iald (dA D_X12_brings 105 rfl) (sA_69 hS (by decide) (by decide)) ?_
  refine x_imul (dA D_X12_brings 106 rfl) ?_
  refine x_aload_n (dA D_X12_brings 107 rfl) rfl ?_
  refine x_iload_n (dA D_X12_brings 108 rfl) rfl ?_
  refine x_iconst (dA D_X12_brings 109 rfl) ?_
  obtain ⟨h2, h⟩ := h
  obtain ⟨h3, h⟩ := h
  refine x_callV 11 [vI x2, vI 0] [vI (x12 * (rd M 69 40)), vL x11, vL x8] (dA D_X12_brings 110 rfl) cw_RX12_350 rfl rfl (Nat.le_of_ble_eq_true rfl) (by decide) rfl hd1 (zk k) (zk n) (sO_67 hS) (S_X12_ofScene hS h2 h3 (by omega) ?_) (kI (fun _ _ h => h))
  show X G Y_X12_brings d k n 201 [vA 67, vI x1, vI x2, vI x3, vI x4, vI x5, vI x6, vI x7, vL x8, vU, vI x10, vI x11, vI x12, vI 0] [vI (rd M 69 ((10 + (3 * x2)) + (0 : Int))), vI (x12 * (rd M 69 40)), vL x11, vL x8] M Q
  refine x_imul (dA D_X12_brings 111 rfl) ?_
  refine x_iload (dA D_X12_brings 112 rfl) rfl ?_
  refine x_iadd (dA D_X12_brings 113 rfl) ?_
  refine x_iload (dA D_X12_brings 114 rfl) rfl ?_
  obtain ⟨h5, h⟩ := h
  have hJ : X G Y_X12_brings d k n 224 [vA 67, vI x1, vI x2, vI x3, vI x4, vI x5, vI x6, vI x7, vL x8, vU, vI x10, vI x11, vI x12, vI 0] [vI (if x7 = 0 then 0 else (x12 * (rd M 69 41))), vI (((x12 * (rd M 69 40)) * (rd M 69 ((10 + (3 * x2)) + (0 : Int)))) + 0), vL x11, vL x8] M Q := by
    refine x_iadd (dA D_X12_brings 124 rfl) ?_
    obtain ⟨h14, h⟩ := h
    refine x_i2l (dA D_X12_brings 125 rfl) h14 ?_
    refine x_lmul (dA D_X12_brings 126 rfl) ?_
    refine x_ladd (dA D_X12_brings 127 rfl) ?_
    refine x_nmL (fun v15 ev15 => ?_)
    have h := h v15 ev15
    refine x_lstore (xs' := [vA 67, vI x1, vI x2, vI x3, vI x4, vI x5, vI x6, vI x7, vL v15, vU, vI x10, vI x11, vI x12, vI 0]) (dA D_X12_brings 128 rfl) (by decide) rfl ?_
    refine x_iinc (xs' := [vA 67, vI x1, vI x2, vI x3, vI x4, vI x5, vI x6, vI x7, vL v15, vU, vI (x10 + 1), vI x11, vI x12, vI 0]) (dA D_X12_brings 129 rfl) rfl (by decide) rfl ?_
    refine x_goto (tgt := 78) (dA D_X12_brings 130 rfl) (by decide) ?_
    refine X.weak (xs' := [vA 67, vI x1, vI x2, vI x3, vI x4, vI x5, vI x6, vI x7, vL v15, vU, vI (x10 + 1), vU, vU, vU]) ⟨Or.inl rfl, Or.inl rfl, Or.inl rfl, Or.inl rfl, Or.inl rfl, Or.inl rfl, Or.inl rfl, Or.inl rfl, Or.inl rfl, Or.inl rfl, Or.inl rfl, Or.inr rfl, Or.inr rfl, Or.inr rfl, trivial⟩ ?_
    exact h
  refine x_if_eqP (tgt := 223) (dA D_X12_brings 115 rfl) (by decide) h5 ⟨fun c4 => ?_, fun c4 => ?_⟩
  · refine x_iconst (dA D_X12_brings 123 rfl) ?_
    rw [if_pos c4] at hJ
    exact hJ
  · refine x_iload (dA D_X12_brings 116 rfl) rfl ?_
    refine x_aload_n (dA D_X12_brings 117 rfl) rfl ?_
    refine x_get (v := vA 69) (dA D_X12_brings 118 rfl) fw_RX12_13 (sO_67 hS) (congrArg (rfV G) (sR_67_3 hS)) ?_
    refine x_bipush (dA D_X12_brings 119 rfl) (by decide) (by decide) ?_
    refine x_iald (dA D_X12_brings 120 rfl) (sA_69 hS (by decide) (by decide)) ?_
    refine x_imul (dA D_X12_brings 121 rfl) ?_
    refine x_goto (tgt := 224) (dA D_X12_brings 122 rfl) (by decide) ?_
    rw [if_neg (by first | omega | grind)] at hJ
    exact hJ
set_option maxRecDepth 100000 in
theorem B_X12_findStays_0 {G : GG} {d : Nat} {k n : Nat} {x1 x2 x3 : Int} {M : MM} {Q : PV → MM → Prop} (hd : 1 ≤ d) (hS : Sh M) (h : X G Y_X12_findStays d k n 3 [vA 67, vI x1, vI x2, vI x3, vI 0, vU, vU, vU] [] M Q) : X G Y_X12_findStays d k n 0 [vA 67, vI x1, vI x2, vI x3, vU, vU, vU, vU] [] M Q := by
  have hd1 : 1 ≤ d := by omega
  refine x_iconst (dA D_X12_findStays 0 rfl) ?_
  refine x_istore (xs' := [vA 67, vI x1, vI x2, vI x3, vI 0, vU, vU, vU]) (dA D_X12_findStays 1 rfl) (by decide) rfl ?_
  exact h
theorem C_X12_findStays {G : GG} {d : Nat} {x1 x2 x3 : Int} {M : MM} {Q : PV → MM → Prop} (h : X G Y_X12_findStays d 0 0 0 [vA 67, vI x1, vI x2, vI x3, vU, vU, vU, vU] [] M Q) : C G Y_X12_findStays d 0 0 [vA 67, vI x1, vI x2, vI x3] M Q := X.entry (by decide) (Nat.le_of_ble_eq_true rfl) rfl rfl rfl h
set_option maxRecDepth 100000 in
theorem B_X12_findStays_3 {G : GG} {d : Nat} {k n : Nat} {x1 x2 x3 x4 : Int} {M : MM} {Q : PV → MM → Prop} (hd : 2 ≤ d) (hS : Sh M) (h : inR x4 ∧ inR x2 ∧ ((x2 < x4 → Q vU M) ∧ (x4 ≤ x2 → (0 ≤ x2 ∧ x2 < 6) ∧ (0 ≤ x4 ∧ x4 ≤ x2) ∧ ∀ v5, v5 = ovF x2 x4 (Int.toNat x4) → X G Y_X12_findStays d k n 20 [vA 67, vI x1, vI x2, vI x3, vI x4, vL v5, vU, vI 0] [] M Q))) : X G Y_X12_findStays d k n 3 [vA 67, vI x1, vI x2, vI x3, vI x4, vU, vU, vU] [] M Q := by
  have hd1 : 1 ≤ d := by omega
  refine x_iload (dA D_X12_findStays 2 rfl) rfl ?_
  refine x_iload_n (dA D_X12_findStays 3 rfl) rfl ?_
  obtain ⟨h1, h⟩ := h
  obtain ⟨h2, h⟩ := h
  refine x_icmp_gtP (tgt := 101) (dA D_X12_findStays 4 rfl) (by decide) h1 h2 ⟨fun c => ?_, fun c => ?_⟩
  · have h := h.1 c
    exact x_return (dA D_X12_findStays 54 rfl) rfl h
  · have h := h.2 c
    refine x_iload_n (dA D_X12_findStays 5 rfl) rfl ?_
    refine x_iload (dA D_X12_findStays 6 rfl) rfl ?_
    obtain ⟨h3, h⟩ := h
    obtain ⟨h4, h⟩ := h
    refine x_callS [vI x2, vI x4] [] (dA D_X12_findStays 7 rfl) cw_RX12_370 rfl rfl (Nat.le_of_ble_eq_true rfl) hd1 (zk k) (zk n) (S_X12_over h3 h4 (by omega) ?_) (kL' (fun _ _ h => h))
    show X G Y_X12_findStays d k n 15 [vA 67, vI x1, vI x2, vI x3, vI x4, vU, vU, vU] [vL (ovF x2 x4 (Int.toNat x4))] M Q
    refine x_nmL (fun v5 ev5 => ?_)
    have h := h v5 ev5
    refine x_lstore (xs' := [vA 67, vI x1, vI x2, vI x3, vI x4, vL v5, vU, vU]) (dA D_X12_findStays 8 rfl) (by decide) rfl ?_
    refine x_iconst (dA D_X12_findStays 9 rfl) ?_
    refine x_istore (xs' := [vA 67, vI x1, vI x2, vI x3, vI x4, vL v5, vU, vI 0]) (dA D_X12_findStays 10 rfl) (by decide) rfl ?_
    exact h
set_option maxRecDepth 100000 in
theorem B_X12_findStays_20 {G : GG} {d : Nat} {k n : Nat} {x1 x2 x3 x4 x5 x7 : Int} {M : MM} {Q : PV → MM → Prop} (hd : 1 ≤ d) (hS : Sh M) (h : inR x7 ∧ inR x2 ∧ ((x2 ≤ x7 → X G Y_X12_findStays d k n 56 [vA 67, vI x1, vI x2, vI x3, vI x4, vL x5, vU, vI x2] [] M Q) ∧ (x7 < x2 → inR x4 ∧ inR (if x4 ≤ x7 then (100 - x3) else x3) ∧ ∀ v11, v11 = x5 * (if x4 ≤ x7 then (100 - x3) else x3) → X G Y_X12_findStays d k n 20 [vA 67, vI x1, vI x2, vI x3, vI x4, vL v11, vU, vI (x7 + 1)] [] M Q))) : X G Y_X12_findStays d k n 20 [vA 67, vI x1, vI x2, vI x3, vI x4, vL x5, vU, vI x7] [] M Q := by
  have hd1 : 1 ≤ d := by omega
  refine x_iload (dA D_X12_findStays 11 rfl) rfl ?_
  refine x_iload_n (dA D_X12_findStays 12 rfl) rfl ?_
  obtain ⟨h1, h⟩ := h
  obtain ⟨h2, h⟩ := h
  refine x_icmp_geP (tgt := 53) (dA D_X12_findStays 13 rfl) (by decide) h1 h2 ⟨fun c => ?_, fun c => ?_⟩
  · have h := h.1 c
    refine x_iload_n (dA D_X12_findStays 28 rfl) rfl ?_
    refine x_istore (xs' := [vA 67, vI x1, vI x2, vI x3, vI x4, vL x5, vU, vI x2]) (dA D_X12_findStays 29 rfl) (by decide) rfl ?_
    exact h
  · have h := h.2 c
    refine x_lload (dA D_X12_findStays 14 rfl) rfl ?_
    refine x_iload (dA D_X12_findStays 15 rfl) rfl ?_
    refine x_iload (dA D_X12_findStays 16 rfl) rfl ?_
    obtain ⟨h4, h⟩ := h
    have hJ : X G Y_X12_findStays d k n 43 [vA 67, vI x1, vI x2, vI x3, vI x4, vL x5, vU, vI x7] [vI (if x4 ≤ x7 then (100 - x3) else x3), vL x5] M Q := by
      obtain ⟨h10, h⟩ := h
      refine x_i2l (dA D_X12_findStays 23 rfl) h10 ?_
      refine x_lmul (dA D_X12_findStays 24 rfl) ?_
      refine x_nmL (fun v11 ev11 => ?_)
      have h := h v11 ev11
      refine x_lstore (xs' := [vA 67, vI x1, vI x2, vI x3, vI x4, vL v11, vU, vI x7]) (dA D_X12_findStays 25 rfl) (by decide) rfl ?_
      refine x_iinc (xs' := [vA 67, vI x1, vI x2, vI x3, vI x4, vL v11, vU, vI (x7 + 1)]) (dA D_X12_findStays 26 rfl) rfl (by decide) rfl ?_
      refine x_goto (tgt := 20) (dA D_X12_findStays 27 rfl) (by decide) ?_
      exact h
    refine x_icmp_geP (tgt := 39) (dA D_X12_findStays 17 rfl) (by decide) h1 h4 ⟨fun c3 => ?_, fun c3 => ?_⟩
    · refine x_bipush (dA D_X12_findStays 20 rfl) (by decide) (by decide) ?_
      refine x_iload_n (dA D_X12_findStays 21 rfl) rfl ?_
      refine x_isub (dA D_X12_findStays 22 rfl) ?_
      rw [if_pos c3] at hJ
      exact hJ
    · refine x_iload_n (dA D_X12_findStays 18 rfl) rfl ?_
      refine x_goto (tgt := 43) (dA D_X12_findStays 19 rfl) (by decide) ?_
      rw [if_neg (by first | omega | grind)] at hJ
      exact hJ
set_option maxRecDepth 100000 in
theorem B_X12_findStays_56 {G : GG} {d : Nat} {k n : Nat} {x1 x2 x3 x4 x5 x7 : Int} {M : MM} {Q : PV → MM → Prop} (hd : 1 ≤ d) (hS : Sh M) (h : inR x7 ∧ ((5 ≤ x7 → 0 ≤ (((36 * x1) + (6 * x2)) + x4) ∧ (((36 * x1) + (6 * x2)) + x4) < 72 ∧ ∀ M4, M4 = wr M 87 (((36 * x1) + (6 * x2)) + x4) x5 → Sh M4 → X G Y_X12_findStays d k n 3 [vA 67, vI x1, vI x2, vI x3, vI (x4 + 1), vU, vU, vU] [] M4 Q) ∧ (x7 < 5 → ∀ v5, v5 = x5 * 100 → X G Y_X12_findStays d k n 56 [vA 67, vI x1, vI x2, vI x3, vI x4, vL v5, vU, vI (x7 + 1)] [] M Q))) : X G Y_X12_findStays d k n 56 [vA 67, vI x1, vI x2, vI x3, vI x4, vL x5, vU, vI x7] [] M Q := by
  have hd1 : 1 ≤ d := by omega
  refine x_iload (dA D_X12_findStays 30 rfl) rfl ?_
  refine x_iconst (dA D_X12_findStays 31 rfl) ?_
  obtain ⟨h1, h⟩ := h
  refine x_icmp_geP (tgt := 76) (dA D_X12_findStays 32 rfl) (by decide) h1 ⟨by decide, by decide⟩ ⟨fun c => ?_, fun c => ?_⟩
  · have h := h.1 c
    refine x_aload_n (dA D_X12_findStays 39 rfl) rfl ?_
    refine x_get (v := vA 87) (dA D_X12_findStays 40 rfl) fw_RX12_88 (sO_67 hS) (congrArg (rfV G) (sR_67_38 hS)) ?_
    refine x_bipush (dA D_X12_findStays 41 rfl) (by decide) (by decide) ?_
    refine x_iload_n (dA D_X12_findStays 42 rfl) rfl ?_
    refine x_imul (dA D_X12_findStays 43 rfl) ?_
    refine x_bipush (dA D_X12_findStays 44 rfl) (by decide) (by decide) ?_
    refine x_iload_n (dA D_X12_findStays 45 rfl) rfl ?_
    refine x_imul (dA D_X12_findStays 46 rfl) ?_
    refine x_iadd (dA D_X12_findStays 47 rfl) ?_
    refine x_iload (dA D_X12_findStays 48 rfl) rfl ?_
    refine x_iadd (dA D_X12_findStays 49 rfl) ?_
    refine x_lload (dA D_X12_findStays 50 rfl) rfl ?_
    obtain ⟨h2, h⟩ := h
    obtain ⟨h3, h⟩ := h
    refine x_last (dA D_X12_findStays 51 rfl) (sA_87 hS h2 h3) ?_
    refine x_nmM (fun M4 eM4 => ?_)
    have hM4 : Sh M4 := eM4 ▸ (sW_87 hS)
    have h := h M4 eM4 hM4
    refine x_iinc (xs' := [vA 67, vI x1, vI x2, vI x3, vI (x4 + 1), vL x5, vU, vI x7]) (dA D_X12_findStays 52 rfl) rfl (by decide) rfl ?_
    refine x_goto (tgt := 3) (dA D_X12_findStays 53 rfl) (by decide) ?_
    refine X.weak (xs' := [vA 67, vI x1, vI x2, vI x3, vI (x4 + 1), vU, vU, vU]) ⟨Or.inl rfl, Or.inl rfl, Or.inl rfl, Or.inl rfl, Or.inl rfl, Or.inr rfl, Or.inl rfl, Or.inr rfl, trivial⟩ ?_
    exact h
  · have h := h.2 c
    refine x_lload (dA D_X12_findStays 33 rfl) rfl ?_
    refine x_ldc2 (a := 100) (dA D_X12_findStays 34 rfl) kl_RX12_374 (by decide) ?_
    refine x_lmul (dA D_X12_findStays 35 rfl) ?_
    refine x_nmL (fun v5 ev5 => ?_)
    have h := h v5 ev5
    refine x_lstore (xs' := [vA 67, vI x1, vI x2, vI x3, vI x4, vL v5, vU, vI x7]) (dA D_X12_findStays 36 rfl) (by decide) rfl ?_
    refine x_iinc (xs' := [vA 67, vI x1, vI x2, vI x3, vI x4, vL v5, vU, vI (x7 + 1)]) (dA D_X12_findStays 37 rfl) rfl (by decide) rfl ?_
    refine x_goto (tgt := 56) (dA D_X12_findStays 38 rfl) (by decide) ?_
    exact h
