set_option maxRecDepth 100000 in
theorem B_X6_list_0 {G : GG} {d : Nat} {k n : Nat} {x1 x2 x3 : Int} {r : Int → Int} {M : MM} {Q : PV → MM → Prop} (hd : 4 ≤ d) (hS : Sh M) (h : inR x3 ∧ ((x3 < 5 → HR M r ∧ RS r ∧ (0 ≤ x1 ∧ x1 < 32) ∧ ∀ v5, v5 = canB r x1 → inR v5 ∧ ((v5 ≠ 0 → X G Y_X6_list d k n 62 [vA 39, vI x1, vI x2, vI x3, vI v5, vI 0] [] M Q) ∧ (v5 = 0 → inR (rd M 39 6) ∧ ((120 ≤ (rd M 39 6) → Q vU M) ∧ ((rd M 39 6) < 120 → 0 ≤ (rd M 39 6) ∧ (rd M 39 6) < 120 ∧ ∀ M10, M10 = wr M 40 (rd M 39 6) (iOr x2 (iShl x3 15)) → Sh M10 → ∀ M11, M11 = wr M10 39 6 ((rd M10 39 6) + 1) → Sh M11 → Q vU M11))))) ∧ (5 ≤ x3 → inR (rd M 39 6) ∧ ((120 ≤ (rd M 39 6) → Q vU M) ∧ ((rd M 39 6) < 120 → 0 ≤ (rd M 39 6) ∧ (rd M 39 6) < 120 ∧ ∀ M15, M15 = wr M 40 (rd M 39 6) (iOr x2 (iShl x3 15)) → Sh M15 → ∀ M16, M16 = wr M15 39 6 ((rd M15 39 6) + 1) → Sh M16 → Q vU M16))))) : X G Y_X6_list d k n 0 [vA 39, vI x1, vI x2, vI x3, vU, vU] [] M Q := by
  have hd1 : 1 ≤ d := by omega
  refine x_iload_n (dA D_X6_list 0 rfl) rfl ?_
  refine x_iconst (dA D_X6_list 1 rfl) ?_
  obtain ⟨h1, h⟩ := h
  refine x_icmp_ltP (tgt := 9) (dA D_X6_list 2 rfl) (by decide) h1 ⟨by decide, by decide⟩ ⟨fun c => ?_, fun c => ?_⟩
  · have h := h.1 c
    refine x_aload_n (dA D_X6_list 5 rfl) rfl ?_
    refine x_get (v := vA 1) (dA D_X6_list 6 rfl) fw_RX6_41 (sO_39 hS) (congrArg (rfV G) (sR_39_0 hS)) ?_
    refine x_iload_n (dA D_X6_list 7 rfl) rfl ?_
    obtain ⟨h2, h⟩ := h
    obtain ⟨h3, h⟩ := h
    obtain ⟨h4, h⟩ := h
    refine x_callV 3 [vI x1] [] (dA D_X6_list 8 rfl) cw_RX6_120 rfl rfl (Nat.le_of_ble_eq_true rfl) (by decide) rfl hd1 (zk k) (zk n) (sO_1 hS) (S_X4_open hS h2 h3 h4 (by omega) ?_) (kI (fun _ _ h => h))
    show X G Y_X6_list d k n 17 [vA 39, vI x1, vI x2, vI x3, vU, vU] [vI (canB r x1)] M Q
    refine x_nmI (fun v5 ev5 => ?_)
    have h := h v5 ev5
    refine x_istore (xs' := [vA 39, vI x1, vI x2, vI x3, vI v5, vU]) (dA D_X6_list 9 rfl) (by decide) rfl ?_
    refine x_iload (dA D_X6_list 10 rfl) rfl ?_
    obtain ⟨h6, h⟩ := h
    refine x_if_neP (tgt := 59) (dA D_X6_list 11 rfl) (by decide) h6 ⟨fun c => ?_, fun c => ?_⟩
    · have h := h.1 c
      refine x_iconst (dA D_X6_list 33 rfl) ?_
      refine x_istore (xs' := [vA 39, vI x1, vI x2, vI x3, vI v5, vI 0]) (dA D_X6_list 34 rfl) (by decide) rfl ?_
      exact h
    · have h := h.2 c
      refine x_aload_n (dA D_X6_list 12 rfl) rfl ?_
      refine x_get (v := vI (rd M 39 6)) (dA D_X6_list 13 rfl) fw_RX6_19 (sO_39 hS) rfl ?_
      refine x_bipush (dA D_X6_list 14 rfl) (by decide) (by decide) ?_
      obtain ⟨h7, h⟩ := h
      refine x_icmp_geP (tgt := 58) (dA D_X6_list 15 rfl) (by decide) h7 ⟨by decide, by decide⟩ ⟨fun c => ?_, fun c => ?_⟩
      · have h := h.1 c
        exact x_return (dA D_X6_list 32 rfl) rfl h
      · have h := h.2 c
        refine x_aload_n (dA D_X6_list 16 rfl) rfl ?_
        refine x_get (v := vA 40) (dA D_X6_list 17 rfl) fw_RX6_15 (sO_39 hS) (congrArg (rfV G) (sR_39_5 hS)) ?_
        refine x_aload_n (dA D_X6_list 18 rfl) rfl ?_
        refine x_get (v := vI (rd M 39 6)) (dA D_X6_list 19 rfl) fw_RX6_19 (sO_39 hS) rfl ?_
        refine x_iload_n (dA D_X6_list 20 rfl) rfl ?_
        refine x_iload_n (dA D_X6_list 21 rfl) rfl ?_
        refine x_bipush (dA D_X6_list 22 rfl) (by decide) (by decide) ?_
        refine x_ishl (dA D_X6_list 23 rfl) ?_
        refine x_ior (dA D_X6_list 24 rfl) ?_
        obtain ⟨h8, h⟩ := h
        obtain ⟨h9, h⟩ := h
        refine x_iast (dA D_X6_list 25 rfl) (sA_40 hS h8 h9) ?_
        refine x_nmM (fun M10 eM10 => ?_)
        have hM10 : Sh M10 := eM10 ▸ (sW_40 hS)
        have h := h M10 eM10 hM10
        refine x_aload_n (dA D_X6_list 26 rfl) rfl ?_
        refine x_dup (dA D_X6_list 27 rfl) rfl ?_
        refine x_get (v := vI (rd M10 39 6)) (dA D_X6_list 28 rfl) fw_RX6_19 (sO_39 hM10) rfl ?_
        refine x_iconst (dA D_X6_list 29 rfl) ?_
        refine x_iadd (dA D_X6_list 30 rfl) ?_
        refine x_put (x := (rd M10 39 6) + 1) (dA D_X6_list 31 rfl) fw_RX6_19 (fun _ _ hc => by cases hc; exact Or.inl rfl) (sO_39 hM10) rfl rfl rfl ?_
        refine x_nmM (fun M11 eM11 => ?_)
        have hM11 : Sh M11 := eM11 ▸ (sW_39_6 hM10)
        have h := h M11 eM11 hM11
        exact x_return (dA D_X6_list 32 rfl) rfl h
  · have h := h.2 c
    refine x_iconst (dA D_X6_list 3 rfl) ?_
    refine x_goto (tgt := 17) (dA D_X6_list 4 rfl) (by decide) ?_
    refine x_istore (xs' := [vA 39, vI x1, vI x2, vI x3, vI 0, vU]) (dA D_X6_list 9 rfl) (by decide) rfl ?_
    refine x_iload (dA D_X6_list 10 rfl) rfl ?_
    refine x_if_neP (tgt := 59) (dA D_X6_list 11 rfl) (by decide) ⟨by decide, by decide⟩ ⟨fun c => ?_, fun c => ?_⟩
    · exact absurd c (by decide)
    · skip
      refine x_aload_n (dA D_X6_list 12 rfl) rfl ?_
      refine x_get (v := vI (rd M 39 6)) (dA D_X6_list 13 rfl) fw_RX6_19 (sO_39 hS) rfl ?_
      refine x_bipush (dA D_X6_list 14 rfl) (by decide) (by decide) ?_
      obtain ⟨h12, h⟩ := h
      refine x_icmp_geP (tgt := 58) (dA D_X6_list 15 rfl) (by decide) h12 ⟨by decide, by decide⟩ ⟨fun c => ?_, fun c => ?_⟩
      · have h := h.1 c
        exact x_return (dA D_X6_list 32 rfl) rfl h
      · have h := h.2 c
        refine x_aload_n (dA D_X6_list 16 rfl) rfl ?_
        refine x_get (v := vA 40) (dA D_X6_list 17 rfl) fw_RX6_15 (sO_39 hS) (congrArg (rfV G) (sR_39_5 hS)) ?_
        refine x_aload_n (dA D_X6_list 18 rfl) rfl ?_
        refine x_get (v := vI (rd M 39 6)) (dA D_X6_list 19 rfl) fw_RX6_19 (sO_39 hS) rfl ?_
        refine x_iload_n (dA D_X6_list 20 rfl) rfl ?_
        refine x_iload_n (dA D_X6_list 21 rfl) rfl ?_
        refine x_bipush (dA D_X6_list 22 rfl) (by decide) (by decide) ?_
        refine x_ishl (dA D_X6_list 23 rfl) ?_
        refine x_ior (dA D_X6_list 24 rfl) ?_
        obtain ⟨h13, h⟩ := h
        obtain ⟨h14, h⟩ := h
        refine x_iast (dA D_X6_list 25 rfl) (sA_40 hS h13 h14) ?_
        refine x_nmM (fun M15 eM15 => ?_)
        have hM15 : Sh M15 := eM15 ▸ (sW_40 hS)
        have h := h M15 eM15 hM15
        refine x_aload_n (dA D_X6_list 26 rfl) rfl ?_
        refine x_dup (dA D_X6_list 27 rfl) rfl ?_
        refine x_get (v := vI (rd M15 39 6)) (dA D_X6_list 28 rfl) fw_RX6_19 (sO_39 hM15) rfl ?_
        refine x_iconst (dA D_X6_list 29 rfl) ?_
        refine x_iadd (dA D_X6_list 30 rfl) ?_
        refine x_put (x := (rd M15 39 6) + 1) (dA D_X6_list 31 rfl) fw_RX6_19 (fun _ _ hc => by cases hc; exact Or.inl rfl) (sO_39 hM15) rfl rfl rfl ?_
        refine x_nmM (fun M16 eM16 => ?_)
        have hM16 : Sh M16 := eM16 ▸ (sW_39_6 hM15)
        have h := h M16 eM16 hM16
        exact x_return (dA D_X6_list 32 rfl) rfl h
theorem C_X6_list {G : GG} {d : Nat} {x1 x2 x3 : Int} {M : MM} {Q : PV → MM → Prop} (h : X G Y_X6_list d 0 0 0 [vA 39, vI x1, vI x2, vI x3, vU, vU] [] M Q) : C G Y_X6_list d 0 0 [vA 39, vI x1, vI x2, vI x3] M Q := X.entry (by decide) (Nat.le_of_ble_eq_true rfl) rfl rfl rfl h
set_option maxRecDepth 100000 in
theorem B_X6_list_62 {G : GG} {d : Nat} {k n : Nat} {x1 x2 x3 x4 x5 : Int} {M : MM} {Q : PV → MM → Prop} (hd : 2 ≤ d) (hS : Sh M) (h : inR x5 ∧ inR (rd M 1 0) ∧ (((rd M 1 0) ≤ x5 → Q vU M) ∧ (x5 < (rd M 1 0) → (((iAnd (iShr x4 x5) 1) ≠ 1 → X G Y_X6_list d k n 62 [vA 39, vI x1, vI x2, vI x3, vI x4, vI (x5 + 1)] [] M Q) ∧ ((iAnd (iShr x4 x5) 1) = 1 → C G Y_X6_list (d - 1) 0 0 [vA 39, vI (iOr x1 (iShl 1 x5)), vI (iOr x2 (iShl x5 (3 * x3))), vI (x3 + 1)] M (rU (fun M3 => Sh M3 ∧ X G Y_X6_list d k n 62 [vA 39, vI x1, vI x2, vI x3, vI x4, vI (x5 + 1)] [] M3 Q))))))) : X G Y_X6_list d k n 62 [vA 39, vI x1, vI x2, vI x3, vI x4, vI x5] [] M Q := by
  have hd1 : 1 ≤ d := by omega
  refine x_iload (dA D_X6_list 35 rfl) rfl ?_
  refine x_aload_n (dA D_X6_list 36 rfl) rfl ?_
  refine x_get (v := vA 1) (dA D_X6_list 37 rfl) fw_RX6_41 (sO_39 hS) (congrArg (rfV G) (sR_39_0 hS)) ?_
  refine x_get (v := vI (rd M 1 0)) (dA D_X6_list 38 rfl) fw_RX6_124 (sO_1 hS) rfl ?_
  obtain ⟨h1, h⟩ := h
  obtain ⟨h2, h⟩ := h
  refine x_icmp_geP (tgt := 112) (dA D_X6_list 39 rfl) (by decide) h1 h2 ⟨fun c => ?_, fun c => ?_⟩
  · have h := h.1 c
    exact x_return (dA D_X6_list 66 rfl) rfl h
  · have h := h.2 c
    refine x_iload (dA D_X6_list 40 rfl) rfl ?_
    refine x_iload (dA D_X6_list 41 rfl) rfl ?_
    refine x_ishr (dA D_X6_list 42 rfl) ?_
    refine x_iconst (dA D_X6_list 43 rfl) ?_
    refine x_iand (dA D_X6_list 44 rfl) ?_
    refine x_iconst (dA D_X6_list 45 rfl) ?_
    refine x_icmp_neP (tgt := 106) (dA D_X6_list 46 rfl) (by decide) (inR_iAnd _ _) ⟨by decide, by decide⟩ ⟨fun c => ?_, fun c => ?_⟩
    · have h := h.1 c
      refine x_iinc (xs' := [vA 39, vI x1, vI x2, vI x3, vI x4, vI (x5 + 1)]) (dA D_X6_list 64 rfl) rfl (by decide) rfl ?_
      refine x_goto (tgt := 62) (dA D_X6_list 65 rfl) (by decide) ?_
      exact h
    · have h := h.2 c
      refine x_aload_n (dA D_X6_list 47 rfl) rfl ?_
      refine x_iload_n (dA D_X6_list 48 rfl) rfl ?_
      refine x_iconst (dA D_X6_list 49 rfl) ?_
      refine x_iload (dA D_X6_list 50 rfl) rfl ?_
      refine x_ishl (dA D_X6_list 51 rfl) ?_
      refine x_ior (dA D_X6_list 52 rfl) ?_
      refine x_iload_n (dA D_X6_list 53 rfl) rfl ?_
      refine x_iload (dA D_X6_list 54 rfl) rfl ?_
      refine x_iconst (dA D_X6_list 55 rfl) ?_
      refine x_iload_n (dA D_X6_list 56 rfl) rfl ?_
      refine x_imul (dA D_X6_list 57 rfl) ?_
      refine x_ishl (dA D_X6_list 58 rfl) ?_
      refine x_ior (dA D_X6_list 59 rfl) ?_
      refine x_iload_n (dA D_X6_list 60 rfl) rfl ?_
      refine x_iconst (dA D_X6_list 61 rfl) ?_
      refine x_iadd (dA D_X6_list 62 rfl) ?_
      refine x_callV 5 [vI (iOr x1 (iShl 1 x5)), vI (iOr x2 (iShl x5 (3 * x3))), vI (x3 + 1)] [] (dA D_X6_list 63 rfl) cw_RX6_116 rfl rfl (Nat.le_of_ble_eq_true rfl) (by decide) rfl hd1 (zk k) (zk n) (sO_39 hS) h (kU (fun M3 h => ?_))
      obtain ⟨hM3, h⟩ := h
      refine x_iinc (xs' := [vA 39, vI x1, vI x2, vI x3, vI x4, vI (x5 + 1)]) (dA D_X6_list 64 rfl) rfl (by decide) rfl ?_
      refine x_goto (tgt := 62) (dA D_X6_list 65 rfl) (by decide) ?_
      exact h
set_option maxRecDepth 100000 in
theorem B_X6_listed_0 {G : GG} {d : Nat} {k n : Nat} {M : MM} {Q : PV → MM → Prop} (hd : 2 ≤ d) (hS : Sh M) (h : inR (rd M 39 7) ∧ (((rd M 39 7) ≠ 0 → Q (vI (rd M 39 6)) M) ∧ ((rd M 39 7) = 0 → ∀ M2, M2 = wr M 39 6 0 → Sh M2 → C G Y_X6_list (d - 1) 0 0 [vA 39, vI 0, vI 0, vI 0] M2 (rU (fun M3 => Sh M3 ∧ ∀ M4, M4 = wr M3 39 7 1 → Sh M4 → Q (vI (rd M4 39 6)) M4))))) : X G Y_X6_listed d k n 0 [vA 39] [] M Q := by
  have hd1 : 1 ≤ d := by omega
  refine x_aload_n (dA D_X6_listed 0 rfl) rfl ?_
  refine x_get (v := vI (rd M 39 7)) (dA D_X6_listed 1 rfl) fw_RX6_23 (sO_39 hS) rfl ?_
  obtain ⟨h1, h⟩ := h
  refine x_if_neP (tgt := 24) (dA D_X6_listed 2 rfl) (by decide) h1 ⟨fun c => ?_, fun c => ?_⟩
  · have h := h.1 c
    refine x_aload_n (dA D_X6_listed 14 rfl) rfl ?_
    refine x_get (v := vI (rd M 39 6)) (dA D_X6_listed 15 rfl) fw_RX6_19 (sO_39 hS) rfl ?_
    exact x_ireturn (dA D_X6_listed 16 rfl) rfl h
  · have h := h.2 c
    refine x_aload_n (dA D_X6_listed 3 rfl) rfl ?_
    refine x_iconst (dA D_X6_listed 4 rfl) ?_
    refine x_put (x := 0) (dA D_X6_listed 5 rfl) fw_RX6_19 (fun _ _ hc => by cases hc; exact Or.inl rfl) (sO_39 hS) rfl rfl rfl ?_
    refine x_nmM (fun M2 eM2 => ?_)
    have hM2 : Sh M2 := eM2 ▸ (sW_39_6 hS)
    have h := h M2 eM2 hM2
    refine x_aload_n (dA D_X6_listed 6 rfl) rfl ?_
    refine x_iconst (dA D_X6_listed 7 rfl) ?_
    refine x_iconst (dA D_X6_listed 8 rfl) ?_
    refine x_iconst (dA D_X6_listed 9 rfl) ?_
    refine x_callV 5 [vI 0, vI 0, vI 0] [] (dA D_X6_listed 10 rfl) cw_RX6_116 rfl rfl (Nat.le_of_ble_eq_true rfl) (by decide) rfl hd1 (zk k) (zk n) (sO_39 hM2) h (kU (fun M3 h => ?_))
    obtain ⟨hM3, h⟩ := h
    refine x_aload_n (dA D_X6_listed 11 rfl) rfl ?_
    refine x_iconst (dA D_X6_listed 12 rfl) ?_
    refine x_put (x := 1) (dA D_X6_listed 13 rfl) fw_RX6_23 (fun _ _ hc => by cases hc; exact Or.inl rfl) (sO_39 hM3) rfl (z_nar (by decide)) (z_fit (by decide)) ?_
    refine x_nmM (fun M4 eM4 => ?_)
    have hM4 : Sh M4 := eM4 ▸ (sW_39_7 hM3)
    have h := h M4 eM4 hM4
    refine x_aload_n (dA D_X6_listed 14 rfl) rfl ?_
    refine x_get (v := vI (rd M4 39 6)) (dA D_X6_listed 15 rfl) fw_RX6_19 (sO_39 hM4) rfl ?_
    exact x_ireturn (dA D_X6_listed 16 rfl) rfl h
theorem C_X6_listed {G : GG} {d : Nat} {M : MM} {Q : PV → MM → Prop} (h : X G Y_X6_listed d 0 0 0 [vA 39] [] M Q) : C G Y_X6_listed d 0 0 [vA 39] M Q := X.entry (by decide) (Nat.le_of_ble_eq_true rfl) rfl rfl rfl h
set_option maxRecDepth 100000 in
theorem B_X6_fix_0 {G : GG} {d : Nat} {k n : Nat} {M : MM} {Q : PV → MM → Prop} (hd : 2 ≤ d) (hS : Sh M) (h : inR (rd M 39 8) ∧ (((rd M 39 8) = 0 → C G Y_X6_listed (d - 1) 0 0 [vA 39] M (rI (fun r3 M2 => Sh M2 ∧ X G Y_X6_fix d k n 17 [vA 39, vI 0, vI r3, vI 0] [] M2 Q))) ∧ ((rd M 39 8) ≠ 0 → Q vU M))) : X G Y_X6_fix d k n 0 [vA 39, vU, vU, vU] [] M Q := by
  have hd1 : 1 ≤ d := by omega
  refine x_aload_n (dA D_X6_fix 0 rfl) rfl ?_
  refine x_get (v := vI (rd M 39 8)) (dA D_X6_fix 1 rfl) fw_RX6_26 (sO_39 hS) rfl ?_
  obtain ⟨h1, h⟩ := h
  refine x_if_eqP (tgt := 8) (dA D_X6_fix 2 rfl) (by decide) h1 ⟨fun c => ?_, fun c => ?_⟩
  · have h := h.1 c
    refine x_iconst (dA D_X6_fix 4 rfl) ?_
    refine x_istore_n (xs' := [vA 39, vI 0, vU, vU]) (dA D_X6_fix 5 rfl) (by decide) rfl ?_
    refine x_aload_n (dA D_X6_fix 6 rfl) rfl ?_
    refine x_callV 5 [] [] (dA D_X6_fix 7 rfl) cw_RX6_98 rfl rfl (Nat.le_of_ble_eq_true rfl) (by decide) rfl hd1 (zk k) (zk n) (sO_39 hS) h (kI (fun r3 M2 h => ?_))
    obtain ⟨hM2, h⟩ := h
    refine x_istore_n (xs' := [vA 39, vI 0, vI r3, vU]) (dA D_X6_fix 8 rfl) (by decide) rfl ?_
    refine x_iconst (dA D_X6_fix 9 rfl) ?_
    refine x_istore_n (xs' := [vA 39, vI 0, vI r3, vI 0]) (dA D_X6_fix 10 rfl) (by decide) rfl ?_
    exact h
  · have h := h.2 c
    exact x_return (dA D_X6_fix 3 rfl) rfl h
theorem C_X6_fix {G : GG} {d : Nat} {M : MM} {Q : PV → MM → Prop} (h : X G Y_X6_fix d 0 0 0 [vA 39, vU, vU, vU] [] M Q) : C G Y_X6_fix d 0 0 [vA 39] M Q := X.entry (by decide) (Nat.le_of_ble_eq_true rfl) rfl rfl rfl h
set_option maxRecDepth 100000 in
theorem B_X6_fix_17 {G : GG} {d : Nat} {k n : Nat} {x1 x2 x3 : Int} {M : MM} {Q : PV → MM → Prop} (hd : 2 ≤ d) (hS : Sh M) (h : inR x3 ∧ inR x2 ∧ ((x2 ≤ x3 → 0 ≤ x1 ∧ x1 < 120 ∧ C G Y_X3_takeRow (d - 1) 0 0 [vA 30, vI (rd M 40 x1)] M (rU (fun M5 => Sh M5 ∧ ∀ M6, M6 = wr M5 39 4 0 → Sh M6 → ∀ M7, M7 = wr M6 39 8 1 → Sh M7 → Q vU M7))) ∧ (x3 < x2 → 0 ≤ x3 ∧ x3 < 120 ∧ C G Y_X3_takeRow (d - 1) 0 0 [vA 30, vI (rd M 40 x3)] M (rU (fun M10 => Sh M10 ∧ ∀ M11, M11 = begM M10 (44 : Int) (3 : Int) (8 : Int) → Sh M11 → C G Y_X9_settle (d - 1) 0 0 [vA 44, vI 0, vI (-1), vI (rd M11 5 0), vI (rd M11 5 1), vI 0] M11 (rU (fun M12 => Sh M12 ∧ C G Y_X9_copyRoot (d - 1) 0 0 [vA 44, vI (rd M12 5 0), vI (rd M12 5 1), vA 42] M12 (rU (fun M13 => Sh M13 ∧ ((x3 = 0 → X G Y_X6_fix d k n 123 [vA 39, vI x1, vI x2, vI x3] [] M13 Q) ∧ (x3 ≠ 0 → (0 ≤ (14 : Int) ∧ (14 : Int) ≤ 14) ∧ Ar M13 (42 : Int) 0 ((14 : Int)).toNat ∧ Ar M13 (41 : Int) (0 : Int) ((14 : Int)).toNat ∧ nrm (rd M13 (42 : Int)) 0 ((14 : Int)).toNat ∧ nrm (rd M13 (41 : Int)) (0 : Int) ((14 : Int)).toNat ∧ inR (cmpI (vl (rd M13 (42 : Int)) 0 ((14 : Int)).toNat) (vl (rd M13 (41 : Int)) (0 : Int) ((14 : Int)).toNat)) ∧ (((cmpI (vl (rd M13 (42 : Int)) 0 ((14 : Int)).toNat) (vl (rd M13 (41 : Int)) (0 : Int) ((14 : Int)).toNat)) ≤ 0 → X G Y_X6_fix d k n 17 [vA 39, vI x1, vI x2, vI (x3 + 1)] [] M13 Q) ∧ (0 < (cmpI (vl (rd M13 (42 : Int)) 0 ((14 : Int)).toNat) (vl (rd M13 (41 : Int)) (0 : Int) ((14 : Int)).toNat)) → X G Y_X6_fix d k n 123 [vA 39, vI x1, vI x2, vI x3] [] M13 Q))))))))))))) : X G Y_X6_fix d k n 17 [vA 39, vI x1, vI x2, vI x3] [] M Q := by
  have hd1 : 1 ≤ d := by omega
  refine x_iload_n (dA D_X6_fix 11 rfl) rfl ?_
  refine x_iload_n (dA D_X6_fix 12 rfl) rfl ?_
  obtain ⟨h1, h⟩ := h
  obtain ⟨h2, h⟩ := h
  refine x_icmp_geP (tgt := 146) (dA D_X6_fix 13 rfl) (by decide) h1 h2 ⟨fun c => ?_, fun c => ?_⟩
  · have h := h.1 c
    refine x_aload_n (dA D_X6_fix 79 rfl) rfl ?_
    refine x_get (v := vA 30) (dA D_X6_fix 80 rfl) fw_RX6_49 (sO_39 hS) (congrArg (rfV G) (sR_39_2 hS)) ?_
    refine x_aload_n (dA D_X6_fix 81 rfl) rfl ?_
    refine x_get (v := vA 40) (dA D_X6_fix 82 rfl) fw_RX6_15 (sO_39 hS) (congrArg (rfV G) (sR_39_5 hS)) ?_
    refine x_iload_n (dA D_X6_fix 83 rfl) rfl ?_
    obtain ⟨h3, h⟩ := h
    obtain ⟨h4, h⟩ := h
    refine x_iald (dA D_X6_fix 84 rfl) (sA_40 hS h3 h4) ?_
    refine x_callV 2 [vI (rd M 40 x1)] [] (dA D_X6_fix 85 rfl) cw_RX6_102 rfl rfl (Nat.le_of_ble_eq_true rfl) (by decide) rfl hd1 (zk k) (zk n) (sO_30 hS) h (kU (fun M5 h => ?_))
    obtain ⟨hM5, h⟩ := h
    refine x_aload_n (dA D_X6_fix 86 rfl) rfl ?_
    refine x_iconst (dA D_X6_fix 87 rfl) ?_
    refine x_put (x := 0) (dA D_X6_fix 88 rfl) fw_RX6_9 (fun _ _ hc => by cases hc; exact Or.inl rfl) (sO_39 hM5) rfl (z_nar (by decide)) (z_fit (by decide)) ?_
    refine x_nmM (fun M6 eM6 => ?_)
    have hM6 : Sh M6 := eM6 ▸ (sW_39_4 hM5)
    have h := h M6 eM6 hM6
    refine x_aload_n (dA D_X6_fix 89 rfl) rfl ?_
    refine x_iconst (dA D_X6_fix 90 rfl) ?_
    refine x_put (x := 1) (dA D_X6_fix 91 rfl) fw_RX6_26 (fun _ _ hc => by cases hc; exact Or.inl rfl) (sO_39 hM6) rfl (z_nar (by decide)) (z_fit (by decide)) ?_
    refine x_nmM (fun M7 eM7 => ?_)
    have hM7 : Sh M7 := eM7 ▸ (sW_39_8 hM6)
    have h := h M7 eM7 hM7
    exact x_return (dA D_X6_fix 92 rfl) rfl h
  · have h := h.2 c
    refine x_aload_n (dA D_X6_fix 14 rfl) rfl ?_
    refine x_get (v := vA 30) (dA D_X6_fix 15 rfl) fw_RX6_49 (sO_39 hS) (congrArg (rfV G) (sR_39_2 hS)) ?_
    refine x_aload_n (dA D_X6_fix 16 rfl) rfl ?_
    refine x_get (v := vA 40) (dA D_X6_fix 17 rfl) fw_RX6_15 (sO_39 hS) (congrArg (rfV G) (sR_39_5 hS)) ?_
    refine x_iload_n (dA D_X6_fix 18 rfl) rfl ?_
    obtain ⟨h8, h⟩ := h
    obtain ⟨h9, h⟩ := h
    refine x_iald (dA D_X6_fix 19 rfl) (sA_40 hS h8 h9) ?_
    refine x_callV 2 [vI (rd M 40 x3)] [] (dA D_X6_fix 20 rfl) cw_RX6_102 rfl rfl (Nat.le_of_ble_eq_true rfl) (by decide) rfl hd1 (zk k) (zk n) (sO_30 hS) h (kU (fun M10 h => ?_))
    obtain ⟨hM10, h⟩ := h
    refine x_aload_n (dA D_X6_fix 21 rfl) rfl ?_
    refine x_get (v := vA 44) (dA D_X6_fix 22 rfl) fw_RX6_58 (sO_39 hM10) (congrArg (rfV G) (sR_39_3 hM10)) ?_
    refine x_iconst (dA D_X6_fix 23 rfl) ?_
    refine x_bipush (dA D_X6_fix 24 rfl) (by decide) (by decide) ?_
    refine x_callV 8 [vI 3, vI 8] [] (dA D_X6_fix 25 rfl) cw_RX6_75 rfl rfl (Nat.le_of_ble_eq_true rfl) (by decide) rfl hd1 (zk k) (zk n) (sO_44 hM10) (S_X9_begins (z := 44) (Or.inr rfl) hM10  (by omega) ?_) (kU (fun _ h => h))
    refine x_nmM (fun M11 eM11 => ?_)
    have hM11 : Sh M11 := eM11 ▸ (sBeg (by decide) hM10)
    have h := h M11 eM11 hM11
    show X G Y_X6_fix d k n 45 [vA 39, vI x1, vI x2, vI x3] [] M11 Q
    refine x_aload_n (dA D_X6_fix 26 rfl) rfl ?_
    refine x_get (v := vA 44) (dA D_X6_fix 27 rfl) fw_RX6_58 (sO_39 hM11) (congrArg (rfV G) (sR_39_3 hM11)) ?_
    refine x_iconst (dA D_X6_fix 28 rfl) ?_
    refine x_iconst (dA D_X6_fix 29 rfl) ?_
    refine x_aload_n (dA D_X6_fix 30 rfl) rfl ?_
    refine x_get (v := vA 1) (dA D_X6_fix 31 rfl) fw_RX6_41 (sO_39 hM11) (congrArg (rfV G) (sR_39_0 hM11)) ?_
    refine x_get (v := vA 5) (dA D_X6_fix 32 rfl) fw_RX6_79 (sO_1 hM11) (congrArg (rfV G) (sR_1_4 hM11)) ?_
    refine x_iconst (dA D_X6_fix 33 rfl) ?_
    refine x_iald (dA D_X6_fix 34 rfl) (sA_5 hM11 (by decide) (by decide)) ?_
    refine x_aload_n (dA D_X6_fix 35 rfl) rfl ?_
    refine x_get (v := vA 1) (dA D_X6_fix 36 rfl) fw_RX6_41 (sO_39 hM11) (congrArg (rfV G) (sR_39_0 hM11)) ?_
    refine x_get (v := vA 5) (dA D_X6_fix 37 rfl) fw_RX6_79 (sO_1 hM11) (congrArg (rfV G) (sR_1_4 hM11)) ?_
    refine x_iconst (dA D_X6_fix 38 rfl) ?_
    refine x_iald (dA D_X6_fix 39 rfl) (sA_5 hM11 (by decide) (by decide)) ?_
    refine x_iconst (dA D_X6_fix 40 rfl) ?_
    refine x_callVN 8 [vI 0, vI (-1), vI (rd M11 5 0), vI (rd M11 5 1), vI 0] [] (dA D_X6_fix 41 rfl) cw_RX6_84 rfl rfl (Nat.le_of_ble_eq_true rfl) (by decide) rfl hd1 (zk k) (zk n) (sO_44 hM11) h (kU (fun M12 h => ?_))
    obtain ⟨hM12, h⟩ := h
    refine x_aload_n (dA D_X6_fix 42 rfl) rfl ?_
    refine x_get (v := vA 44) (dA D_X6_fix 43 rfl) fw_RX6_58 (sO_39 hM12) (congrArg (rfV G) (sR_39_3 hM12)) ?_
    refine x_aload_n (dA D_X6_fix 44 rfl) rfl ?_
    refine x_get (v := vA 1) (dA D_X6_fix 45 rfl) fw_RX6_41 (sO_39 hM12) (congrArg (rfV G) (sR_39_0 hM12)) ?_
    refine x_get (v := vA 5) (dA D_X6_fix 46 rfl) fw_RX6_79 (sO_1 hM12) (congrArg (rfV G) (sR_1_4 hM12)) ?_
    refine x_iconst (dA D_X6_fix 47 rfl) ?_
    refine x_iald (dA D_X6_fix 48 rfl) (sA_5 hM12 (by decide) (by decide)) ?_
    refine x_aload_n (dA D_X6_fix 49 rfl) rfl ?_
    refine x_get (v := vA 1) (dA D_X6_fix 50 rfl) fw_RX6_41 (sO_39 hM12) (congrArg (rfV G) (sR_39_0 hM12)) ?_
    refine x_get (v := vA 5) (dA D_X6_fix 51 rfl) fw_RX6_79 (sO_1 hM12) (congrArg (rfV G) (sR_1_4 hM12)) ?_
    refine x_iconst (dA D_X6_fix 52 rfl) ?_
    refine x_iald (dA D_X6_fix 53 rfl) (sA_5 hM12 (by decide) (by decide)) ?_
    refine x_aload_n (dA D_X6_fix 54 rfl) rfl ?_
    refine x_get (v := vA 42) (dA D_X6_fix 55 rfl) fw_RX6_35 (sO_39 hM12) (congrArg (rfV G) (sR_39_10 hM12)) ?_
    refine x_callV 8 [vI (rd M12 5 0), vI (rd M12 5 1), vA 42] [] (dA D_X6_fix 56 rfl) cw_RX6_94 rfl rfl (Nat.le_of_ble_eq_true rfl) (by decide) rfl hd1 (zk k) (zk n) (sO_44 hM12) h (kU (fun M13 h => ?_))
    obtain ⟨hM13, h⟩ := h
    refine x_iload_n (dA D_X6_fix 57 rfl) rfl ?_
    refine x_if_eqP (tgt := 123) (dA D_X6_fix 58 rfl) (by decide) h1 ⟨fun c => ?_, fun c => ?_⟩
    · have h := h.1 c
      exact h
    · have h := h.2 c
      refine x_aload_n (dA D_X6_fix 59 rfl) rfl ?_
      refine x_get (v := vA 42) (dA D_X6_fix 60 rfl) fw_RX6_35 (sO_39 hM13) (congrArg (rfV G) (sR_39_10 hM13)) ?_
      refine x_aload_n (dA D_X6_fix 61 rfl) rfl ?_
      refine x_get (v := vA 41) (dA D_X6_fix 62 rfl) fw_RX6_31 (sO_39 hM13) (congrArg (rfV G) (sR_39_9 hM13)) ?_
      refine x_iconst (dA D_X6_fix 63 rfl) ?_
      refine x_bipush (dA D_X6_fix 64 rfl) (by decide) (by decide) ?_
      obtain ⟨h14, h⟩ := h
      obtain ⟨h15, h⟩ := h
      obtain ⟨h16, h⟩ := h
      obtain ⟨h17, h⟩ := h
      obtain ⟨h18, h⟩ := h
      refine x_callS [vA 42, vA 41, vI 0, vI 14] [] (dA D_X6_fix 65 rfl) cw_RX6_106 rfl rfl (Nat.le_of_ble_eq_true rfl) hd1 (zk k) (zk n) (T_X2_compare h14 h15 h16 h17 h18 (by omega) ?_) (kI (fun _ _ h => h))
      show X G Y_X6_fix d k n 120 [vA 39, vI x1, vI x2, vI x3] [vI (cmpI (vl (rd M13 (42 : Int)) 0 ((14 : Int)).toNat) (vl (rd M13 (41 : Int)) (0 : Int) ((14 : Int)).toNat))] M13 Q
      obtain ⟨h19, h⟩ := h
      refine x_if_leP (tgt := 140) (dA D_X6_fix 66 rfl) (by decide) h19 ⟨fun c => ?_, fun c => ?_⟩
      · have h := h.1 c
        refine x_iinc (xs' := [vA 39, vI x1, vI x2, vI (x3 + 1)]) (dA D_X6_fix 77 rfl) rfl (by decide) rfl ?_
        refine x_goto (tgt := 17) (dA D_X6_fix 78 rfl) (by decide) ?_
        exact h
      · have h := h.2 c
        exact h
set_option maxRecDepth 100000 in
theorem B_X6_fix_123 {G : GG} {d : Nat} {k n : Nat} {x1 x2 x3 : Int} {M : MM} {Q : PV → MM → Prop} (hd : 1 ≤ d) (hS : Sh M) (h : okO M 42 21 ∧ okO M 41 21 ∧ 0 + 14 ≤ (mT M 42).2 ∧ 0 + 14 ≤ (mT M 41).2 ∧ ∀ M1, M1 = cpM M 42 0 41 0 14 → X G Y_X6_fix d k n 17 [vA 39, vI x3, vI x2, vI (x3 + 1)] [] M1 Q) : X G Y_X6_fix d k n 123 [vA 39, vI x1, vI x2, vI x3] [] M Q := by
  have hd1 : 1 ≤ d := by omega
  refine x_aload_n (dA D_X6_fix 67 rfl) rfl ?_
  refine x_get (v := vA 42) (dA D_X6_fix 68 rfl) fw_RX6_35 (sO_39 hS) (congrArg (rfV G) (sR_39_10 hS)) ?_
  refine x_iconst (dA D_X6_fix 69 rfl) ?_
  refine x_aload_n (dA D_X6_fix 70 rfl) rfl ?_
  refine x_get (v := vA 41) (dA D_X6_fix 71 rfl) fw_RX6_31 (sO_39 hS) (congrArg (rfV G) (sR_39_9 hS)) ?_
  refine x_iconst (dA D_X6_fix 72 rfl) ?_
  refine x_bipush (dA D_X6_fix 73 rfl) (by decide) (by decide) ?_
  obtain ⟨h2, h⟩ := h
  obtain ⟨h3, h⟩ := h
  obtain ⟨h4, h⟩ := h
  obtain ⟨h5, h⟩ := h
  refine x_copy 21 [] (by decide) (dA D_X6_fix 74 rfl) ⟨ml_RX6_110, w_an, w_as, w_ai⟩ (by decide) hd1 h2 h3 (by decide) (by decide) (by decide) h4 h5 (fun e => absurd e (by decide)) ?_
  refine x_nmM (fun M1 eM1 => ?_)
  have h := h M1 eM1
  refine x_iload_n (dA D_X6_fix 75 rfl) rfl ?_
  refine x_istore_n (xs' := [vA 39, vI x3, vI x2, vI x3]) (dA D_X6_fix 76 rfl) (by decide) rfl ?_
  refine x_iinc (xs' := [vA 39, vI x3, vI x2, vI (x3 + 1)]) (dA D_X6_fix 77 rfl) rfl (by decide) rfl ?_
  refine x_goto (tgt := 17) (dA D_X6_fix 78 rfl) (by decide) ?_
  exact h
set_option maxRecDepth 100000 in
theorem B_X6_tells_0 {G : GG} {d : Nat} {k n : Nat} {x1 x2 : Int} {M : MM} {Q : PV → MM → Prop} (hd : 1 ≤ d) (hS : Sh M) (h : inR x1 ∧ inR x2 ∧ ((((x1 ≠ 3) ∨ (x2 ≠ 8)) → X G Y_X6_tells d k n 16 [vA 39, vI x1, vI x2, vU, vU, vU] [] M Q) ∧ (¬ ((x1 ≠ 3) ∨ (x2 ≠ 8)) → Q (vA 41) M))) : X G Y_X6_tells d k n 0 [vA 39, vI x1, vI x2, vU, vU, vU] [] M Q := by
  have hd1 : 1 ≤ d := by omega
  refine x_iload_n (dA D_X6_tells 0 rfl) rfl ?_
  refine x_iconst (dA D_X6_tells 1 rfl) ?_
  obtain ⟨h2, h⟩ := h
  obtain ⟨h6, h⟩ := h
  have hA : ((x1 ≠ 3) ∨ (x2 ≠ 8)) → X G Y_X6_tells d k n 16 [vA 39, vI x1, vI x2, vU, vU, vU] [] M Q := by
    intro c10
    have h := h.1 c10
    exact h
  have hB : ¬ ((x1 ≠ 3) ∨ (x2 ≠ 8)) → X G Y_X6_tells d k n 11 [vA 39, vI x1, vI x2, vU, vU, vU] [] M Q := by
    intro c10
    have h := h.2 c10
    refine x_aload_n (dA D_X6_tells 6 rfl) rfl ?_
    refine x_get (v := vA 41) (dA D_X6_tells 7 rfl) fw_RX6_31 (sO_39 hS) (congrArg (rfV G) (sR_39_9 hS)) ?_
    exact x_areturn (dA D_X6_tells 8 rfl) rfl (by first | exact Or.inr ⟨_, rfl⟩ | exact Or.inl ⟨_, rfl⟩) h
  refine x_icmp_neP (tgt := 16) (dA D_X6_tells 2 rfl) (by decide) h2 ⟨by decide, by decide⟩ ⟨fun c1 => ?_, fun c1 => ?_⟩
  · exact hA (by first | omega | grind)
  · refine x_iload_n (dA D_X6_tells 3 rfl) rfl ?_
    refine x_bipush (dA D_X6_tells 4 rfl) (by decide) (by decide) ?_
    refine x_icmp_neP (tgt := 16) (dA D_X6_tells 5 rfl) (by decide) h6 ⟨by decide, by decide⟩ ⟨fun c5 => ?_, fun c5 => ?_⟩
    · exact hA (by first | omega | grind)
    · exact hB (by first | omega | grind)
theorem C_X6_tells {G : GG} {d : Nat} {x1 x2 : Int} {M : MM} {Q : PV → MM → Prop} (h : X G Y_X6_tells d 0 0 0 [vA 39, vI x1, vI x2, vU, vU, vU] [] M Q) : C G Y_X6_tells d 0 0 [vA 39, vI x1, vI x2] M Q := X.entry (by decide) (Nat.le_of_ble_eq_true rfl) rfl rfl rfl h
set_option maxRecDepth 100000 in
theorem B_X6_tells_16 {G : GG} {d : Nat} {k n : Nat} {x1 x2 : Int} {M : MM} {Q : PV → MM → Prop} (hd : 2 ≤ d) (hS : Sh M) (h : ∀ v1, v1 = rd M 5 0 → ∀ v2, v2 = rd M 5 1 → inR x1 ∧ ((x1 ≠ 2 → X G Y_X6_tells d k n 58 [vA 39, vI x1, vI x2, vI v1, vI v2, vU] [] M Q) ∧ (x1 = 2 → C G Y_X9_settle (d - 1) 0 0 [vA 32, vI 0, vI (-1), vI v1, vI v2, vI 0] M (rU (fun M4 => Sh M4 ∧ X G Y_X6_tells d k n 58 [vA 39, vI x1, vI x2, vI v1, vI v2, vU] [] M4 Q))))) : X G Y_X6_tells d k n 16 [vA 39, vI x1, vI x2, vU, vU, vU] [] M Q := by
  have hd1 : 1 ≤ d := by omega
  refine x_aload_n (dA D_X6_tells 9 rfl) rfl ?_
  refine x_get (v := vA 1) (dA D_X6_tells 10 rfl) fw_RX6_41 (sO_39 hS) (congrArg (rfV G) (sR_39_0 hS)) ?_
  refine x_get (v := vA 5) (dA D_X6_tells 11 rfl) fw_RX6_79 (sO_1 hS) (congrArg (rfV G) (sR_1_4 hS)) ?_
  refine x_iconst (dA D_X6_tells 12 rfl) ?_
  refine x_iald (dA D_X6_tells 13 rfl) (sA_5 hS (by decide) (by decide)) ?_
  refine x_nmI (fun v1 ev1 => ?_)
  have h := h v1 ev1
  refine x_istore_n (xs' := [vA 39, vI x1, vI x2, vI v1, vU, vU]) (dA D_X6_tells 14 rfl) (by decide) rfl ?_
  refine x_aload_n (dA D_X6_tells 15 rfl) rfl ?_
  refine x_get (v := vA 1) (dA D_X6_tells 16 rfl) fw_RX6_41 (sO_39 hS) (congrArg (rfV G) (sR_39_0 hS)) ?_
  refine x_get (v := vA 5) (dA D_X6_tells 17 rfl) fw_RX6_79 (sO_1 hS) (congrArg (rfV G) (sR_1_4 hS)) ?_
  refine x_iconst (dA D_X6_tells 18 rfl) ?_
  refine x_iald (dA D_X6_tells 19 rfl) (sA_5 hS (by decide) (by decide)) ?_
  refine x_nmI (fun v2 ev2 => ?_)
  have h := h v2 ev2
  refine x_istore (xs' := [vA 39, vI x1, vI x2, vI v1, vI v2, vU]) (dA D_X6_tells 20 rfl) (by decide) rfl ?_
  refine x_iload_n (dA D_X6_tells 21 rfl) rfl ?_
  refine x_iconst (dA D_X6_tells 22 rfl) ?_
  obtain ⟨h3, h⟩ := h
  refine x_icmp_neP (tgt := 58) (dA D_X6_tells 23 rfl) (by decide) h3 ⟨by decide, by decide⟩ ⟨fun c => ?_, fun c => ?_⟩
  · have h := h.1 c
    exact h
  · have h := h.2 c
    refine x_aload_n (dA D_X6_tells 24 rfl) rfl ?_
    refine x_get (v := vA 30) (dA D_X6_tells 25 rfl) fw_RX6_49 (sO_39 hS) (congrArg (rfV G) (sR_39_2 hS)) ?_
    refine x_get (v := vA 32) (dA D_X6_tells 26 rfl) fw_RX6_70 (sO_30 hS) (congrArg (rfV G) (sR_30_2 hS)) ?_
    refine x_iconst (dA D_X6_tells 27 rfl) ?_
    refine x_iconst (dA D_X6_tells 28 rfl) ?_
    refine x_iload_n (dA D_X6_tells 29 rfl) rfl ?_
    refine x_iload (dA D_X6_tells 30 rfl) rfl ?_
    refine x_iconst (dA D_X6_tells 31 rfl) ?_
    refine x_callVN 8 [vI 0, vI (-1), vI v1, vI v2, vI 0] [] (dA D_X6_tells 32 rfl) cw_RX6_84 rfl rfl (Nat.le_of_ble_eq_true rfl) (by decide) rfl hd1 (zk k) (zk n) (sO_32 hS) h (kU (fun M4 h => ?_))
    obtain ⟨hM4, h⟩ := h
    exact h
set_option maxRecDepth 100000 in
theorem B_X6_tells_58 {G : GG} {d : Nat} {k n : Nat} {x1 x2 x3 x4 : Int} {M : MM} {Q : PV → MM → Prop} (hd : 2 ≤ d) (hS : Sh M) (h : inR x1 ∧ inR x2 ∧ ((((x1 ≠ 2) ∨ (x2 ≠ 8)) → X G Y_X6_tells d k n 79 [vA 39, vI x1, vI x2, vI x3, vI x4, vU] [] M Q) ∧ (¬ ((x1 ≠ 2) ∨ (x2 ≠ 8)) → C G Y_X9_copyRoot (d - 1) 0 0 [vA 32, vI x3, vI x4, vA 42] M (rU (fun M11 => Sh M11 ∧ Q (vA 42) M11))))) : X G Y_X6_tells d k n 58 [vA 39, vI x1, vI x2, vI x3, vI x4, vU] [] M Q := by
  have hd1 : 1 ≤ d := by omega
  refine x_iload_n (dA D_X6_tells 33 rfl) rfl ?_
  refine x_iconst (dA D_X6_tells 34 rfl) ?_
  obtain ⟨h2, h⟩ := h
  obtain ⟨h6, h⟩ := h
  have hA : ((x1 ≠ 2) ∨ (x2 ≠ 8)) → X G Y_X6_tells d k n 79 [vA 39, vI x1, vI x2, vI x3, vI x4, vU] [] M Q := by
    intro c12
    have h := h.1 c12
    exact h
  have hB : ¬ ((x1 ≠ 2) ∨ (x2 ≠ 8)) → X G Y_X6_tells d k n 83 [vA 39, vI x1, vI x2, vI x3, vI x4, vU] [vA 32] M Q := by
    intro c12
    have h := h.2 c12
    refine x_astore (xs' := [vA 39, vI x1, vI x2, vI x3, vI x4, vA 32]) (dA D_X6_tells 45 rfl) (by decide) rfl ?_
    refine x_aload (dA D_X6_tells 46 rfl) rfl ?_
    refine x_aload_n (dA D_X6_tells 47 rfl) rfl ?_
    refine x_get (v := vA 44) (dA D_X6_tells 48 rfl) fw_RX6_58 (sO_39 hS) (congrArg (rfV G) (sR_39_3 hS)) ?_
    refine x_acmp_ne (tgt := 150) (dA D_X6_tells 49 rfl) (by decide) (by decide) (by decide) ⟨fun c => ?_, fun c => ?_⟩
    · skip
      refine x_aload (dA D_X6_tells 79 rfl) rfl ?_
      refine x_iload_n (dA D_X6_tells 80 rfl) rfl ?_
      refine x_iload (dA D_X6_tells 81 rfl) rfl ?_
      refine x_aload_n (dA D_X6_tells 82 rfl) rfl ?_
      refine x_get (v := vA 42) (dA D_X6_tells 83 rfl) fw_RX6_35 (sO_39 hS) (congrArg (rfV G) (sR_39_10 hS)) ?_
      refine x_callV 8 [vI x3, vI x4, vA 42] [] (dA D_X6_tells 84 rfl) cw_RX6_94 rfl rfl (Nat.le_of_ble_eq_true rfl) (by decide) rfl hd1 (zk k) (zk n) (sO_32 hS) h (kU (fun M11 h => ?_))
      obtain ⟨hM11, h⟩ := h
      refine x_aload_n (dA D_X6_tells 85 rfl) rfl ?_
      refine x_get (v := vA 42) (dA D_X6_tells 86 rfl) fw_RX6_35 (sO_39 hM11) (congrArg (rfV G) (sR_39_10 hM11)) ?_
      exact x_areturn (dA D_X6_tells 87 rfl) rfl (by first | exact Or.inr ⟨_, rfl⟩ | exact Or.inl ⟨_, rfl⟩) h
    · exact absurd (by decide) c
  refine x_icmp_neP (tgt := 79) (dA D_X6_tells 35 rfl) (by decide) h2 ⟨by decide, by decide⟩ ⟨fun c1 => ?_, fun c1 => ?_⟩
  · exact hA (by first | omega | grind)
  · refine x_iload_n (dA D_X6_tells 36 rfl) rfl ?_
    refine x_bipush (dA D_X6_tells 37 rfl) (by decide) (by decide) ?_
    refine x_icmp_neP (tgt := 79) (dA D_X6_tells 38 rfl) (by decide) h6 ⟨by decide, by decide⟩ ⟨fun c5 => ?_, fun c5 => ?_⟩
    · exact hA (by first | omega | grind)
    · refine x_aload_n (dA D_X6_tells 39 rfl) rfl ?_
      refine x_get (v := vA 30) (dA D_X6_tells 40 rfl) fw_RX6_49 (sO_39 hS) (congrArg (rfV G) (sR_39_2 hS)) ?_
      refine x_get (v := vA 32) (dA D_X6_tells 41 rfl) fw_RX6_70 (sO_30 hS) (congrArg (rfV G) (sR_30_2 hS)) ?_
      refine x_goto (tgt := 83) (dA D_X6_tells 42 rfl) (by decide) ?_
      exact hB (by first | omega | grind)
set_option maxRecDepth 100000 in
theorem B_X6_tells_79 {G : GG} {d : Nat} {k n : Nat} {x1 x2 x3 x4 : Int} {M : MM} {Q : PV → MM → Prop} (hd : 2 ≤ d) (hS : Sh M) (h : inR (rd M 39 4) ∧ inR (rd M 44 10) ∧ inR x1 ∧ inR (rd M 44 11) ∧ inR x2 ∧ (((((rd M 39 4) = 0) ∨ (((rd M 44 10) ≠ x1) ∨ ((rd M 44 11) ≠ x2))) → ∀ M17, M17 = begM M (44 : Int) x1 x2 → Sh M17 → ∀ M18, M18 = wr M17 39 4 1 → Sh M18 → X G Y_X6_tells d k n 137 [vA 39, vI x1, vI x2, vI x3, vI x4, vA 44] [] M18 Q) ∧ (¬ (((rd M 39 4) = 0) ∨ (((rd M 44 10) ≠ x1) ∨ ((rd M 44 11) ≠ x2))) → X G Y_X6_tells d k n 137 [vA 39, vI x1, vI x2, vI x3, vI x4, vA 44] [] M Q))) : X G Y_X6_tells d k n 79 [vA 39, vI x1, vI x2, vI x3, vI x4, vU] [] M Q := by
  have hd1 : 1 ≤ d := by omega
  refine x_aload_n (dA D_X6_tells 43 rfl) rfl ?_
  refine x_get (v := vA 44) (dA D_X6_tells 44 rfl) fw_RX6_58 (sO_39 hS) (congrArg (rfV G) (sR_39_3 hS)) ?_
  refine x_astore (xs' := [vA 39, vI x1, vI x2, vI x3, vI x4, vA 44]) (dA D_X6_tells 45 rfl) (by decide) rfl ?_
  refine x_aload (dA D_X6_tells 46 rfl) rfl ?_
  refine x_aload_n (dA D_X6_tells 47 rfl) rfl ?_
  refine x_get (v := vA 44) (dA D_X6_tells 48 rfl) fw_RX6_58 (sO_39 hS) (congrArg (rfV G) (sR_39_3 hS)) ?_
  refine x_acmp_ne (tgt := 150) (dA D_X6_tells 49 rfl) (by decide) (by decide) (by decide) ⟨fun c => ?_, fun c => ?_⟩
  · exact absurd c (by decide)
  · skip
    refine x_aload_n (dA D_X6_tells 50 rfl) rfl ?_
    refine x_get (v := vI (rd M 39 4)) (dA D_X6_tells 51 rfl) fw_RX6_9 (sO_39 hS) rfl ?_
    obtain ⟨h2, h⟩ := h
    obtain ⟨h8, h⟩ := h
    obtain ⟨h9, h⟩ := h
    obtain ⟨h15, h⟩ := h
    obtain ⟨h16, h⟩ := h
    have hA : (((rd M 39 4) = 0) ∨ (((rd M 44 10) ≠ x1) ∨ ((rd M 44 11) ≠ x2))) → X G Y_X6_tells d k n 123 [vA 39, vI x1, vI x2, vI x3, vI x4, vA 44] [] M Q := by
      intro c19
      have h := h.1 c19
      refine x_aload_n (dA D_X6_tells 63 rfl) rfl ?_
      refine x_get (v := vA 44) (dA D_X6_tells 64 rfl) fw_RX6_58 (sO_39 hS) (congrArg (rfV G) (sR_39_3 hS)) ?_
      refine x_iload_n (dA D_X6_tells 65 rfl) rfl ?_
      refine x_iload_n (dA D_X6_tells 66 rfl) rfl ?_
      refine x_callV 8 [vI x1, vI x2] [] (dA D_X6_tells 67 rfl) cw_RX6_75 rfl rfl (Nat.le_of_ble_eq_true rfl) (by decide) rfl hd1 (zk k) (zk n) (sO_44 hS) (S_X9_begins (z := 44) (Or.inr rfl) hS  (by omega) ?_) (kU (fun _ h => h))
      refine x_nmM (fun M17 eM17 => ?_)
      have hM17 : Sh M17 := eM17 ▸ (sBeg (by decide) hS)
      have h := h M17 eM17 hM17
      show X G Y_X6_tells d k n 132 [vA 39, vI x1, vI x2, vI x3, vI x4, vA 44] [] M17 Q
      refine x_aload_n (dA D_X6_tells 68 rfl) rfl ?_
      refine x_iconst (dA D_X6_tells 69 rfl) ?_
      refine x_put (x := 1) (dA D_X6_tells 70 rfl) fw_RX6_9 (fun _ _ hc => by cases hc; exact Or.inl rfl) (sO_39 hM17) rfl (z_nar (by decide)) (z_fit (by decide)) ?_
      refine x_nmM (fun M18 eM18 => ?_)
      have hM18 : Sh M18 := eM18 ▸ (sW_39_4 hM17)
      have h := h M18 eM18 hM18
      exact h
    have hB : ¬ (((rd M 39 4) = 0) ∨ (((rd M 44 10) ≠ x1) ∨ ((rd M 44 11) ≠ x2))) → X G Y_X6_tells d k n 137 [vA 39, vI x1, vI x2, vI x3, vI x4, vA 44] [] M Q := by
      intro c19
      have h := h.2 c19
      exact h
    refine x_if_eqP (tgt := 123) (dA D_X6_tells 52 rfl) (by decide) h2 ⟨fun c1 => ?_, fun c1 => ?_⟩
    · exact hA (by first | omega | grind)
    · refine x_aload_n (dA D_X6_tells 53 rfl) rfl ?_
      refine x_get (v := vA 44) (dA D_X6_tells 54 rfl) fw_RX6_58 (sO_39 hS) (congrArg (rfV G) (sR_39_3 hS)) ?_
      refine x_get (v := vI (rd M 44 10)) (dA D_X6_tells 55 rfl) fw_RX6_88 (sO_44 hS) rfl ?_
      refine x_iload_n (dA D_X6_tells 56 rfl) rfl ?_
      refine x_icmp_neP (tgt := 123) (dA D_X6_tells 57 rfl) (by decide) h8 h9 ⟨fun c7 => ?_, fun c7 => ?_⟩
      · exact hA (by first | omega | grind)
      · refine x_aload_n (dA D_X6_tells 58 rfl) rfl ?_
        refine x_get (v := vA 44) (dA D_X6_tells 59 rfl) fw_RX6_58 (sO_39 hS) (congrArg (rfV G) (sR_39_3 hS)) ?_
        refine x_get (v := vI (rd M 44 11)) (dA D_X6_tells 60 rfl) fw_RX6_91 (sO_44 hS) rfl ?_
        refine x_iload_n (dA D_X6_tells 61 rfl) rfl ?_
        refine x_icmp_eqP (tgt := 137) (dA D_X6_tells 62 rfl) (by decide) h15 h16 ⟨fun c14 => ?_, fun c14 => ?_⟩
        · exact hB (by first | omega | grind)
        · exact hA (by first | omega | grind)
set_option maxRecDepth 100000 in
theorem B_X6_tells_137 {G : GG} {d : Nat} {k n : Nat} {x1 x2 x3 x4 x5 : Int} {M : MM} {Q : PV → MM → Prop} (hd : 2 ≤ d) (hS : Sh M) (h : C G Y_X9_settle (d - 1) 0 0 [vA 44, vI 0, vI (-1), vI x3, vI x4, vI 0] M (rU (fun M1 => Sh M1 ∧ okO M1 x5 8 ∧ C G Y_X9_copyRoot (d - 1) 0 0 [vA x5, vI x3, vI x4, vA 42] M1 (rU (fun M3 => Sh M3 ∧ Q (vA 42) M3))))) : X G Y_X6_tells d k n 137 [vA 39, vI x1, vI x2, vI x3, vI x4, vA x5] [] M Q := by
  have hd1 : 1 ≤ d := by omega
  refine x_aload_n (dA D_X6_tells 71 rfl) rfl ?_
  refine x_get (v := vA 44) (dA D_X6_tells 72 rfl) fw_RX6_58 (sO_39 hS) (congrArg (rfV G) (sR_39_3 hS)) ?_
  refine x_iconst (dA D_X6_tells 73 rfl) ?_
  refine x_iconst (dA D_X6_tells 74 rfl) ?_
  refine x_iload_n (dA D_X6_tells 75 rfl) rfl ?_
  refine x_iload (dA D_X6_tells 76 rfl) rfl ?_
  refine x_iconst (dA D_X6_tells 77 rfl) ?_
  refine x_callVN 8 [vI 0, vI (-1), vI x3, vI x4, vI 0] [] (dA D_X6_tells 78 rfl) cw_RX6_84 rfl rfl (Nat.le_of_ble_eq_true rfl) (by decide) rfl hd1 (zk k) (zk n) (sO_44 hS) h (kU (fun M1 h => ?_))
  obtain ⟨hM1, h⟩ := h
  refine x_aload (dA D_X6_tells 79 rfl) rfl ?_
  refine x_iload_n (dA D_X6_tells 80 rfl) rfl ?_
  refine x_iload (dA D_X6_tells 81 rfl) rfl ?_
  refine x_aload_n (dA D_X6_tells 82 rfl) rfl ?_
  refine x_get (v := vA 42) (dA D_X6_tells 83 rfl) fw_RX6_35 (sO_39 hM1) (congrArg (rfV G) (sR_39_10 hM1)) ?_
  obtain ⟨h2, h⟩ := h
  refine x_callV 8 [vI x3, vI x4, vA 42] [] (dA D_X6_tells 84 rfl) cw_RX6_94 rfl rfl (Nat.le_of_ble_eq_true rfl) (by decide) rfl hd1 (zk k) (zk n) h2 h (kU (fun M3 h => ?_))
  obtain ⟨hM3, h⟩ := h
  refine x_aload_n (dA D_X6_tells 85 rfl) rfl ?_
  refine x_get (v := vA 42) (dA D_X6_tells 86 rfl) fw_RX6_35 (sO_39 hM3) (congrArg (rfV G) (sR_39_10 hM3)) ?_
  exact x_areturn (dA D_X6_tells 87 rfl) rfl (by first | exact Or.inr ⟨_, rfl⟩ | exact Or.inl ⟨_, rfl⟩) h
set_option maxRecDepth 100000 in
theorem B_X6_gap_0 {G : GG} {d : Nat} {k n : Nat} {M : MM} {Q : PV → MM → Prop} (hd : 2 ≤ d) (hS : Sh M) (h : (0 ≤ (14 : Int) ∧ (14 : Int) ≤ 14) ∧ Ar M (42 : Int) 0 ((14 : Int)).toNat ∧ Ar M (43 : Int) (0 : Int) ((14 : Int)).toNat ∧ nrm (rd M (42 : Int)) 0 ((14 : Int)).toNat ∧ nrm (rd M (43 : Int)) (0 : Int) ((14 : Int)).toNat ∧ inR (cmpI (vl (rd M (42 : Int)) 0 ((14 : Int)).toNat) (vl (rd M (43 : Int)) (0 : Int) ((14 : Int)).toNat)) ∧ (((cmpI (vl (rd M (42 : Int)) 0 ((14 : Int)).toNat) (vl (rd M (43 : Int)) (0 : Int) ((14 : Int)).toNat)) < 0 → Ar M (43 : Int) 0 14 ∧ Ar M (42 : Int) 0 14 ∧ (43 : Int) ≠ (42 : Int) ∧ nrm (rd M (43 : Int)) 0 14 ∧ nrm (rd M (42 : Int)) 0 14 ∧ vl (rd M (42 : Int)) 0 14 ≤ vl (rd M (43 : Int)) 0 14 ∧ ∀ M13, (Ch M M13 (43 : Int) 0 14 ∧ nrm (rd M13 (43 : Int)) 0 14 ∧ vl (rd M13 (43 : Int)) 0 14 = vl (rd M (43 : Int)) 0 14 - vl (rd M (42 : Int)) 0 14) → Sh M13 → C G Y_X2_above (d - 1) 0 0 [vA 43, vI 98] M13 (rI (fun r17 M16 => Sh M16 ∧ Q (vI (-r17)) M16))) ∧ (0 ≤ (cmpI (vl (rd M (42 : Int)) 0 ((14 : Int)).toNat) (vl (rd M (43 : Int)) (0 : Int) ((14 : Int)).toNat)) → Ar M (42 : Int) 0 14 ∧ Ar M (43 : Int) 0 14 ∧ (42 : Int) ≠ (43 : Int) ∧ nrm (rd M (42 : Int)) 0 14 ∧ nrm (rd M (43 : Int)) 0 14 ∧ vl (rd M (43 : Int)) 0 14 ≤ vl (rd M (42 : Int)) 0 14 ∧ ∀ M24, (Ch M M24 (42 : Int) 0 14 ∧ nrm (rd M24 (42 : Int)) 0 14 ∧ vl (rd M24 (42 : Int)) 0 14 = vl (rd M (42 : Int)) 0 14 - vl (rd M (43 : Int)) 0 14) → Sh M24 → C G Y_X2_above (d - 1) 0 0 [vA 42, vI 98] M24 (rI (fun r28 M27 => Sh M27 ∧ Q (vI r28) M27))))) : X G Y_X6_gap d k n 0 [vA 39] [] M Q := by
  have hd1 : 1 ≤ d := by omega
  refine x_aload_n (dA D_X6_gap 0 rfl) rfl ?_
  refine x_get (v := vA 42) (dA D_X6_gap 1 rfl) fw_RX6_35 (sO_39 hS) (congrArg (rfV G) (sR_39_10 hS)) ?_
  refine x_aload_n (dA D_X6_gap 2 rfl) rfl ?_
  refine x_get (v := vA 43) (dA D_X6_gap 3 rfl) fw_RX6_38 (sO_39 hS) (congrArg (rfV G) (sR_39_11 hS)) ?_
  refine x_iconst (dA D_X6_gap 4 rfl) ?_
  refine x_bipush (dA D_X6_gap 5 rfl) (by decide) (by decide) ?_
  obtain ⟨h1, h⟩ := h
  obtain ⟨h2, h⟩ := h
  obtain ⟨h3, h⟩ := h
  obtain ⟨h4, h⟩ := h
  obtain ⟨h5, h⟩ := h
  refine x_callS [vA 42, vA 43, vI 0, vI 14] [] (dA D_X6_gap 6 rfl) cw_RX6_106 rfl rfl (Nat.le_of_ble_eq_true rfl) hd1 (zk k) (zk n) (T_X2_compare h1 h2 h3 h4 h5 (by omega) ?_) (kI (fun _ _ h => h))
  show X G Y_X6_gap d k n 14 [vA 39] [vI (cmpI (vl (rd M (42 : Int)) 0 ((14 : Int)).toNat) (vl (rd M (43 : Int)) (0 : Int) ((14 : Int)).toNat))] M Q
  obtain ⟨h6, h⟩ := h
  refine x_if_ltP (tgt := 38) (dA D_X6_gap 7 rfl) (by decide) h6 ⟨fun c => ?_, fun c => ?_⟩
  · have h := h.1 c
    refine x_aload_n (dA D_X6_gap 18 rfl) rfl ?_
    refine x_get (v := vA 43) (dA D_X6_gap 19 rfl) fw_RX6_38 (sO_39 hS) (congrArg (rfV G) (sR_39_11 hS)) ?_
    refine x_aload_n (dA D_X6_gap 20 rfl) rfl ?_
    refine x_get (v := vA 42) (dA D_X6_gap 21 rfl) fw_RX6_35 (sO_39 hS) (congrArg (rfV G) (sR_39_10 hS)) ?_
    obtain ⟨h7, h⟩ := h
    obtain ⟨h8, h⟩ := h
    obtain ⟨h9, h⟩ := h
    obtain ⟨h10, h⟩ := h
    obtain ⟨h11, h⟩ := h
    obtain ⟨h12, h⟩ := h
    refine x_callS [vA 43, vA 42] [] (dA D_X6_gap 22 rfl) cw_RX6_130 rfl rfl (Nat.le_of_ble_eq_true rfl) hd1 (zk k) (zk n) (T_X2_subtract hS h7 h8 h9 h10 h11 h12 (by omega) (fun M13 p15 hM13 => ?_)) (kU (fun _ h => h))
    have h := h M13 p15 hM13
    show X G Y_X6_gap d k n 49 [vA 39] [] M13 Q
    refine x_aload_n (dA D_X6_gap 23 rfl) rfl ?_
    refine x_get (v := vA 43) (dA D_X6_gap 24 rfl) fw_RX6_38 (sO_39 hM13) (congrArg (rfV G) (sR_39_11 hM13)) ?_
    refine x_bipush (dA D_X6_gap 25 rfl) (by decide) (by decide) ?_
    refine x_callS [vA 43, vI 98] [] (dA D_X6_gap 26 rfl) cw_RX6_134 rfl rfl (Nat.le_of_ble_eq_true rfl) hd1 (zk k) (zk n) h (kI (fun r17 M16 h => ?_))
    obtain ⟨hM16, h⟩ := h
    refine x_ineg (dA D_X6_gap 27 rfl) ?_
    exact x_ireturn (dA D_X6_gap 28 rfl) rfl h
  · have h := h.2 c
    refine x_aload_n (dA D_X6_gap 8 rfl) rfl ?_
    refine x_get (v := vA 42) (dA D_X6_gap 9 rfl) fw_RX6_35 (sO_39 hS) (congrArg (rfV G) (sR_39_10 hS)) ?_
    refine x_aload_n (dA D_X6_gap 10 rfl) rfl ?_
    refine x_get (v := vA 43) (dA D_X6_gap 11 rfl) fw_RX6_38 (sO_39 hS) (congrArg (rfV G) (sR_39_11 hS)) ?_
    obtain ⟨h18, h⟩ := h
    obtain ⟨h19, h⟩ := h
    obtain ⟨h20, h⟩ := h
    obtain ⟨h21, h⟩ := h
    obtain ⟨h22, h⟩ := h
    obtain ⟨h23, h⟩ := h
    refine x_callS [vA 42, vA 43] [] (dA D_X6_gap 12 rfl) cw_RX6_130 rfl rfl (Nat.le_of_ble_eq_true rfl) hd1 (zk k) (zk n) (T_X2_subtract hS h18 h19 h20 h21 h22 h23 (by omega) (fun M24 p26 hM24 => ?_)) (kU (fun _ h => h))
    have h := h M24 p26 hM24
    show X G Y_X6_gap d k n 28 [vA 39] [] M24 Q
    refine x_aload_n (dA D_X6_gap 13 rfl) rfl ?_
    refine x_get (v := vA 42) (dA D_X6_gap 14 rfl) fw_RX6_35 (sO_39 hM24) (congrArg (rfV G) (sR_39_10 hM24)) ?_
    refine x_bipush (dA D_X6_gap 15 rfl) (by decide) (by decide) ?_
    refine x_callS [vA 42, vI 98] [] (dA D_X6_gap 16 rfl) cw_RX6_134 rfl rfl (Nat.le_of_ble_eq_true rfl) hd1 (zk k) (zk n) h (kI (fun r28 M27 h => ?_))
    obtain ⟨hM27, h⟩ := h
    exact x_ireturn (dA D_X6_gap 17 rfl) rfl h
theorem C_X6_gap {G : GG} {d : Nat} {M : MM} {Q : PV → MM → Prop} (h : X G Y_X6_gap d 0 0 0 [vA 39] [] M Q) : C G Y_X6_gap d 0 0 [vA 39] M Q := X.entry (by decide) (Nat.le_of_ble_eq_true rfl) rfl rfl rfl h
set_option maxRecDepth 100000 in
theorem B_X6_seeingGap_0 {G : GG} {d : Nat} {k n : Nat} {M : MM} {Q : PV → MM → Prop} (hd : 2 ≤ d) (hS : Sh M) (h : C G Y_X9_settle (d - 1) 0 0 [vA 32, vI 0, vI (-1), vI (rd M 5 0), vI (rd M 5 1), vI 0] M (rU (fun M1 => Sh M1 ∧ C G Y_X9_copyRoot (d - 1) 0 0 [vA 32, vI (rd M1 5 0), vI (rd M1 5 1), vA 42] M1 (rU (fun M2 => Sh M2 ∧ okO M2 41 21 ∧ okO M2 43 21 ∧ 0 + 14 ≤ (mT M2 41).2 ∧ 0 + 14 ≤ (mT M2 43).2 ∧ ∀ M3, M3 = cpM M2 41 0 43 0 14 → okO M3 39 5 ∧ C G Y_X6_gap (d - 1) 0 0 [vA 39] M3 (rI (fun r10 M9 => Sh M9 ∧ Q (vI r10) M9))))))) : X G Y_X6_seeingGap d k n 0 [vA 39] [] M Q := by
  have hd1 : 1 ≤ d := by omega
  refine x_aload_n (dA D_X6_seeingGap 0 rfl) rfl ?_
  refine x_get (v := vA 30) (dA D_X6_seeingGap 1 rfl) fw_RX6_49 (sO_39 hS) (congrArg (rfV G) (sR_39_2 hS)) ?_
  refine x_get (v := vA 32) (dA D_X6_seeingGap 2 rfl) fw_RX6_70 (sO_30 hS) (congrArg (rfV G) (sR_30_2 hS)) ?_
  refine x_iconst (dA D_X6_seeingGap 3 rfl) ?_
  refine x_iconst (dA D_X6_seeingGap 4 rfl) ?_
  refine x_aload_n (dA D_X6_seeingGap 5 rfl) rfl ?_
  refine x_get (v := vA 1) (dA D_X6_seeingGap 6 rfl) fw_RX6_41 (sO_39 hS) (congrArg (rfV G) (sR_39_0 hS)) ?_
  refine x_get (v := vA 5) (dA D_X6_seeingGap 7 rfl) fw_RX6_79 (sO_1 hS) (congrArg (rfV G) (sR_1_4 hS)) ?_
  refine x_iconst (dA D_X6_seeingGap 8 rfl) ?_
  refine x_iald (dA D_X6_seeingGap 9 rfl) (sA_5 hS (by decide) (by decide)) ?_
  refine x_aload_n (dA D_X6_seeingGap 10 rfl) rfl ?_
  refine x_get (v := vA 1) (dA D_X6_seeingGap 11 rfl) fw_RX6_41 (sO_39 hS) (congrArg (rfV G) (sR_39_0 hS)) ?_
  refine x_get (v := vA 5) (dA D_X6_seeingGap 12 rfl) fw_RX6_79 (sO_1 hS) (congrArg (rfV G) (sR_1_4 hS)) ?_
  refine x_iconst (dA D_X6_seeingGap 13 rfl) ?_
  refine x_iald (dA D_X6_seeingGap 14 rfl) (sA_5 hS (by decide) (by decide)) ?_
  refine x_iconst (dA D_X6_seeingGap 15 rfl) ?_
  refine x_callVN 8 [vI 0, vI (-1), vI (rd M 5 0), vI (rd M 5 1), vI 0] [] (dA D_X6_seeingGap 16 rfl) cw_RX6_84 rfl rfl (Nat.le_of_ble_eq_true rfl) (by decide) rfl hd1 (zk k) (zk n) (sO_32 hS) h (kU (fun M1 h => ?_))
  obtain ⟨hM1, h⟩ := h
  refine x_aload_n (dA D_X6_seeingGap 17 rfl) rfl ?_
  refine x_get (v := vA 30) (dA D_X6_seeingGap 18 rfl) fw_RX6_49 (sO_39 hM1) (congrArg (rfV G) (sR_39_2 hM1)) ?_
  refine x_get (v := vA 32) (dA D_X6_seeingGap 19 rfl) fw_RX6_70 (sO_30 hM1) (congrArg (rfV G) (sR_30_2 hM1)) ?_
  refine x_aload_n (dA D_X6_seeingGap 20 rfl) rfl ?_
  refine x_get (v := vA 1) (dA D_X6_seeingGap 21 rfl) fw_RX6_41 (sO_39 hM1) (congrArg (rfV G) (sR_39_0 hM1)) ?_
  refine x_get (v := vA 5) (dA D_X6_seeingGap 22 rfl) fw_RX6_79 (sO_1 hM1) (congrArg (rfV G) (sR_1_4 hM1)) ?_
  refine x_iconst (dA D_X6_seeingGap 23 rfl) ?_
  refine x_iald (dA D_X6_seeingGap 24 rfl) (sA_5 hM1 (by decide) (by decide)) ?_
  refine x_aload_n (dA D_X6_seeingGap 25 rfl) rfl ?_
  refine x_get (v := vA 1) (dA D_X6_seeingGap 26 rfl) fw_RX6_41 (sO_39 hM1) (congrArg (rfV G) (sR_39_0 hM1)) ?_
  refine x_get (v := vA 5) (dA D_X6_seeingGap 27 rfl) fw_RX6_79 (sO_1 hM1) (congrArg (rfV G) (sR_1_4 hM1)) ?_
  refine x_iconst (dA D_X6_seeingGap 28 rfl) ?_
  refine x_iald (dA D_X6_seeingGap 29 rfl) (sA_5 hM1 (by decide) (by decide)) ?_
  refine x_aload_n (dA D_X6_seeingGap 30 rfl) rfl ?_
  refine x_get (v := vA 42) (dA D_X6_seeingGap 31 rfl) fw_RX6_35 (sO_39 hM1) (congrArg (rfV G) (sR_39_10 hM1)) ?_
  refine x_callV 8 [vI (rd M1 5 0), vI (rd M1 5 1), vA 42] [] (dA D_X6_seeingGap 32 rfl) cw_RX6_94 rfl rfl (Nat.le_of_ble_eq_true rfl) (by decide) rfl hd1 (zk k) (zk n) (sO_32 hM1) h (kU (fun M2 h => ?_))
  obtain ⟨hM2, h⟩ := h
  refine x_aload_n (dA D_X6_seeingGap 33 rfl) rfl ?_
  refine x_get (v := vA 41) (dA D_X6_seeingGap 34 rfl) fw_RX6_31 (sO_39 hM2) (congrArg (rfV G) (sR_39_9 hM2)) ?_
  refine x_iconst (dA D_X6_seeingGap 35 rfl) ?_
  refine x_aload_n (dA D_X6_seeingGap 36 rfl) rfl ?_
  refine x_get (v := vA 43) (dA D_X6_seeingGap 37 rfl) fw_RX6_38 (sO_39 hM2) (congrArg (rfV G) (sR_39_11 hM2)) ?_
  refine x_iconst (dA D_X6_seeingGap 38 rfl) ?_
  refine x_bipush (dA D_X6_seeingGap 39 rfl) (by decide) (by decide) ?_
  obtain ⟨h4, h⟩ := h
  obtain ⟨h5, h⟩ := h
  obtain ⟨h6, h⟩ := h
  obtain ⟨h7, h⟩ := h
  refine x_copy 21 [] (by decide) (dA D_X6_seeingGap 40 rfl) ⟨ml_RX6_110, w_an, w_as, w_ai⟩ (by decide) hd1 h4 h5 (by decide) (by decide) (by decide) h6 h7 (fun e => absurd e (by decide)) ?_
  refine x_nmM (fun M3 eM3 => ?_)
  have h := h M3 eM3
  refine x_aload_n (dA D_X6_seeingGap 41 rfl) rfl ?_
  obtain ⟨h8, h⟩ := h
  refine x_callV 5 [] [] (dA D_X6_seeingGap 42 rfl) cw_RX6_127 rfl rfl (Nat.le_of_ble_eq_true rfl) (by decide) rfl hd1 (zk k) (zk n) h8 h (kI (fun r10 M9 h => ?_))
  obtain ⟨hM9, h⟩ := h
  exact x_ireturn (dA D_X6_seeingGap 43 rfl) rfl h
theorem C_X6_seeingGap {G : GG} {d : Nat} {M : MM} {Q : PV → MM → Prop} (h : X G Y_X6_seeingGap d 0 0 0 [vA 39] [] M Q) : C G Y_X6_seeingGap d 0 0 [vA 39] M Q := X.entry (by decide) (Nat.le_of_ble_eq_true rfl) rfl rfl rfl h
set_option maxRecDepth 100000 in
theorem B_X6_lossGap_0 {G : GG} {d : Nat} {k n : Nat} {x1 : Int} {M : MM} {Q : PV → MM → Prop} (hd : 2 ≤ d) (hS : Sh M) (h : ∀ v1, v1 = rd M 5 0 → ∀ v2, v2 = rd M 5 1 → inR x1 ∧ ∀ v10, v10 = (if x1 ≠ 0 then v1 else (v1 - 1)) → ∀ v17, v17 = (if x1 ≠ 1 then v2 else (v2 - 1)) → C G Y_X9_settle (d - 1) 0 0 [vA 32, vI 0, vI (-1), vI v1, vI v2, vI 0] M (rU (fun M18 => Sh M18 ∧ C G Y_X9_copyRoot (d - 1) 0 0 [vA 32, vI v1, vI v2, vA 42] M18 (rU (fun M19 => Sh M19 ∧ C G Y_X9_settle (d - 1) 0 0 [vA 32, vI 0, vI (-1), vI v10, vI v17, vI 0] M19 (rU (fun M20 => Sh M20 ∧ C G Y_X9_copyRoot (d - 1) 0 0 [vA 32, vI v10, vI v17, vA 43] M20 (rU (fun M21 => Sh M21 ∧ C G Y_X6_gap (d - 1) 0 0 [vA 39] M21 (rI (fun r23 M22 => Sh M22 ∧ Q (vI r23) M22))))))))))) : X G Y_X6_lossGap d k n 0 [vA 39, vI x1, vU, vU, vU, vU] [] M Q := by
  have hd1 : 1 ≤ d := by omega
  refine x_aload_n (dA D_X6_lossGap 0 rfl) rfl ?_
  refine x_get (v := vA 1) (dA D_X6_lossGap 1 rfl) fw_RX6_41 (sO_39 hS) (congrArg (rfV G) (sR_39_0 hS)) ?_
  refine x_get (v := vA 5) (dA D_X6_lossGap 2 rfl) fw_RX6_79 (sO_1 hS) (congrArg (rfV G) (sR_1_4 hS)) ?_
  refine x_iconst (dA D_X6_lossGap 3 rfl) ?_
  refine x_iald (dA D_X6_lossGap 4 rfl) (sA_5 hS (by decide) (by decide)) ?_
  refine x_nmI (fun v1 ev1 => ?_)
  have h := h v1 ev1
  refine x_istore_n (xs' := [vA 39, vI x1, vI v1, vU, vU, vU]) (dA D_X6_lossGap 5 rfl) (by decide) rfl ?_
  refine x_aload_n (dA D_X6_lossGap 6 rfl) rfl ?_
  refine x_get (v := vA 1) (dA D_X6_lossGap 7 rfl) fw_RX6_41 (sO_39 hS) (congrArg (rfV G) (sR_39_0 hS)) ?_
  refine x_get (v := vA 5) (dA D_X6_lossGap 8 rfl) fw_RX6_79 (sO_1 hS) (congrArg (rfV G) (sR_1_4 hS)) ?_
  refine x_iconst (dA D_X6_lossGap 9 rfl) ?_
  refine x_iald (dA D_X6_lossGap 10 rfl) (sA_5 hS (by decide) (by decide)) ?_
  refine x_nmI (fun v2 ev2 => ?_)
  have h := h v2 ev2
  refine x_istore_n (xs' := [vA 39, vI x1, vI v1, vI v2, vU, vU]) (dA D_X6_lossGap 11 rfl) (by decide) rfl ?_
  refine x_iload_n (dA D_X6_lossGap 12 rfl) rfl ?_
  obtain ⟨h4, h⟩ := h
  have hJ : X G Y_X6_lossGap d k n 31 [vA 39, vI x1, vI v1, vI v2, vU, vU] [vI (if x1 ≠ 0 then v1 else (v1 - 1))] M Q := by
    refine x_nmI (fun v10 ev10 => ?_)
    have h := h v10 ev10
    refine x_istore (xs' := [vA 39, vI x1, vI v1, vI v2, vI v10, vU]) (dA D_X6_lossGap 19 rfl) (by decide) rfl ?_
    refine x_iload_n (dA D_X6_lossGap 20 rfl) rfl ?_
    refine x_iconst (dA D_X6_lossGap 21 rfl) ?_
    have hJ : X G Y_X6_lossGap d k n 45 [vA 39, vI x1, vI v1, vI v2, vI v10, vU] [vI (if x1 ≠ 1 then v2 else (v2 - 1))] M Q := by
      refine x_nmI (fun v17 ev17 => ?_)
      have h := h v17 ev17
      refine x_istore (xs' := [vA 39, vI x1, vI v1, vI v2, vI v10, vI v17]) (dA D_X6_lossGap 28 rfl) (by decide) rfl ?_
      refine x_aload_n (dA D_X6_lossGap 29 rfl) rfl ?_
      refine x_get (v := vA 30) (dA D_X6_lossGap 30 rfl) fw_RX6_49 (sO_39 hS) (congrArg (rfV G) (sR_39_2 hS)) ?_
      refine x_get (v := vA 32) (dA D_X6_lossGap 31 rfl) fw_RX6_70 (sO_30 hS) (congrArg (rfV G) (sR_30_2 hS)) ?_
      refine x_iconst (dA D_X6_lossGap 32 rfl) ?_
      refine x_iconst (dA D_X6_lossGap 33 rfl) ?_
      refine x_iload_n (dA D_X6_lossGap 34 rfl) rfl ?_
      refine x_iload_n (dA D_X6_lossGap 35 rfl) rfl ?_
      refine x_iconst (dA D_X6_lossGap 36 rfl) ?_
      refine x_callVN 8 [vI 0, vI (-1), vI v1, vI v2, vI 0] [] (dA D_X6_lossGap 37 rfl) cw_RX6_84 rfl rfl (Nat.le_of_ble_eq_true rfl) (by decide) rfl hd1 (zk k) (zk n) (sO_32 hS) h (kU (fun M18 h => ?_))
      obtain ⟨hM18, h⟩ := h
      refine x_aload_n (dA D_X6_lossGap 38 rfl) rfl ?_
      refine x_get (v := vA 30) (dA D_X6_lossGap 39 rfl) fw_RX6_49 (sO_39 hM18) (congrArg (rfV G) (sR_39_2 hM18)) ?_
      refine x_get (v := vA 32) (dA D_X6_lossGap 40 rfl) fw_RX6_70 (sO_30 hM18) (congrArg (rfV G) (sR_30_2 hM18)) ?_
      refine x_iload_n (dA D_X6_lossGap 41 rfl) rfl ?_
      refine x_iload_n (dA D_X6_lossGap 42 rfl) rfl ?_
      refine x_aload_n (dA D_X6_lossGap 43 rfl) rfl ?_
      refine x_get (v := vA 42) (dA D_X6_lossGap 44 rfl) fw_RX6_35 (sO_39 hM18) (congrArg (rfV G) (sR_39_10 hM18)) ?_
      refine x_callV 8 [vI v1, vI v2, vA 42] [] (dA D_X6_lossGap 45 rfl) cw_RX6_94 rfl rfl (Nat.le_of_ble_eq_true rfl) (by decide) rfl hd1 (zk k) (zk n) (sO_32 hM18) h (kU (fun M19 h => ?_))
      obtain ⟨hM19, h⟩ := h
      refine x_aload_n (dA D_X6_lossGap 46 rfl) rfl ?_
      refine x_get (v := vA 30) (dA D_X6_lossGap 47 rfl) fw_RX6_49 (sO_39 hM19) (congrArg (rfV G) (sR_39_2 hM19)) ?_
      refine x_get (v := vA 32) (dA D_X6_lossGap 48 rfl) fw_RX6_70 (sO_30 hM19) (congrArg (rfV G) (sR_30_2 hM19)) ?_
      refine x_iconst (dA D_X6_lossGap 49 rfl) ?_
      refine x_iconst (dA D_X6_lossGap 50 rfl) ?_
      refine x_iload (dA D_X6_lossGap 51 rfl) rfl ?_
      refine x_iload (dA D_X6_lossGap 52 rfl) rfl ?_
      refine x_iconst (dA D_X6_lossGap 53 rfl) ?_
      refine x_callVN 8 [vI 0, vI (-1), vI v10, vI v17, vI 0] [] (dA D_X6_lossGap 54 rfl) cw_RX6_84 rfl rfl (Nat.le_of_ble_eq_true rfl) (by decide) rfl hd1 (zk k) (zk n) (sO_32 hM19) h (kU (fun M20 h => ?_))
      obtain ⟨hM20, h⟩ := h
      refine x_aload_n (dA D_X6_lossGap 55 rfl) rfl ?_
      refine x_get (v := vA 30) (dA D_X6_lossGap 56 rfl) fw_RX6_49 (sO_39 hM20) (congrArg (rfV G) (sR_39_2 hM20)) ?_
      refine x_get (v := vA 32) (dA D_X6_lossGap 57 rfl) fw_RX6_70 (sO_30 hM20) (congrArg (rfV G) (sR_30_2 hM20)) ?_
      refine x_iload (dA D_X6_lossGap 58 rfl) rfl ?_
      refine x_iload (dA D_X6_lossGap 59 rfl) rfl ?_
      refine x_aload_n (dA D_X6_lossGap 60 rfl) rfl ?_
      refine x_get (v := vA 43) (dA D_X6_lossGap 61 rfl) fw_RX6_38 (sO_39 hM20) (congrArg (rfV G) (sR_39_11 hM20)) ?_
      refine x_callV 8 [vI v10, vI v17, vA 43] [] (dA D_X6_lossGap 62 rfl) cw_RX6_94 rfl rfl (Nat.le_of_ble_eq_true rfl) (by decide) rfl hd1 (zk k) (zk n) (sO_32 hM20) h (kU (fun M21 h => ?_))
      obtain ⟨hM21, h⟩ := h
      refine x_aload_n (dA D_X6_lossGap 63 rfl) rfl ?_
      refine x_callV 5 [] [] (dA D_X6_lossGap 64 rfl) cw_RX6_127 rfl rfl (Nat.le_of_ble_eq_true rfl) (by decide) rfl hd1 (zk k) (zk n) (sO_39 hM21) h (kI (fun r23 M22 h => ?_))
      obtain ⟨hM22, h⟩ := h
      exact x_ireturn (dA D_X6_lossGap 65 rfl) rfl h
    refine x_icmp_neP (tgt := 44) (dA D_X6_lossGap 22 rfl) (by decide) h4 ⟨by decide, by decide⟩ ⟨fun c11 => ?_, fun c11 => ?_⟩
    · refine x_iload_n (dA D_X6_lossGap 27 rfl) rfl ?_
      rw [if_pos c11] at hJ
      exact hJ
    · refine x_iload_n (dA D_X6_lossGap 23 rfl) rfl ?_
      refine x_iconst (dA D_X6_lossGap 24 rfl) ?_
      refine x_isub (dA D_X6_lossGap 25 rfl) ?_
      refine x_goto (tgt := 45) (dA D_X6_lossGap 26 rfl) (by decide) ?_
      rw [if_neg (by first | omega | grind)] at hJ
      exact hJ
  refine x_if_neP (tgt := 30) (dA D_X6_lossGap 13 rfl) (by decide) h4 ⟨fun c3 => ?_, fun c3 => ?_⟩
  · refine x_iload_n (dA D_X6_lossGap 18 rfl) rfl ?_
    rw [if_pos c3] at hJ
    exact hJ
  · refine x_iload_n (dA D_X6_lossGap 14 rfl) rfl ?_
    refine x_iconst (dA D_X6_lossGap 15 rfl) ?_
    refine x_isub (dA D_X6_lossGap 16 rfl) ?_
    refine x_goto (tgt := 31) (dA D_X6_lossGap 17 rfl) (by decide) ?_
    rw [if_neg (by first | omega | grind)] at hJ
    exact hJ
theorem C_X6_lossGap {G : GG} {d : Nat} {x1 : Int} {M : MM} {Q : PV → MM → Prop} (h : X G Y_X6_lossGap d 0 0 0 [vA 39, vI x1, vU, vU, vU, vU] [] M Q) : C G Y_X6_lossGap d 0 0 [vA 39, vI x1] M Q := X.entry (by decide) (Nat.le_of_ble_eq_true rfl) rfl rfl rfl h
set_option maxRecDepth 100000 in
theorem B_X6_lawsChanged_0 {G : GG} {d : Nat} {k n : Nat} {M : MM} {Q : PV → MM → Prop} (hd : 2 ≤ d) (hS : Sh M) (h : ∀ M1, M1 = wr M 25 6 1 → Sh M1 → C G Y_X6_valuesChanged (d - 1) 0 0 [vA 39] M1 (rU (fun M2 => Sh M2 ∧ Q vU M2))) : X G Y_X6_lawsChanged d k n 0 [vA 39] [] M Q := by
  have hd1 : 1 ≤ d := by omega
  refine x_aload_n (dA D_X6_lawsChanged 0 rfl) rfl ?_
  refine x_get (v := vA 25) (dA D_X6_lawsChanged 1 rfl) fw_RX6_45 (sO_39 hS) (congrArg (rfV G) (sR_39_1 hS)) ?_
  refine x_iconst (dA D_X6_lawsChanged 2 rfl) ?_
  refine x_put (x := 1) (dA D_X6_lawsChanged 3 rfl) fw_RX6_62 (fun _ _ hc => by cases hc; exact Or.inl rfl) (sO_25 hS) rfl (z_nar (by decide)) (z_fit (by decide)) ?_
  refine x_nmM (fun M1 eM1 => ?_)
  have hM1 : Sh M1 := eM1 ▸ (sW_25_6 hS)
  have h := h M1 eM1 hM1
  refine x_aload_n (dA D_X6_lawsChanged 4 rfl) rfl ?_
  refine x_callV 5 [] [] (dA D_X6_lawsChanged 5 rfl) cw_RX6_67 rfl rfl (Nat.le_of_ble_eq_true rfl) (by decide) rfl hd1 (zk k) (zk n) (sO_39 hM1) h (kU (fun M2 h => ?_))
  obtain ⟨hM2, h⟩ := h
  exact x_return (dA D_X6_lawsChanged 6 rfl) rfl h
theorem C_X6_lawsChanged {G : GG} {d : Nat} {M : MM} {Q : PV → MM → Prop} (h : X G Y_X6_lawsChanged d 0 0 0 [vA 39] [] M Q) : C G Y_X6_lawsChanged d 0 0 [vA 39] M Q := X.entry (by decide) (Nat.le_of_ble_eq_true rfl) rfl rfl rfl h
set_option maxRecDepth 100000 in
theorem B_X6_valuesChanged_0 {G : GG} {d : Nat} {k n : Nat} {M : MM} {Q : PV → MM → Prop} (hd : 2 ≤ d) (hS : Sh M) (h : ∀ M1, M1 = begM M (32 : Int) (4 : Int) (8 : Int) → Sh M1 → ∀ M2, M2 = wr M1 39 4 0 → Sh M2 → ∀ M3, M3 = wr M2 39 7 0 → Sh M3 → ∀ M4, M4 = wr M3 39 8 0 → Sh M4 → Q vU M4) : X G Y_X6_valuesChanged d k n 0 [vA 39] [] M Q := by
  have hd1 : 1 ≤ d := by omega
  refine x_aload_n (dA D_X6_valuesChanged 0 rfl) rfl ?_
  refine x_get (v := vA 30) (dA D_X6_valuesChanged 1 rfl) fw_RX6_49 (sO_39 hS) (congrArg (rfV G) (sR_39_2 hS)) ?_
  refine x_get (v := vA 32) (dA D_X6_valuesChanged 2 rfl) fw_RX6_70 (sO_30 hS) (congrArg (rfV G) (sR_30_2 hS)) ?_
  refine x_iconst (dA D_X6_valuesChanged 3 rfl) ?_
  refine x_bipush (dA D_X6_valuesChanged 4 rfl) (by decide) (by decide) ?_
  refine x_callV 8 [vI 4, vI 8] [] (dA D_X6_valuesChanged 5 rfl) cw_RX6_75 rfl rfl (Nat.le_of_ble_eq_true rfl) (by decide) rfl hd1 (zk k) (zk n) (sO_32 hS) (S_X9_begins (z := 32) (Or.inl rfl) hS  (by omega) ?_) (kU (fun _ h => h))
  refine x_nmM (fun M1 eM1 => ?_)
  have hM1 : Sh M1 := eM1 ▸ (sBeg (by decide) hS)
  have h := h M1 eM1 hM1
  show X G Y_X6_valuesChanged d k n 13 [vA 39] [] M1 Q
  refine x_aload_n (dA D_X6_valuesChanged 6 rfl) rfl ?_
  refine x_iconst (dA D_X6_valuesChanged 7 rfl) ?_
  refine x_put (x := 0) (dA D_X6_valuesChanged 8 rfl) fw_RX6_9 (fun _ _ hc => by cases hc; exact Or.inl rfl) (sO_39 hM1) rfl (z_nar (by decide)) (z_fit (by decide)) ?_
  refine x_nmM (fun M2 eM2 => ?_)
  have hM2 : Sh M2 := eM2 ▸ (sW_39_4 hM1)
  have h := h M2 eM2 hM2
  refine x_aload_n (dA D_X6_valuesChanged 9 rfl) rfl ?_
  refine x_iconst (dA D_X6_valuesChanged 10 rfl) ?_
  refine x_put (x := 0) (dA D_X6_valuesChanged 11 rfl) fw_RX6_23 (fun _ _ hc => by cases hc; exact Or.inl rfl) (sO_39 hM2) rfl (z_nar (by decide)) (z_fit (by decide)) ?_
  refine x_nmM (fun M3 eM3 => ?_)
  have hM3 : Sh M3 := eM3 ▸ (sW_39_7 hM2)
  have h := h M3 eM3 hM3
  refine x_aload_n (dA D_X6_valuesChanged 12 rfl) rfl ?_
  refine x_iconst (dA D_X6_valuesChanged 13 rfl) ?_
  refine x_put (x := 0) (dA D_X6_valuesChanged 14 rfl) fw_RX6_26 (fun _ _ hc => by cases hc; exact Or.inl rfl) (sO_39 hM3) rfl (z_nar (by decide)) (z_fit (by decide)) ?_
  refine x_nmM (fun M4 eM4 => ?_)
  have hM4 : Sh M4 := eM4 ▸ (sW_39_8 hM3)
  have h := h M4 eM4 hM4
  exact x_return (dA D_X6_valuesChanged 15 rfl) rfl h
theorem C_X6_valuesChanged {G : GG} {d : Nat} {M : MM} {Q : PV → MM → Prop} (h : X G Y_X6_valuesChanged d 0 0 0 [vA 39] [] M Q) : C G Y_X6_valuesChanged d 0 0 [vA 39] M Q := X.entry (by decide) (Nat.le_of_ble_eq_true rfl) rfl rfl rfl h
